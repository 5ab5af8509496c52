/-! ===== pure: the reference's prices ===== -/
def RowsM (S : St) (k : Nat) (B : Nat → Nat → Int) (b : Nat → Int) : Prop := S.1 25 19 = nI k ∧ k ≤ 6 ∧ (∀ i j, i < k → j < k → S.2 37 (6 * i + j) = zL (B i j)) ∧ ∀ i, i < k → S.2 38 i = zL (b i)
def s32 (n : Nat) : Int32 := if n % 2 = 0 then 1 else -1
theorem s32_neg (n : Nat) : - s32 n = s32 (n + 1) := by
  unfold s32
  by_cases h : n % 2 = 0
  · rw [if_pos h, if_neg (by omega)]
  · rw [if_neg h, if_pos (by omega)]; decide
theorem s32_zL (n : Nat) : (s32 n).toInt64 = zL (sg n) := by
  unfold s32 sg
  split <;> decide
def dm (B : Nat → Nat → Int) (k r o : Nat) : Int := lpl ((List.range' r (k - r)).map B) (ldf (full k) o)
theorem rem_bit {k o : Nat} (hk : k ≤ 6) (c : Nat) : (ldf (full k) o).testBit c = (decide (c < k) && !o.testBit c) := by
  rw [ldf_bit (Nat.lt_trans (full_lt hk) (by decide)), full_bit]
theorem rem_del {k o c : Nat} (hk : k ≤ 6) : del (ldf (full k) o) c = ldf (full k) (o ||| 2 ^ c) := eq_bits fun i => by
  have h1 : ldf (full k) o < 2 ^ 32 := Nat.lt_of_le_of_lt (ldf_le _ _) (Nat.lt_trans (full_lt hk) (by decide))
  rw [del_bit h1, rem_bit hk, rem_bit hk, Nat.testBit_or, pow_bit]
  cases decide (i < k) <;> cases o.testBit i <;> cases decide (c = i) <;> rfl
theorem pc_zero : ∀ C, C < 64 → pc C = 0 → C = 0 := by decide +kernel
theorem sp_detM {S : St} {k : Nat} {B : Nat → Nat → Int} {b : Nat → Int} {p : Int32} (hR : RowsM S k B b) : ∀ (n f r o : Nat), n < f → r + n = k → o < 64 → pc (ldf (full k) o) = n → ∀ {post : Int64 → St → Prop}, post (zL (dm (Arp B b p) k r o)) S → wp_X6_determinant f S (nI r) (nI o) p post := by
  obtain ⟨hk19, hk, hB, hb⟩ := hR
  intro n
  induction n with
  | zero =>
    intro f r o hf hr ho hpc post h
    match f, hf with
    | f + 1, _ =>
      have e : r = k := by omega
      subst e
      refine ⟨fun q => absurd hk19.symm q, fun _ => ?_⟩
      have hz := pc_zero _ (Nat.lt_of_le_of_lt (ldf_le _ _) (full_lt hk)) hpc
      have e1 : dm (Arp B b p) r r o = 1 := by
        unfold dm
        rw [Nat.sub_self, hz]
        rfl
      rw [e1] at h
      exact h
  | succ n ih =>
    intro f r o hf hr ho hpc post h
    match f, hf with
    | f + 1, hf =>
      have hRlt : ldf (full k) o < 64 := Nat.lt_of_le_of_lt (ldf_le _ _) (full_lt hk)
      have hlist : List.range' r (k - r) = r :: List.range' (r + 1) (k - (r + 1)) := by
        rw [show k - r = (k - (r + 1)) + 1 by omega, List.range'_succ]
      let g : Nat → Int := fun c => if (ldf (full k) o).testBit c then sL (ldf (full k) o) c * Arp B b p r c * dm (Arp B b p) k (r + 1) (o ||| 2 ^ c) else 0
      have hdm : dm (Arp B b p) k r o = fb_si g k := by
        have h1 : dm (Arp B b p) k r o = fb_si g 7 := by
          unfold dm
          rw [hlist]
          show Lop _ _ _ = _
          refine fb_si_cong (fun c _ => ?_)
          show _ = (if (ldf (full k) o).testBit c then _ else 0)
          rw [rem_del hk]
          rfl
        rw [h1]
        exact si_more g (fun c hc => by
          show (if (ldf (full k) o).testBit c then _ else (0 : Int)) = 0
          rw [rem_bit hk]
          simp [show ¬ c < k by omega]) 7 (by omega)
      rw [hdm] at h
      refine ⟨fun _ => ?_, fun q => ?_⟩
      · refine lp_up (X := fun fu i => wL_X6_determinant_19 (wp_X6_determinant f) (nI r) (nI o) p (fun z2 _ _ S1 => post z2 S1) fu (zL (fb_si g i)) (s32 (cl (ldf (full k) o) i)) (nI i) S) (Nat.zero_le k) (fun fu => ?_) (fun fu i _ hi hrec => ?_)
        · refine ⟨fun _ => h, fun q => ?_⟩
          rw [hk19] at q
          exact absurd (nI_le (Nat.le_refl _) (by omega)) q
        · have e0 : fb_si g (i + 1) = fb_si g i + g i := fb_si_succ _ _
          have ec := cl_succ (ldf (full k) o) i
          refine ⟨fun q => ?_, fun _ => br_bit (by omega) (by omega) (fun hbit => ?_) (fun hbit => ?_)⟩
          · rw [hk19] at q
            exact absurd q (nI_ge hi (by omega))
          · -- a column that is still there
            have hin : (ldf (full k) o).testBit i = true := by rw [rem_bit hk, hbit]; simp [hi]
            have hgi : g i = sg (cl (ldf (full k) o) i) * Arp B b p r i * dm (Arp B b p) k (r + 1) (o ||| 2 ^ i) := if_pos hin
            rw [hin, if_pos rfl] at ec
            have fin : ∀ x2 : Int64, x2 = zL (Arp B b p r i) → (x2 = (0 : Int64) → ∀ x3 : Int32, x3 = (-(s32 (cl (ldf (full k) o) i))) → wL_X6_determinant_19 (wp_X6_determinant f) (nI r) (nI o) p (fun z2 _ _ S1 => post z2 S1) fu (zL (fb_si g i)) x3 (nI i + 1) S) ∧ (¬ (x2 = (0 : Int64)) → wp_X6_determinant f S (nI r + (1 : Int32)) (nI o ||| ((1 : Int32) <<< (nI i &&& 31))) p (fun (r5 : Int64) (S4 : St) => ∀ x6 : Int64, x6 = (zL (fb_si g i) + (((s32 (cl (ldf (full k) o) i)).toInt64 * x2) * r5)) → ∀ x7 : Int32, x7 = (-(s32 (cl (ldf (full k) o) i))) → wL_X6_determinant_19 (wp_X6_determinant f) (nI r) (nI o) p (fun z2 _ _ S1 => post z2 S1) fu x6 x7 (nI i + 1) S4)) := by
              intro x2 e2
              refine ⟨fun hz x3 e3 => ?_, fun _ => ?_⟩
              · have hzl : zL (g i) = 0 := by
                  rw [hgi, ← zL_mul, ← zL_mul, ← e2, hz, Int64.mul_zero, Int64.zero_mul]
                rw [s32_neg, ← ec] at e3
                have e9 : zL (fb_si g (i + 1)) = zL (fb_si g i) := by rw [e0, ← zL_add, hzl, Int64.add_zero]
                rw [e9] at hrec
                rw [e3, nI_1]
                exact hrec
              · rw [nI_1, nI_or_pow (by omega)]
                have ok := okM_all (ldf (full k) o) hRlt i (by omega)
                simp only [okM, hin, Bool.not_true, Bool.false_or, Bool.and_eq_true, beq_iff_eq, decide_eq_true_eq] at ok
                have o1 := ok.1.1.1.1
                rw [rem_del hk] at o1
                refine ih f (r + 1) (o ||| 2 ^ i) (by omega) (by omega) (or_lt (n := 6) ho (Nat.pow_lt_pow_right (by decide) (by omega))) (by omega) (fun x6 e6 x7 e7 => ?_)
                rw [s32_zL, e2, zL_mul, zL_mul, zL_add, ← hgi, ← e0] at e6
                rw [s32_neg, ← ec] at e7
                rw [e6, e7, nI_1]
                exact hrec
            refine ⟨fun hne => ⟨?_, fun x2 e2 => fin x2 ?_⟩, fun heq => ⟨vp_in_nI (by omega) (by decide), fun x9 e9 => fin x9 ?_⟩⟩
            · rw [ix6]; exact vp_in_nI (by omega) (by decide)
            · rw [e2, ix6, nI_clamp (by omega), hB r i (by omega) hi]
              unfold Arp
              rw [if_neg hne]
            · rw [e9, nI_clamp (by omega), hb r (by omega)]
              unfold Arp
              rw [if_pos heq]
          · have hin : (ldf (full k) o).testBit i = false := by rw [rem_bit hk, hbit]; simp
            have hgi : g i = 0 := by
              show (if (ldf (full k) o).testBit i then _ else (0 : Int)) = 0
              rw [hin]; rfl
            rw [hin] at ec
            simp only [Bool.false_eq_true, if_false, Nat.add_zero] at ec
            rw [e0, hgi, Int.add_zero, ec] at hrec
            rw [nI_1]
            exact hrec
      · rw [hk19, nI_eq (by omega) (by omega)] at q
        omega
/-- the i-th of a mask's places -/
def plc (N i : Nat) : Nat := ((List.range 6).filter (fun q => N.testBit q)).getD i 0
def okP (N i : Nat) : Bool := (!decide (i < cl N 6) || (N.testBit (plc N i) && cl N (plc N i) == i && decide (plc N i < 6))) && (!N.testBit i || plc N (cl N i) == i)
theorem okP_all : ∀ N, N < 64 → ∀ i, i < 6 → okP N i = true := by decide +kernel
theorem plc_ok {N i : Nat} (hN : N < 64) (hi : i < cl N 6) : N.testBit (plc N i) = true ∧ cl N (plc N i) = i ∧ plc N i < 6 := by
  have h := okP_all N hN i (by have := cl_le N 6; omega)
  simp only [okP, hi, decide_true, Bool.not_true, Bool.false_or, Bool.and_eq_true, beq_iff_eq, decide_eq_true_eq] at h
  exact ⟨h.1.1.1, h.1.1.2, h.1.2⟩
theorem plc_cl {N q : Nat} (hN : N < 64) (hq : q < 6) (h : N.testBit q = true) : plc N (cl N q) = q := by
  have h2 := okP_all N hN q hq
  simp only [okP, h, Bool.not_true, Bool.false_or, Bool.and_eq_true, beq_iff_eq] at h2
  exact h2.2
theorem cl_lt_of {N q : Nat} (hN : N < 64) (h : N.testBit q = true) : cl N q < cl N 6 := by
  have h6 : q < 6 := bit_lt (n := 6) hN h
  have h1 : cl N (q + 1) = cl N q + 1 := by rw [cl_succ, h]; rfl
  have h2 : cl N (q + 1) ≤ cl N 6 := fb_ct_mono _ (by omega)
  omega
def kM (d : Dw) (T : Nat) : Nat := cl (need d T) 6
def BM (d : Dw) (T i j : Nat) : Int := AX d T (plc (need d T) i) (plc (need d T) j)
def bM (d : Dw) (T i : Nat) : Int := bX d T (plc (need d T) i)
/-- what the reference's prices change -/
def Mf (S S' : St) : Prop := (∀ k, k ≠ 25 → k ≠ 36 → S'.1 k = S.1 k) ∧ (∀ j, j ≠ 19 → S'.1 25 j = S.1 25 j) ∧ (∀ k, k ≠ 25 → k ≠ 37 → k ≠ 38 → k ≠ 39 → S'.2 k = S.2 k) ∧ ∀ j, j ≠ 20 → S'.2 25 j = S.2 25 j
theorem Mf.refl (S : St) : Mf S S := ⟨fun _ _ _ => rfl, fun _ _ => rfl, fun _ _ _ _ _ => rfl, fun _ _ => rfl⟩
theorem Mf.trans {S S' S2 : St} (h : Mf S S') (g : Mf S' S2) : Mf S S2 := ⟨fun k a b => (g.1 k a b).trans (h.1 k a b), fun j a => (g.2.1 j a).trans (h.2.1 j a), fun k a b c e => (g.2.2.1 k a b c e).trans (h.2.2.1 k a b c e), fun j a => (g.2.2.2 j a).trans (h.2.2.2 j a)⟩
theorem MW.mf {S S' : St} {d : Dw} {m : Nat} (h : MW S d m) (hf : Mf S S') : MW S' d m := by
  obtain ⟨h1, h2, h3, h4, h5, h6⟩ := h
  refine ⟨?_, ?_, fun w hw => ?_, fun w hw => ?_, fun w u hw hu => ?_, fun w v hw hv => ?_⟩
  · rw [hf.2.1 8 (by decide)]; exact h1
  · rw [hf.2.1 9 (by decide)]; exact h2
  · rw [hf.1 26 (by decide) (by decide)]; exact h3 w hw
  · rw [hf.1 27 (by decide) (by decide)]; exact h4 w hw
  · rw [hf.1 28 (by decide) (by decide)]; exact h5 w u hw hu
  · rw [hf.1 29 (by decide) (by decide)]; exact h6 w v hw hv
theorem Mf.uJ {S : St} {k j : Nat} {v : Int64} (h : k = 37 ∨ k = 38 ∨ k = 39 ∨ (k = 25 ∧ j = 20)) : Mf S (uJ S k j v) := by
  refine ⟨fun _ _ _ => rfl, fun _ _ => rfl, fun q a b c e => uJ_row (by omega), fun q a => uJ_ne (fun z => ?_)⟩
  have := z.1
  have := z.2
  omega
theorem Mf.uI {S : St} {k j : Nat} {v : Int32} (h : k = 36 ∨ (k = 25 ∧ j = 19)) : Mf S (uI S k j v) := by
  refine ⟨fun q a b => uI_row (by omega), fun q a => uI_ne (fun z => ?_), fun _ _ _ _ _ => rfl, fun _ _ => rfl⟩
  have := z.1
  have := z.2
  omega
theorem br_bit0 {g i : Nat} {A B : Prop} (hg : g < 2 ^ 31) (hi : i < 32) (ht : g.testBit i = true → A) (hf : g.testBit i = false → B) : (¬ ((nI g >>> (nI i &&& 31)) &&& 1) = 0 → A) ∧ (((nI g >>> (nI i &&& 31)) &&& 1) = 0 → B) := by
  refine ⟨fun q => ht ?_, fun q => hf ((bit_ask0 hg hi).mp q)⟩
  cases h : g.testBit i with
  | true => rfl
  | false => exact absurd ((bit_ask0 hg hi).mpr h) q
theorem cl_n {d : Dw} (hd : Okd d) (T : Nat) : cl (need d T) (dn d) = kM d T := by
  have hn := hd.1
  have key : ∀ m, dn d ≤ m → m ≤ 6 → cl (need d T) m = cl (need d T) (dn d) := by
    intro m
    induction m with
    | zero => intro h _; rw [show dn d = 0 by omega]
    | succ m ih =>
      intro h h6
      by_cases e : dn d = m + 1
      · rw [e]
      · rw [cl_succ, ih (by omega) (by omega)]
        cases hb : (need d T).testBit m with
        | false => rfl
        | true => have := need_n hd hb; omega
  exact (key 6 hn (Nat.le_refl 6)).symm
theorem place_loop {S : St} {d : Dw} {m : Nat} (hd : Okd d) (hW : MW S d m) {T : Nat} {p1 : Int32} (h19 : S.1 25 19 = 0) {K : Int32 → St → Prop} (h : ∀ S', Mf S S' → S'.1 25 19 = nI (kM d T) → (∀ i, i < kM d T → S'.1 36 i = nI (plc (need d T) i)) → (∀ w, w < dn d → S'.2 39 w = zL 0) → K (nI (dn d)) S') : ∃ f, wL_X6_prices_18 p1 (nI (need d T)) K f 0 S := by
  have hn := hd.1
  have hN := need_lt hd T
  have key : ∀ n i (S1 : St), i + n = dn d → Mf S S1 → S1.1 25 19 = nI (cl (need d T) i) → (∀ q, q < i → (need d T).testBit q = true → S1.1 36 (cl (need d T) q) = nI q) → (∀ w, w < i → S1.2 39 w = zL 0) → wL_X6_prices_18 p1 (nI (need d T)) K (n + 1) (nI i) S1 := by
    intro n
    induction n with
    | zero =>
      intro i S1 hi hf g1 g2 g3
      have e : i = dn d := by omega
      subst e
      refine ⟨fun _ => h S1 hf ?_ (fun j hj => ?_) g3, fun q => ?_⟩
      · rw [g1, cl_n hd]
      · obtain ⟨a1, a2, a3⟩ := plc_ok hN hj
        have := g2 (plc (need d T) j) (need_n hd a1) a1
        rw [a2] at this
        exact this
      · rw [(hW.mf hf).1] at q
        exact absurd (nI_le (Nat.le_refl _) (by omega)) q
    | succ n ih =>
      intro i S1 hi hf g1 g2 g3
      refine ⟨fun q => ?_, fun _ => ⟨vp_in_nI (by omega) (by decide), fun S2 e2 => ?_⟩⟩
      · rw [(hW.mf hf).1] at q
        exact absurd q (nI_ge (by omega) (by omega))
      · rw [nI_clamp (by omega)] at e2
        have hf2 : Mf S S2 := hf.trans (by rw [e2]; exact Mf.uJ (by omega))
        have h2I : S2.1 = S1.1 := by rw [e2]; rfl
        have h39 : ∀ w, w < i + 1 → S2.2 39 w = zL 0 := fun w hw => by
          rw [e2]
          by_cases e : w = i
          · subst e; rw [uJ_at]; rfl
          · rw [uJ_ne (fun z => e z.2)]; exact g3 w (by omega)
        have hcle : cl (need d T) i ≤ i := cl_le _ _
        refine br_bit0 (by omega) (by omega) (fun hb => ⟨?_, fun S4 e4 S5 e5 => ?_⟩) (fun hb => ?_)
        · rw [h2I, g1]; exact vp_in_nI (by omega) (by decide)
        · rw [h2I, g1, nI_clamp (by omega)] at e4
          have e19 : S4.1 25 19 = nI (cl (need d T) i) := by rw [e4, uI_row (by decide), h2I]; exact g1
          rw [e19, nI_1] at e5
          rw [nI_1]
          refine ih (i + 1) S5 (by omega) (hf2.trans ?_) ?_ (fun q hq hqb => ?_) (fun w hw => ?_)
          · rw [e5, e4]; exact (Mf.uI (by omega)).trans (Mf.uI (by omega))
          · rw [e5, uI_at, cl_succ, hb]; rfl
          · rw [e5, uI_row (by decide), e4]
            by_cases e : q = i
            · subst e; rw [uI_at]
            · have hlt : cl (need d T) q ≠ cl (need d T) i := fun z => e (fb_ct_kth_one (p := fun i => (need d T).testBit i) hqb hb z)
              rw [uI_ne (fun z => hlt z.2), h2I]
              exact g2 q (by omega) hqb
          · rw [e5, e4]; exact h39 w hw
        · rw [nI_1]
          refine ih (i + 1) S2 (by omega) hf2 ?_ (fun q hq hqb => ?_) h39
          · rw [h2I, g1, cl_succ, hb]; rfl
          · rw [h2I]
            by_cases e : q = i
            · subst e; rw [hb] at hqb; cases hqb
            · exact g2 q (by omega) hqb
  exact ⟨dn d + 1, key (dn d) 0 S (by omega) (Mf.refl S) h19 (fun q hq => absurd hq (Nat.not_lt_zero q)) (fun q hq => absurd hq (Nat.not_lt_zero q))⟩
