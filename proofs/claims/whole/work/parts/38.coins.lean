/-! ===== pure: whole coins ===== -/
def CO (T C D : Nat) (bn : Nat → Nat) : Prop := 0 < D ∧ D < 2 ^ 62 ∧ (∀ u, u < 8 → bn u < 2 ^ 62) ∧ (∀ u, T.testBit u = false → bn u = 0) ∧ fb_sm bn 8 = C * D ∧ C ≤ 67800 ∧ T < 256
def bsN (f : Nat → Int) : Nat → Nat
  | 0 => 0
  | n + 1 => if f (bsN f n) < f n then n else bsN f n
def fvl (T D : Nat) (bn : Nat → Nat) (h : Nat → Bool) (u : Nat) : Int := if T.testBit u && !h u then ((bn u % D : Nat) : Int) else -1
def hsn (T D : Nat) (bn : Nat → Nat) : Nat → Nat → Bool
  | 0 => fun _ => false
  | j + 1 => fun u => hsn T D bn j u || decide (u = bsN (fvl T D bn (hsn T D bn j)) 8)
def lft (C D : Nat) (bn : Nat → Nat) : Nat := C - fb_sm (fun u => bn u / D) 8
def coin (T D : Nat) (bn : Nat → Nat) (j u : Nat) : Nat := bn u / D + (if hsn T D bn j u then 1 else 0)
theorem bsN_lt (f : Nat → Int) : ∀ n, 0 < n → bsN f n < n
  | n + 1, _ => by
    show (if f (bsN f n) < f n then n else bsN f n) < n + 1
    split
    · omega
    · rcases Nat.eq_zero_or_pos n with e | e
      · subst e; exact Nat.lt_succ_self 0
      · have := bsN_lt f n e; omega
theorem bsN_max (f : Nat → Int) : ∀ n i, i < n → f i ≤ f (bsN f n)
  | n + 1, i, hi => by
    show f i ≤ f (if f (bsN f n) < f n then n else bsN f n)
    by_cases e : i = n
    · subst e
      split
      · exact Int.le_refl _
      · omega
    · have := bsN_max f n i (by omega)
      split
      · omega
      · exact this
theorem bsN_ext (f : Nat → Int) {m : Nat} (h0 : 0 ≤ f (bsN f m)) : ∀ n, m ≤ n → (∀ j, m ≤ j → j < n → f j = -1) → bsN f n = bsN f m
  | 0, hb, _ => by rw [show m = 0 by omega]
  | n + 1, hb, h => by
    by_cases e : m = n + 1
    · rw [e]
    · have ih := bsN_ext f h0 n (by omega) (fun j h1 h2 => h j h1 (by omega))
      show (if f (bsN f n) < f n then n else bsN f n) = _
      rw [ih, h n (by omega) (by omega), if_neg (by omega)]
theorem fvl_ge (T D : Nat) (bn : Nat → Nat) (h : Nat → Bool) (u : Nat) : -1 ≤ fvl T D bn h u := by
  unfold fvl
  split <;> omega
theorem fvl_in {T D : Nat} {bn : Nat → Nat} {h : Nat → Bool} {u : Nat} (hu : (T.testBit u && !h u) = true) : fvl T D bn h u = ((bn u % D : Nat) : Int) := by unfold fvl; rw [hu]; rfl
theorem fvl_out {T D : Nat} {bn : Nat → Nat} {h : Nat → Bool} {u : Nat} (hu : (T.testBit u && !h u) = false) : fvl T D bn h u = -1 := by unfold fvl; rw [hu]; rfl
theorem fvl_nn {T D : Nat} {bn : Nat → Nat} {h : Nat → Bool} {u : Nat} (hu : 0 ≤ fvl T D bn h u) : (T.testBit u && !h u) = true := by
  cases hb : (T.testBit u && !h u) with
  | true => rfl
  | false => rw [fvl_out hb] at hu; omega
theorem hsn_ct (T D : Nat) (bn : Nat → Nat) : ∀ j, fb_ct (hsn T D bn j) 8 ≤ j
  | 0 => by rw [show fb_ct (hsn T D bn 0) 8 = 0 from fb_ct_zero.mpr (fun _ _ => rfl)]; exact Nat.le_refl _
  | j + 1 => by
    have ih := hsn_ct T D bn j
    have hb := bsN_lt (fvl T D bn (hsn T D bn j)) 8 (by decide)
    have h1 := fb_ct_upd (hsn T D bn j) true hb
    have h2 : fb_ct (hsn T D bn (j + 1)) 8 = fb_ct (fun k => if k = bsN (fvl T D bn (hsn T D bn j)) 8 then true else hsn T D bn j k) 8 := fb_ct_cong (fun k _ => by
      show (hsn T D bn j k || decide (k = bsN (fvl T D bn (hsn T D bn j)) 8)) = _
      by_cases e : k = bsN (fvl T D bn (hsn T D bn j)) 8
      · rw [if_pos e, decide_eq_true e, Bool.or_true]
      · rw [if_neg e, decide_eq_false e, Bool.or_false])
    rw [if_pos rfl] at h1
    omega
theorem sm_ct (p : Nat → Bool) (X : Nat) : ∀ n, fb_sm (fun v => if p v then X else 0) n = fb_ct p n * X
  | 0 => by show 0 = 0 * X; omega
  | n + 1 => by
    rw [fb_sm_succ, fb_ct_succ, sm_ct p X n]
    cases p n <;> simp [Nat.add_mul]
theorem CO.q {T C D : Nat} {bn : Nat → Nat} (h : CO T C D bn) : fb_sm (fun u => bn u / D) 8 * D + fb_sm (fun u => bn u % D) 8 = C * D := by
  rw [← h.2.2.2.2.1, ← sm_mul, ← fb_sm_add]
  exact fb_sm_cong (fun u _ => by rw [Nat.mul_comm]; exact Nat.div_add_mod _ _)
theorem CO.qle {T C D : Nat} {bn : Nat → Nat} (h : CO T C D bn) : fb_sm (fun u => bn u / D) 8 ≤ C := by
  have := h.q
  exact Nat.le_of_mul_le_mul_right (by omega : fb_sm (fun u => bn u / D) 8 * D ≤ C * D) h.1
theorem CO.part {T C D : Nat} {bn : Nat → Nat} (h : CO T C D bn) {i : Nat} (hi : i ≤ 8) : fb_sm (fun u => bn u / D) i ≤ C := by
  have h1 := fb_sm_mono (fun u => bn u / D) i (8 - i)
  rw [show i + (8 - i) = 8 by omega] at h1
  have := h.qle
  omega
theorem CO.one {T C D : Nat} {bn : Nat → Nat} (h : CO T C D bn) {u : Nat} (hu : u < 8) : bn u / D ≤ C := by
  have h1 := fb_sm_part (fun u => bn u / D) hu
  have := h.qle
  omega
theorem CO.left {T C D : Nat} {bn : Nat → Nat} (h : CO T C D bn) : lft C D bn ≤ pc T := by
  have h1 := h.q
  have h2 := h.qle
  have h3 : fb_sm (fun u => bn u % D) 8 ≤ pc T * D := by
    unfold pc
    rw [← sm_ct]
    refine fb_sm_le (fun u _ => ?_)
    cases hb : T.testBit u with
    | true => exact Nat.le_of_lt (Nat.mod_lt _ h.1)
    | false => rw [h.2.2.2.1 u hb]; simp
  have h4 : lft C D bn * D ≤ pc T * D := by
    unfold lft
    rw [Nat.sub_mul]
    omega
  exact Nat.le_of_mul_le_mul_right h4 h.1
theorem CO.cand {T C D : Nat} {bn : Nat → Nat} (h : CO T C D bn) {j : Nat} (hj : j < lft C D bn) : ∃ u, u < 8 ∧ (T.testBit u && !hsn T D bn j u) = true := by
  refine Classical.byContradiction fun hx => ?_
  have h1 : pc T ≤ fb_ct (hsn T D bn j) 8 := by
    refine fb_ct_sub (fun k hk hp => ?_)
    cases hb : hsn T D bn j k with
    | true => rfl
    | false => exact absurd ⟨k, hk, by simp [hp, hb]⟩ hx
  have h2 := hsn_ct T D bn j
  have h3 := h.left
  omega
theorem CO.best {T C D : Nat} {bn : Nat → Nat} (h : CO T C D bn) {j : Nat} (hj : j < lft C D bn) : 0 ≤ fvl T D bn (hsn T D bn j) (bsN (fvl T D bn (hsn T D bn j)) 8) := by
  obtain ⟨u, hu, hc⟩ := h.cand hj
  have := bsN_max (fvl T D bn (hsn T D bn j)) 8 u hu
  rw [fvl_in hc] at this
  omega
theorem hsn_in {T C D : Nat} {bn : Nat → Nat} (h : CO T C D bn) : ∀ j, j ≤ lft C D bn → ∀ u, hsn T D bn j u = true → T.testBit u = true
  | 0, _, _, hu => by cases hu
  | j + 1, hj, u, hu => by
    replace hu : (hsn T D bn j u || decide (u = bsN (fvl T D bn (hsn T D bn j)) 8)) = true := hu
    simp only [Bool.or_eq_true, decide_eq_true_eq] at hu
    rcases hu with q | q
    · exact hsn_in h j (by omega) u q
    · have := fvl_nn (h.best (show j < lft C D bn by omega))
      rw [q]
      simp only [Bool.and_eq_true] at this
      exact this.1
theorem i32_lN (n : Nat) : (lN n).toInt32 = nI n := Int64.toInt32_ofNat
theorem nI_l64 {n : Nat} (h : n < 2 ^ 31) : (nI n).toInt64 = lN n := by rw [zL_nI h, zL_lN]
/-- the greatest rest of the class -/
theorem sp_greatest {S : St} {f : Nat → Int} (h20 : ∀ u, u < 8 → S.2 20 u = zL (f u) ∧ -1 ≤ f u ∧ f u < 2 ^ 62) {post : Int32 → St → Prop} (h : post (nI (bsN f 8)) S) : wp_X2_greatestRest S post := by
  have e1 : bsN f 1 = 0 := by
    show (if f (bsN f 0) < f 0 then 0 else bsN f 0) = 0
    split <;> rfl
  have hgo : ∃ n, wL_X2_greatestRest_4 (fun (z2 : Int32) (_ : Int32) (S1 : St) => post z2 S1) n (nI (bsN f 1)) (nI 1) S := ?_
  · rw [e1] at hgo
    exact hgo
  refine lp_up (X := fun n i => wL_X2_greatestRest_4 (fun (z2 : Int32) (_ : Int32) (S1 : St) => post z2 S1) n (nI (bsN f i)) (nI i) S) (N := 8) (a := 1) (by decide) (fun n => ⟨fun _ => h, fun q => absurd (by decide) q⟩) (fun n i h1 hi hrec => ?_)
  have hb := bsN_lt f i (by omega)
  refine ⟨fun q => absurd q (nI_ge (a := i) (b := 8) hi (by decide)), fun _ => ⟨vp_in_nI hi (by decide), vp_in_nI (by omega) (by decide), ?_⟩⟩
  obtain ⟨a1, a2, a3⟩ := h20 i hi
  obtain ⟨b1, b2, b3⟩ := h20 (bsN f i) (by omega)
  rw [nI_clamp (by omega), nI_clamp (by omega), a1, b1, Int64.le_iff_toInt_le, zL_toInt (by omega) (by omega), zL_toInt (by omega) (by omega), nI_1]
  have e : bsN f (i + 1) = if f (bsN f i) < f i then i else bsN f i := rfl
  refine ⟨fun q => ?_, fun q => ?_⟩
  · rw [e, if_neg (by omega)] at hrec
    exact hrec
  · rw [e, if_pos (by omega)] at hrec
    exact hrec
theorem cut_fill {S : St} {T C D : Nat} {bn : Nat → Nat} (hC : CO T C D bn) {k1 : Nat} (h4 : S.2 4 1 = lN D) (h19 : ∀ u, u < 8 → S.2 19 u = lN (bn u)) {K : Int32 → Int32 → St → Prop} (h : ∀ S', (∀ k, k ≠ k1 → S'.1 k = S.1 k) → (∀ k, k ≠ 20 → S'.2 k = S.2 k) → (∀ u, u < 8 → S'.1 k1 u = nI (bn u / D)) → (∀ u, u < 8 → S'.2 20 u = zL (fvl T D bn (hsn T D bn 0) u)) → K (nI (lft C D bn)) 8 S') : ∃ f, wL_X2_cutInto_16 k1 8 (nI T) K f (nI C) 0 S := by
  obtain ⟨c1, c2, c3, c4, c5, c6, c7⟩ := hC
  have hC : CO T C D bn := ⟨c1, c2, c3, c4, c5, c6, c7⟩
  have key : ∀ n i (S2 : St), i + n = 8 → (∀ k, k ≠ k1 → S2.1 k = S.1 k) → (∀ k, k ≠ 20 → S2.2 k = S.2 k) → (∀ u, u < i → S2.1 k1 u = nI (bn u / D)) → (∀ u, u < i → S2.2 20 u = zL (fvl T D bn (hsn T D bn 0) u)) → wL_X2_cutInto_16 k1 8 (nI T) K (n + 1) (nI (C - fb_sm (fun u => bn u / D) i)) (nI i) S2 := by
    intro n
    induction n with
    | zero =>
      intro i S2 hi g1 g2 g3 g4
      have e : i = 8 := by omega
      subst e
      exact ⟨fun _ => h S2 g1 g2 g3 g4, fun q => absurd (by decide) q⟩
    | succ n ih =>
      intro i S2 hi g1 g2 g3 g4
      have hi8 : i < 8 := by omega
      have hbn := c3 i hi8
      have hD4 : S2.2 4 1 = lN D := by rw [g2 4 (by decide)]; exact h4
      have h19i : S2.2 19 i = lN (bn i) := by rw [g2 19 (by decide)]; exact h19 i hi8
      have hne : ¬ S2.2 4 1 = 0 := by rw [hD4, lN_0 (by omega)]; omega
      have hq := hC.one hi8
      refine ⟨fun q => absurd q (nI_ge (a := i) (b := 8) hi8 (by decide)), fun _ => ⟨vp_in_nI hi8 (by decide), hne, vp_in_nI hi8 (by decide), fun S4 e4 => ?_⟩⟩
      rw [nI_clamp (by omega), h19i, hD4, pk_lDiv (by omega) c1 (by omega), i32_lN] at e4
      have e42 : S4.2 = S2.2 := by rw [e4]; rfl
      have next : ∀ (v : Int64) (S5 : St) (x : Int32), S5 = uJ S4 20 i v → v = zL (fvl T D bn (hsn T D bn 0) i) → x = nI (C - fb_sm (fun u => bn u / D) i) - S5.1 k1 i → wL_X2_cutInto_16 k1 8 (nI T) K (n + 1) x (nI i + 1) S5 := by
        intro v S5 x e5 ev ex
        have h5k : S5.1 k1 i = nI (bn i / D) := by rw [e5]; show S4.1 k1 i = _; rw [e4, uI_at]
        have hps := hC.part (i := i + 1) (by omega)
        rw [fb_sm_succ] at hps
        rw [h5k, pk_sub (by omega)] at ex
        have e7 : C - fb_sm (fun u => bn u / D) i - bn i / D = C - fb_sm (fun u => bn u / D) (i + 1) := by rw [fb_sm_succ]; omega
        rw [e7] at ex
        rw [ex, nI_1]
        refine ih (i + 1) S5 (by omega) (fun k hk => ?_) (fun k hk => ?_) (fun u hu => ?_) (fun u hu => ?_)
        · rw [e5]; show S4.1 k = _; rw [e4, uI_row hk]; exact g1 k hk
        · rw [e5, uJ_row hk, e42]; exact g2 k hk
        · by_cases e : u = i
          · subst e; exact h5k
          · rw [e5]; show S4.1 k1 u = _; rw [e4, uI_ne (fun z => e z.2)]; exact g3 u (by omega)
        · rw [e5]
          by_cases e : u = i
          · subst e; rw [uJ_at, ev]
          · rw [uJ_ne (fun z => e z.2), e42]; exact g4 u (by omega)
      refine sp_isIn (by omega) (by omega) (br_b (fun hb => ⟨vp_in_nI hi8 (by decide), fun S8 e8 => ⟨vp_in_nI hi8 (by decide), fun x10 e10 => ?_⟩⟩) (fun hb => ⟨vp_in_nI hi8 (by decide), by rw [e42]; exact hne, vp_in_nI hi8 (by decide), fun S14 e14 => ⟨vp_in_nI hi8 (by decide), fun x16 e16 => ?_⟩⟩))
      · rw [nI_clamp (by omega)] at e8 e10
        exact next _ S8 x10 e8 (by rw [fvl_out (by rw [hb]; rfl)]; rfl) e10
      · rw [nI_clamp (by omega)] at e14 e16
        rw [e42, h19i, hD4, pk_lRem (by omega) c1 (by omega)] at e14
        exact next _ S14 x16 e14 (by rw [fvl_in (by rw [hb]; rfl), zL_lN]) e16
  exact ⟨9, key 8 0 S rfl (fun _ _ => rfl) (fun _ _ => rfl) (fun u hu => absurd hu (Nat.not_lt_zero u)) (fun u hu => absurd hu (Nat.not_lt_zero u))⟩
theorem cut_loop {S : St} {T C D : Nat} {bn : Nat → Nat} (hC : CO T C D bn) {k1 : Nat} (hk1 : ∀ u, u < 8 → S.1 k1 u = nI (bn u / D)) (h20 : ∀ u, u < 8 → S.2 20 u = zL (fvl T D bn (hsn T D bn 0) u)) {K : Int32 → St → Prop} (h : ∀ q S', (∀ k, k ≠ k1 → S'.1 k = S.1 k) → (∀ u, u < 8 → S'.1 k1 u = nI (coin T D bn (lft C D bn) u)) → K q S') : ∃ f, wL_X2_cutInto_92 k1 8 (nI (lft C D bn)) K f 0 S := by
  have hl := hC.left
  have hp := pc_le8 T
  have hfv : ∀ j u, u < 8 → -1 ≤ fvl T D bn (hsn T D bn j) u ∧ fvl T D bn (hsn T D bn j) u < 2 ^ 62 := fun j u hu => by
    refine ⟨fvl_ge _ _ _ _ _, ?_⟩
    unfold fvl
    have h1 := Nat.mod_lt (bn u) hC.1
    have h2 := hC.2.1
    split <;> omega
  have key : ∀ n j (S2 : St), j + n = lft C D bn → (∀ k, k ≠ k1 → S2.1 k = S.1 k) → (∀ u, u < 8 → S2.1 k1 u = nI (coin T D bn j u)) → (∀ u, u < 8 → S2.2 20 u = zL (fvl T D bn (hsn T D bn j) u)) → wL_X2_cutInto_92 k1 8 (nI (lft C D bn)) K (n + 1) (nI j) S2 := by
    intro n
    induction n with
    | zero =>
      intro j S2 hj g1 g2 g3
      have e : j = lft C D bn := by omega
      subst e
      exact ⟨fun _ => h _ S2 g1 g2, fun _ => ⟨fun _ => h _ S2 g1 g2, fun q => absurd (nI_le (Nat.le_refl _) (by omega)) q⟩⟩
    | succ n ih =>
      intro j S2 hj g1 g2 g3
      refine ⟨fun q => absurd q (nI_ge (a := j) (b := 8) (by omega) (by decide)), fun _ => ⟨fun q => absurd q (nI_ge (by omega) (by omega)), fun _ => ?_⟩⟩
      have hb := bsN_lt (fvl T D bn (hsn T D bn j)) 8 (by decide)
      have hbest := fvl_nn (hC.best (show j < lft C D bn by omega))
      simp only [Bool.and_eq_true, Bool.not_eq_true'] at hbest
      refine sp_greatest (fun u hu => ⟨g3 u hu, hfv j u hu⟩) ⟨vp_in_nI hb (by decide), vp_in_nI hb (by decide), fun S5 e5 => ⟨vp_in_nI hb (by decide), fun S7 e7 => ?_⟩⟩
      rw [nI_clamp (by omega), g2 _ hb, nI_1] at e5
      rw [nI_clamp (by omega)] at e7
      rw [nI_1]
      refine ih (j + 1) S7 (by omega) (fun k hk => ?_) (fun u hu => ?_) (fun u hu => ?_)
      · rw [e7]; show S5.1 k = _; rw [e5, uI_row hk]; exact g1 k hk
      · rw [e7]; show S5.1 k1 u = _; rw [e5]
        by_cases e : u = bsN (fvl T D bn (hsn T D bn j)) 8
        · rw [e, uI_at]
          unfold coin
          rw [hbest.2]
          show _ = nI (_ + (if (hsn T D bn j _ || decide _) then 1 else 0))
          rw [hbest.2]
          simp
        · rw [uI_ne (fun z => e z.2), g2 u hu]
          unfold coin
          show _ = nI (_ + (if (hsn T D bn j u || decide (u = bsN (fvl T D bn (hsn T D bn j)) 8)) then 1 else 0))
          rw [decide_eq_false e, Bool.or_false]
      · rw [e7]
        by_cases e : u = bsN (fvl T D bn (hsn T D bn j)) 8
        · rw [← e, uJ_at, fvl_out]
          · rfl
          · show (T.testBit u && !(hsn T D bn j u || decide (u = bsN (fvl T D bn (hsn T D bn j)) 8))) = false
            rw [decide_eq_true e]; simp
        · rw [uJ_ne (fun z => e z.2)]
          show S5.2 20 u = _
          rw [e5]
          show S2.2 20 u = _
          rw [g3 u hu]
          unfold fvl
          show _ = zL (if T.testBit u && !(hsn T D bn j u || decide (u = bsN (fvl T D bn (hsn T D bn j)) 8)) then _ else _)
          rw [decide_eq_false e, Bool.or_false]
  exact ⟨lft C D bn + 1, key (lft C D bn) 0 S (by omega) (fun _ _ => rfl) (fun u hu => by rw [hk1 u hu]; rfl) h20⟩
theorem sp_cutInto {S : St} {T C D : Nat} {bn : Nat → Nat} (hC : CO T C D bn) {k1 : Nat} (h4 : S.2 4 1 = lN D) (h19 : ∀ u, u < 8 → S.2 19 u = lN (bn u)) {post : St → Prop} (h : ∀ S', (∀ k, k ≠ k1 → S'.1 k = S.1 k) → (∀ u, u < 8 → S'.1 k1 u = nI (coin T D bn (lft C D bn) u)) → post S') : wp_X2_cutInto S (nI C) (nI T) k1 8 post := by
  have hD := hC.2.1
  have hlt : (0 : Int64) < S.2 4 1 := by rw [h4, show (0 : Int64) = lN 0 from rfl, pk_lLT (by decide) (by omega)]; exact hC.1
  refine ⟨fun _ => cut_fill hC h4 h19 (fun S1 a1 a2 a3 a4 => cut_loop hC a3 a4 (fun q S4 b1 b2 => h S4 (fun k hk => (b1 k hk).trans (a1 k hk)) b2)), fun q => absurd hlt q⟩
