/-! ===== pure: the coins of class and reference ===== -/
def bnN (d : Dw) (T r u : Nat) : Nat := (bnR d T r u).toNat
def DN (d : Dw) (T r : Nat) : Nat := (DR d T r).toNat
theorem bnN_z {d : Dw} (hd : Okd d) (T r u : Nat) : zL (bnR d T r u) = lN (bnN d T r u) := by
  rw [← zL_lN]
  congr 1
  exact (Int.toNat_of_nonneg (bnR_nn hd T r u)).symm
theorem DN_z {d : Dw} (hd : Okd d) (T r : Nat) : zL (DR d T r) = lN (DN d T r) := by
  rw [← zL_lN]
  congr 1
  exact (Int.toNat_of_nonneg (Int.le_of_lt (DR_ok hd T r).1)).symm
theorem CO_R {d : Dw} (hd : Okd d) {T : Nat} (hT : T < 256) (r : Nat) : CO T (cst d T) (DN d T r) (bnN d T r) := by
  have hD := DR_ok hd T r
  have hDn : ((DN d T r : Nat) : Int) = DR d T r := Int.toNat_of_nonneg (Int.le_of_lt hD.1)
  have hbn : ∀ u, ((bnN d T r u : Nat) : Int) = bnR d T r u := fun u => Int.toNat_of_nonneg (bnR_nn hd T r u)
  refine ⟨by omega, by omega, fun u hu => ?_, fun u hu => ?_, ?_, cst_le hd T, hT⟩
  · have := bnR_lt hd hT r hu
    have := hbn u
    omega
  · unfold bnN; rw [bnR_out hu]; rfl
  · have h1 := bnR_sum hd hT r
    rw [← hDn, fb_si_cong (g := fun u => ((bnN d T r u : Nat) : Int)) (fun u _ => (hbn u).symm), fb_si_nat, ← Int.natCast_mul] at h1
    exact Int.ofNat.inj h1
def cnv (d : Dw) (T r : Nat) (mk : Nat → Int32) (u : Nat) : Int32 := nI (coin T (DN d T r) (bnN d T r) (lft (cst d T) (DN d T r) (bnN d T r)) u) + (if T.testBit u then mk u else 0)
theorem cnv_out {d : Dw} (hd : Okd d) {T : Nat} (hT : T < 256) {r : Nat} {mk : Nat → Int32} {u : Nat} (hu : T.testBit u = false) : cnv d T r mk u = 0 := by
  have hC := CO_R hd hT r
  unfold cnv coin
  have h1 : hsn T (DN d T r) (bnN d T r) (lft (cst d T) (DN d T r) (bnN d T r)) u = false := by
    cases hb : hsn T (DN d T r) (bnN d T r) (lft (cst d T) (DN d T r) (bnN d T r)) u with
    | false => rfl
    | true => rw [hsn_in hC _ (Nat.le_refl _) u hb] at hu; cases hu
  rw [h1, hC.2.2.2.1 u hu, hu]
  simp
  rfl
/-- the users of the class -/
def XU (S : St) (T m : Nat) : Prop := S.1 2 0 = nI m ∧ S.1 2 1 = nI T ∧ T < 2 ^ m ∧ m ≤ 8
theorem XU.lt {S : St} {T m : Nat} (h : XU S T m) : T < 256 := Nat.lt_of_lt_of_le h.2.2.1 (Nat.pow_le_pow_right (by decide) h.2.2.2)
theorem XU.keep {S S' : St} {T m : Nat} (h : XU S T m) (e : S'.1 2 = S.1 2) : XU S' T m := by
  unfold XU
  rw [e]
  exact h
theorem sp_has3 {S : St} {n : Nat} (hS : S.1 2 0 = nI n) (hn : n < 2 ^ 31) {a : Int32} {post : Int32 → St → Prop} (h0 : (∀ w, w < n → a ≠ nI w) → post 0 S) (h1 : ∀ w, w < n → a = nI w → post 1 S) : wp_X3_has S a post := by
  unfold wp_X3_has
  rw [hS]
  refine ⟨fun q => h0 (fun w hw e => ?_), fun q => ⟨fun q2 => h0 (fun w hw e => ?_), fun q2 => ?_⟩⟩
  · rw [e] at q; exact nI_pos (by omega) q
  · rw [e] at q2; exact nI_ge hw hn q2
  · rcases pk_ix a hn with z | z | ⟨j, hj, e⟩
    · exact absurd z q
    · exact absurd z q2
    · exact h1 j hj e
theorem sp_there3 {S : St} {T m : Nat} (hU : XU S T m) {a : Int32} {post : Int32 → St → Prop} (h0 : (∀ u, T.testBit u = true → a ≠ nI u) → post 0 S) (h1 : ∀ u, u < m → T.testBit u = true → a = nI u → post 1 S) : wp_X3_isThere S a post := by
  have hm := hU.2.2.2
  have hT := hU.lt
  refine sp_has3 hU.1 (by omega) (fun hno => ⟨fun _ => h0 (fun u hu => hno u (bit_lt hU.2.2.1 hu)), fun q => absurd rfl q⟩) (fun w hw e => ⟨fun q => absurd q (by decide), fun _ => ?_⟩)
  rw [hU.2.1, e]
  refine sp_isIn (by omega) (by omega) (br_b (fun hb => ?_) (fun hb => ?_))
  · subst e
    exact h0 (fun u hu e2 => by
      have hu8 := bit_lt hU.2.2.1 hu
      rw [(nI_eq (by omega) (by omega)).mp e2, hu] at hb
      cases hb)
  · exact h1 w hw hb e
theorem sp_thereI {S : St} {T m u : Nat} (hU : XU S T m) (hu : u < 8) {post : Int32 → St → Prop} (h : post (if T.testBit u then 1 else 0) S) : wp_X3_isThere S (nI u) post := by
  have hm := hU.2.2.2
  refine sp_there3 hU (fun hno => ?_) (fun w hw hb e => ?_)
  · cases hb : T.testBit u with
    | true => exact absurd rfl (hno u hb)
    | false => rw [hb] at h; exact h
  · have e2 := (nI_eq (a := u) (b := w) (by omega) (by omega)).mp e
    rw [e2, hb] at h
    exact h
theorem sp_fillCoins {S : St} {d : Dw} {T m r : Nat} (hI : XI S d) (hU : XU S T m) (hr : r < 3) {k2 : Nat} (hk2 : k2 = 6 ∨ k2 = 7) {post : St → Prop} (h : ∀ S', (∀ k, k ≠ k2 → k ≠ 13 → S'.1 k = S.1 k) → XI S' d → (∀ u, u < 8 → S'.1 k2 u = cnv d T r (S.1 14) u) → post S') : wp_X5_fillCoins S (nI r) k2 8 post := by
  have hd := hI.1
  have hT := hU.lt
  refine sp_shareOut hI hT hU.2.1 hr (fun S1 f1 i1 g4 g19 => ?_)
  rw [show S1.1 2 1 = nI T by rw [f1 2 (by decide)]; exact hU.2.1]
  refine sp_costOf i1 hT (fun S3 f3 i3 => ?_)
  have f03 : Xf S S3 := f1.trans f3.xf
  rw [show S3.1 2 1 = nI T by rw [f03 2 (by decide)]; exact hU.2.1]
  refine sp_cutInto (CO_R hd hT r) (by rw [f3.1, g4, DN_z hd]) (fun u hu => by rw [f3.1, g19 u hu, bnN_z hd]) (fun S5 c1 c2 => ?_)
  have xkeep : ∀ S' : St, (∀ k, k ≠ k2 → S'.1 k = S3.1 k) → XI S' d := fun S' hk => by
    refine ⟨hd, i3.2.1.keep (fun k hk2' => hk k (by omega)), fun u hu => ?_, fun g hg => ?_⟩
    · rw [hk 12 (by omega)]; exact i3.2.2.1 u hu
    · rw [hk 13 (by omega)]; exact i3.2.2.2 g hg
  have key : ∀ n i (S2 : St), i + n = 8 → (∀ k, k ≠ k2 → S2.1 k = S3.1 k) → (∀ u, u < i → S2.1 k2 u = cnv d T r (S.1 14) u) → (∀ u, i ≤ u → u < 8 → S2.1 k2 u = nI (coin T (DN d T r) (bnN d T r) (lft (cst d T) (DN d T r) (bnN d T r)) u)) → wL_X5_fillCoins_36 k2 8 (fun (_ : Int32) (S7 : St) => post S7) (n + 1) (nI i) S2 := by
    intro n
    induction n with
    | zero =>
      intro i S2 hi g1 g2 g3
      have e : i = 8 := by omega
      subst e
      exact ⟨fun _ => h S2 (fun k a b => (g1 k a).trans (f03 k b)) (xkeep S2 g1) g2, fun q => absurd (by decide) q⟩
    | succ n ih =>
      intro i S2 hi g1 g2 g3
      have hi8 : i < 8 := by omega
      refine ⟨fun q => absurd q (nI_ge (a := i) (b := 8) hi8 (by decide)), fun _ => ?_⟩
      refine sp_thereI (hU.keep ((g1 2 (by omega)).trans (f03 2 (by decide)))) hi8 (br_b (fun hb => ?_) (fun hb => ⟨vp_in_nI hi8 (by decide), vp_in_nI hi8 (by decide), vp_in_nI hi8 (by decide), fun S6 e6 => ?_⟩))
      · rw [nI_1]
        refine ih (i + 1) S2 (by omega) g1 (fun u hu => ?_) (fun u h1 h2 => g3 u (by omega) h2)
        by_cases e : u = i
        · subst e
          rw [g3 u (Nat.le_refl _) hi8]
          unfold cnv
          rw [hb]
          simp
        · exact g2 u (by omega)
      · rw [nI_clamp (by omega), g3 i (Nat.le_refl _) hi8, g1 14 (by omega), f03 14 (by decide)] at e6
        rw [nI_1]
        refine ih (i + 1) S6 (by omega) (fun k hk => by rw [e6, uI_row hk]; exact g1 k hk) (fun u hu => ?_) (fun u h1 h2 => ?_)
        · rw [e6]
          by_cases e : u = i
          · subst e
            rw [uI_at]
            unfold cnv
            rw [hb]
            rfl
          · rw [uI_ne (fun z => e z.2)]; exact g2 u (by omega)
        · rw [e6, uI_ne (fun z => by have := z.2; omega)]; exact g3 u (by omega) h2
  exact ⟨9, key 8 0 S5 rfl c1 (fun u hu => absurd hu (Nat.not_lt_zero u)) (fun u _ hu => c2 u hu)⟩
/-! the reference's coins -/
def MG (kb : Nat) (S S' : St) : Prop := (∀ k, k ≠ 25 → k ≠ 36 → k ≠ 41 → k ≠ 42 → k < kb → S'.1 k = S.1 k) ∧ ∀ j, j ≠ 0 → j ≠ 19 → j ≠ 24 → S'.1 25 j = S.1 25 j
theorem MF.mg {kb : Nat} {S S' : St} (h : MF S S') : MG kb S S' := ⟨fun k a b c e _ => h.1 k a b c e, h.2⟩
theorem MG.trans {kb : Nat} {S S' S2 : St} (h : MG kb S S') (g : MG kb S' S2) : MG kb S S2 := ⟨fun k a b c e f => (g.1 k a b c e f).trans (h.1 k a b c e f), fun j a b c => (g.2 j a b c).trans (h.2 j a b c)⟩
theorem MG.rows {kb : Nat} {S S' : St} (hkb : 61 ≤ kb) (h : ∀ k, k ≠ 42 → k < kb → S'.1 k = S.1 k) : MG kb S S' := ⟨fun k _ _ _ a b => h k a b, fun _ _ _ _ => by rw [h 25 (by decide) (by omega)]⟩
theorem MW.mG {kb : Nat} (hkb : 61 ≤ kb) {S S' : St} {d : Dw} {m : Nat} (h : MW S d m) (hf : MG kb S S') : MW S' d m := by
  obtain ⟨h1, h2, h3, h4, h5, h6⟩ := h
  refine ⟨?_, ?_, fun w hw => ?_, fun w hw => ?_, fun w u hw hu => ?_, fun w v hw hv => ?_⟩
  · rw [hf.2 8 (by decide) (by decide) (by decide)]; exact h1
  · rw [hf.2 9 (by decide) (by decide) (by decide)]; exact h2
  · rw [hf.1 26 (by decide) (by decide) (by decide) (by decide) (by omega)]; exact h3 w hw
  · rw [hf.1 27 (by decide) (by decide) (by decide) (by decide) (by omega)]; exact h4 w hw
  · rw [hf.1 28 (by decide) (by decide) (by decide) (by decide) (by omega)]; exact h5 w u hw hu
  · rw [hf.1 29 (by decide) (by decide) (by decide) (by decide) (by omega)]; exact h6 w v hw hv
theorem MT.mG {kb : Nat} (hkb : 61 ≤ kb) {S S' : St} {T m : Nat} (h : MT S T m) (hf : MG kb S S') : MT S' T m := ⟨h.1, fun u hu => by rw [hf.1 32 (by decide) (by decide) (by decide) (by decide) (by omega)]; exact h.2 u hu⟩
def flg (bn : Nat → Nat) (i : Nat) : Int32 := if 0 < fb_sm bn i then 1 else 0
theorem cb_first {S : St} {T C D m : Nat} {bn : Nat → Nat} (hC : CO T C D bn) (h9 : S.1 25 9 = nI m) (hT : MT S T m) (hm : m ≤ 8) (h22 : S.2 25 22 = lN D) (h40 : ∀ u, u < m → S.2 40 u = lN (bn u)) {K : Int64 → Int32 → Int32 → St → Prop} (h : ∀ S', (∀ k, k ≠ 42 → S'.1 k = S.1 k) → S'.2 = S.2 → (∀ u, u < m → S'.1 42 u = nI (bn u / D)) → K (lN (lft C D bn)) (flg bn m) (nI m) S') : ∃ f, wL_X6_coinsBy_21 K f (lN C) 0 0 S := by
  obtain ⟨c1, c2, c3, c4, c5, c6, c7⟩ := hC
  have hC : CO T C D bn := ⟨c1, c2, c3, c4, c5, c6, c7⟩
  have hqm : C - fb_sm (fun u => bn u / D) m = lft C D bn := by
    unfold lft
    rw [sm_ext (f := fun u => bn u / D) (fun k hk => ?_) 8 hm]
    have : T.testBit k = false := by
      cases hb : T.testBit k with
      | false => rfl
      | true => have := bit_lt hT.1 hb; omega
    show bn k / D = 0
    rw [c4 k this, Nat.zero_div]
  have key : ∀ n i (S2 : St), i + n = m → (∀ k, k ≠ 42 → S2.1 k = S.1 k) → S2.2 = S.2 → (∀ u, u < i → S2.1 42 u = nI (bn u / D)) → wL_X6_coinsBy_21 K (n + 1) (lN (C - fb_sm (fun u => bn u / D) i)) (flg bn i) (nI i) S2 := by
    intro n
    induction n with
    | zero =>
      intro i S2 hi g1 g2 g3
      have e : i = m := by omega
      subst e
      refine ⟨fun _ => by rw [hqm]; exact h S2 g1 g2 g3, fun q => ?_⟩
      rw [g1 25 (by decide), h9] at q
      exact absurd (nI_le (Nat.le_refl _) (by omega)) q
    | succ n ih =>
      intro i S2 hi g1 g2 g3
      have him : i < m := by omega
      have hi8 : i < 8 := by omega
      have hbn := c3 i hi8
      have hq := hC.one hi8
      have hps := hC.part (i := i + 1) (by omega)
      rw [fb_sm_succ] at hps
      have hT2 : MT S2 T m := ⟨hT.1, fun u hu => by rw [g1 32 (by decide)]; exact hT.2 u hu⟩
      have h40i : S2.2 40 i = lN (bn i) := by rw [g2]; exact h40 i him
      have hD2 : S2.2 25 22 = lN D := by rw [g2]; exact h22
      have next : ∀ (S3 : St) (x : Int64), S3 = uI S2 42 i (nI (bn i / D)) → x = lN (C - fb_sm (fun u => bn u / D) i) - (S3.1 42 i).toInt64 → (¬ flg bn i = 0 → wL_X6_coinsBy_21 K (n + 1) x 1 (nI i + 1) S3) ∧ (flg bn i = 0 → (vp_in (nI i) 8) ∧ ((S3.2 40 (nI i).toNatClampNeg = 0 → wL_X6_coinsBy_21 K (n + 1) x 0 (nI i + 1) S3) ∧ (¬ (S3.2 40 (nI i).toNatClampNeg = 0) → wL_X6_coinsBy_21 K (n + 1) x 1 (nI i + 1) S3))) := by
        intro S3 x e3 ex
        rw [e3, uI_at, nI_l64 (by omega), ← zL_lN, ← zL_lN, zL_sub, ← Int.natCast_sub (by omega), zL_lN] at ex
        have e7 : C - fb_sm (fun u => bn u / D) i - bn i / D = C - fb_sm (fun u => bn u / D) (i + 1) := by rw [fb_sm_succ]; omega
        rw [e7] at ex
        have go : ∀ fl : Int32, fl = flg bn (i + 1) → wL_X6_coinsBy_21 K (n + 1) x fl (nI i + 1) S3 := fun fl efl => by
          rw [ex, efl, nI_1]
          refine ih (i + 1) S3 (by omega) (fun k hk => by rw [e3, uI_row hk]; exact g1 k hk) (by rw [e3]; exact g2) (fun u hu => ?_)
          rw [e3]
          by_cases e : u = i
          · subst e; rw [uI_at]
          · rw [uI_ne (fun z => e z.2)]; exact g3 u (by omega)
        have h340 : S3.2 40 (nI i).toNatClampNeg = lN (bn i) := by rw [nI_clamp (by omega), e3]; exact h40i
        rw [h340, lN_0 (by omega)]
        unfold flg at go ⊢
        rw [fb_sm_succ] at go
        refine ⟨fun q => go _ ?_, fun q => ⟨vp_in_nI hi8 (by decide), fun z => go _ ?_, fun z => go _ ?_⟩⟩
        · by_cases hp : 0 < fb_sm bn i
          · rw [if_pos (by omega)]
          · rw [if_neg hp] at q; exact absurd rfl q
        · by_cases hp : 0 < fb_sm bn i
          · rw [if_pos hp] at q; exact absurd q (by decide)
          · rw [if_neg (by omega)]
        · rw [if_pos (by omega)]
      refine ⟨fun q => ?_, fun _ => ⟨vp_in_nI hi8 (by decide), br_there hT2 hi8 (fun hb => ⟨vp_in_nI hi8 (by decide), fun S3 e3 => ⟨vp_in_nI hi8 (by decide), fun x5 e5 => ?_⟩⟩) (fun hb => ⟨vp_in_nI hi8 (by decide), ?_, vp_in_nI hi8 (by decide), fun S10 e10 => ⟨vp_in_nI hi8 (by decide), fun x12 e12 => ?_⟩⟩)⟩⟩
      · rw [g1 25 (by decide), h9] at q
        exact absurd q (nI_ge him (by omega))
      · rw [nI_clamp (by omega)] at e3 e5
        refine next S3 x5 ?_ e5
        rw [e3, c4 i hb, Nat.zero_div]
        rfl
      · rw [hD2, lN_0 (by omega)]; omega
      · rw [nI_clamp (by omega)] at e10 e12
        rw [h40i, hD2, pk_lDiv (by omega) c1 (by omega), i32_lN] at e10
        exact next S10 x12 e10 e12
  exact ⟨m + 1, key m 0 S (by omega) (fun _ _ => rfl) rfl (fun u hu => absurd hu (Nat.not_lt_zero u))⟩
/-- the best of those there that have none yet -/
theorem cb_best {S : St} {T C D m : Nat} {bn : Nat → Nat} (hC : CO T C D bn) (h9 : S.1 25 9 = nI m) (hT : MT S T m) (hm : m ≤ 8) (h22 : S.2 25 22 = lN D) (h40 : ∀ u, u < m → S.2 40 u = lN (bn u)) {kh : Nat} {hs : Nat → Bool} (hkh : ∀ u, u < 8 → S.1 kh u = if hs u then 1 else 0) {f : Nat → Int} (hf : f = fvl T D bn hs) (hb0 : 0 ≤ f (bsN f 8)) {p2 : Int64} {p4 : Int32} {K : Int32 → Int32 → St → Prop} (h : K (nI (bsN f 8)) (nI m) S) : ∃ n, wL_X6_coinsBy_128 kh p2 p4 K n (-1) 0 S := by
  obtain ⟨c1, c2, c3, c4, c5, c6, c7⟩ := hC
  let cur : Nat → Int32 := fun i => if 0 < i ∧ 0 ≤ f (bsN f i) then nI (bsN f i) else -1
  have hge : ∀ u, -1 ≤ f u := fun u => by rw [hf]; exact fvl_ge _ _ _ _ _
  have hlow : ∀ i, ¬ (0 < i ∧ 0 ≤ f (bsN f i)) → ∀ j, j < i → f j = -1 := fun i hn j hj => by
    have h1 := bsN_max f i j hj
    have h2 := hge j
    have h3 : ¬ 0 ≤ f (bsN f i) := fun z => hn ⟨by omega, z⟩
    omega
  have hmm : bsN f 8 = bsN f m ∧ 0 < m ∧ 0 ≤ f (bsN f m) := by
    have hout : ∀ j, m ≤ j → j < 8 → f j = -1 := fun j h1 h2 => by
      rw [hf]
      refine fvl_out ?_
      cases hb : T.testBit j with
      | true => have := bit_lt hT.1 hb; omega
      | false => rfl
    have hb8 := bsN_lt f 8 (by decide)
    have hbm : bsN f 8 < m := by
      rcases Nat.lt_or_ge (bsN f 8) m with q | q
      · exact q
      · rw [hout _ q hb8] at hb0; omega
    have h1 := bsN_max f m _ hbm
    have h2 : 0 ≤ f (bsN f m) := by omega
    exact ⟨bsN_ext f h2 8 hm hout, by omega, h2⟩
  have hcm : cur m = nI (bsN f 8) := by
    show (if 0 < m ∧ 0 ≤ f (bsN f m) then nI (bsN f m) else -1) = _
    rw [if_pos hmm.2, hmm.1]
  refine lp_up (X := fun n i => wL_X6_coinsBy_128 kh p2 p4 K n (cur i) (nI i) S) (Nat.zero_le m) (fun n => ⟨fun _ => by rw [hcm]; exact h, fun q => ?_⟩) (fun n i _ hi hrec => ?_)
  · rw [h9] at q
    exact absurd (nI_le (Nat.le_refl _) (by omega)) q
  · have hi8 : i < 8 := by omega
    have hstep : bsN f (i + 1) = if f (bsN f i) < f i then i else bsN f i := rfl
    -- a place that does not count
    have skip : f i = -1 → wL_X6_coinsBy_128 kh p2 p4 K n (cur i) (nI i + 1) S := fun hfi => by
      have e : cur (i + 1) = cur i := by
        show (if 0 < i + 1 ∧ 0 ≤ f (bsN f (i + 1)) then nI (bsN f (i + 1)) else -1) = (if 0 < i ∧ 0 ≤ f (bsN f i) then nI (bsN f i) else -1)
        have h1 := hge (bsN f i)
        have e9 : bsN f (i + 1) = bsN f i := by rw [hstep, if_neg (by omega)]
        rw [e9]
        by_cases e0 : 0 < i
        · by_cases e1 : 0 ≤ f (bsN f i)
          · rw [if_pos ⟨by omega, e1⟩, if_pos ⟨e0, e1⟩]
          · rw [if_neg (fun z => e1 z.2), if_neg (fun z => e1 z.2)]
        · have e2 : i = 0 := by omega
          subst e2
          rw [if_neg (fun z => by have h3 : f (bsN f 0) = f 0 := rfl; have := z.2; omega), if_neg (fun z => absurd z.1 (by decide))]
      rw [e, ← nI_1] at hrec
      exact hrec
    refine ⟨fun q => ?_, fun _ => ⟨vp_in_nI hi8 (by decide), br_there hT hi8 (fun hb => skip (by rw [hf]; exact fvl_out (by rw [hb]; rfl))) (fun hb => ⟨vp_in_nI hi8 (by decide), ?_⟩)⟩⟩
    · rw [h9] at q
      exact absurd q (nI_ge hi (by omega))
    · rw [nI_clamp (by omega), hkh i hi8]
      have h22n : ¬ S.2 25 22 = 0 := by rw [h22, lN_0 (by omega)]; omega
      refine ⟨fun q => skip ?_, fun q => ?_⟩
      · rw [hf]
        refine fvl_out ?_
        cases hh : hs i with
        | true => simp
        | false => rw [hh] at q; exact absurd rfl q
      · have hh : hs i = false := by
          cases hh : hs i with
          | false => rfl
          | true => rw [hh] at q; exact absurd q (by decide)
        have hfi : f i = ((bn i % D : Nat) : Int) := by rw [hf]; exact fvl_in (by rw [hb, hh]; rfl)
        have hri := Nat.mod_lt (bn i) c1
        have hbn := c3 i hi8
        by_cases hc : 0 < i ∧ 0 ≤ f (bsN f i)
        · have hcur : cur i = nI (bsN f i) := if_pos hc
          have hbi := bsN_lt f i hc.1
          have hcb := fvl_nn (T := T) (D := D) (bn := bn) (h := hs) (u := bsN f i) (by rw [← hf]; exact hc.2)
          have hfb : f (bsN f i) = ((bn (bsN f i) % D : Nat) : Int) := by
            have : fvl T D bn hs (bsN f i) = _ := fvl_in hcb
            rw [← hf] at this
            exact this
          have hrb := Nat.mod_lt (bn (bsN f i)) c1
          have hbb := c3 (bsN f i) (by omega)
          rw [hcur]
          refine ⟨fun z => absurd z (nI_ne_m1 (by omega)), fun _ => ⟨vp_in_nI hi8 (by decide), h22n, vp_in_nI (by omega) (by decide), h22n, ?_⟩⟩
          rw [nI_clamp (by omega), h40 i hi, h40 (bsN f i) (by omega), h22, pk_lRem (by omega) c1 (by omega), pk_lRem (by omega) c1 (by omega), pk_lLE (by omega) (by omega), nI_1]
          have e1 : cur (i + 1) = nI (bsN f (i + 1)) := by
            refine if_pos ⟨by omega, ?_⟩
            have := bsN_max f (i + 1) i (by omega)
            omega
          rw [e1, hstep] at hrec
          refine ⟨fun z => ?_, fun z => ?_⟩
          · rw [if_neg (by omega)] at hrec
            exact hrec
          · rw [if_pos (by omega)] at hrec
            exact hrec
        · have hcur : cur i = -1 := if_neg hc
          rw [hcur]
          refine ⟨fun _ => ?_, fun z => absurd rfl z⟩
          have e1 : cur (i + 1) = nI i := by
            have e2 : bsN f (i + 1) = i := by
              rw [hstep]
              by_cases e0 : i = 0
              · subst e0
                split
                · rfl
                · rfl
              · have := hlow i hc (bsN f i) (bsN_lt f i (by omega))
                rw [if_pos (by omega)]
            show (if 0 < i + 1 ∧ 0 ≤ f (bsN f (i + 1)) then nI (bsN f (i + 1)) else -1) = _
            rw [e2, if_pos ⟨by omega, by omega⟩]
          rw [e1, ← nI_1] at hrec
          exact hrec
