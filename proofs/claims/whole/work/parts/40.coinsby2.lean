/-! ===== pure: the reference's coins, on ===== -/
theorem flg_m {T C D m : Nat} {bn : Nat → Nat} (hC : CO T C D bn) (hT : T < 2 ^ m) (hm : m ≤ 8) (hl : 0 < lft C D bn) : ¬ flg bn m = 0 := by
  have h1 : fb_sm bn 8 = fb_sm bn m := sm_ext (fun k hk => by
    refine hC.2.2.2.1 k ?_
    cases hb : T.testBit k with
    | false => rfl
    | true => have := bit_lt hT hb; omega) 8 hm
  have h2 : 0 < C := by
    unfold lft at hl
    omega
  have h3 : 0 < C * D := Nat.mul_pos h2 hC.1
  have h4 := hC.2.2.2.2.1
  unfold flg
  rw [if_pos (by omega)]
  decide
theorem nar1 : vp_nar .boolean (1 : Int32) = 1 := by decide
theorem cb_loop {S : St} {T C D m : Nat} {bn : Nat → Nat} (hC : CO T C D bn) (h9 : S.1 25 9 = nI m) (hT : MT S T m) (hm : m ≤ 8) (h22 : S.2 25 22 = lN D) (h40 : ∀ u, u < m → S.2 40 u = lN (bn u)) (h42 : ∀ u, u < m → S.1 42 u = nI (bn u / D)) {kh : Nat} (hk61 : 61 ≤ kh) (hkh : ∀ u, u < 8 → S.1 kh u = 0) {K : Int64 → St → Prop} (h : ∀ q S', (∀ k, k ≠ 42 → k ≠ kh → S'.1 k = S.1 k) → (∀ u, u < m → S'.1 42 u = nI (coin T D bn (lft C D bn) u)) → K q S') : ∃ f, wL_X6_coinsBy_111 kh (flg bn m) K f (lN (lft C D bn)) S := by
  have hl := hC.left
  have hp := pc_le8 T
  have key : ∀ n j (S2 : St), j + n = lft C D bn → (∀ k, k ≠ 42 → k ≠ kh → S2.1 k = S.1 k) → S2.2 = S.2 → (∀ u, u < m → S2.1 42 u = nI (coin T D bn j u)) → (∀ u, u < 8 → S2.1 kh u = if hsn T D bn j u then 1 else 0) → wL_X6_coinsBy_111 kh (flg bn m) K (n + 1) (lN n) S2 := by
    intro n
    induction n with
    | zero =>
      intro j S2 hj g1 g2 g3 g4
      have e : j = lft C D bn := by omega
      subst e
      exact ⟨fun _ => h _ S2 g1 g3, fun q => absurd (Int64.le_refl 0) q⟩
    | succ n ih =>
      intro j S2 hj g1 g2 g3 g4
      have hjl : j < lft C D bn := by omega
      have hb8 := bsN_lt (fvl T D bn (hsn T D bn j)) 8 (by decide)
      have hbest := fvl_nn (hC.best hjl)
      simp only [Bool.and_eq_true, Bool.not_eq_true'] at hbest
      have hbm := bit_lt hT.1 hbest.1
      refine ⟨fun q => ?_, fun _ => ⟨fun q => absurd q (flg_m hC hT.1 hm (by omega)), fun _ => ?_⟩⟩
      · rw [show (0 : Int64) = lN 0 from rfl, pk_lLE (by omega) (by decide)] at q
        omega
      · refine cb_best hC (by rw [g1 25 (by decide) (by omega)]; exact h9) ⟨hT.1, fun u hu => by rw [g1 32 (by decide) (by omega)]; exact hT.2 u hu⟩ hm (by rw [g2]; exact h22) (fun u hu => by rw [g2]; exact h40 u hu) g4 rfl (hC.best hjl) ⟨vp_in_nI hb8 (by decide), fun S5 e5 => ⟨vp_in_nI hb8 (by decide), vp_in_nI hb8 (by decide), fun S8 e8 => fun x9 e9 => ?_⟩⟩
        rw [nI_clamp (by omega), nar1] at e5
        have e542 : S5.1 42 = S2.1 42 := by rw [e5, uI_row (by omega)]
        rw [nI_clamp (by omega), e542, g3 _ hbm, nI_1] at e8
        have e9' : x9 = lN n := by
          rw [e9, show (1 : Int64) = lN 1 from rfl, ← zL_lN, ← zL_lN, zL_sub, ← Int.natCast_sub (by omega), zL_lN]
          rfl
        rw [e9']
        refine ih (j + 1) S8 (by omega) (fun k h1 h2 => ?_) (by rw [e8, e5]; exact g2) (fun u hu => ?_) (fun u hu => ?_)
        · rw [e8, uI_row h1, e5, uI_row h2]; exact g1 k h1 h2
        · rw [e8]
          by_cases e : u = bsN (fvl T D bn (hsn T D bn j)) 8
          · rw [e, uI_at]
            unfold coin
            rw [hbest.2]
            show _ = nI (_ + (if (hsn T D bn j _ || decide _) then 1 else 0))
            rw [hbest.2]
            simp
          · rw [uI_ne (fun z => e z.2), e542, g3 u hu]
            unfold coin
            show _ = nI (_ + (if (hsn T D bn j u || decide (u = bsN (fvl T D bn (hsn T D bn j)) 8)) then 1 else 0))
            rw [decide_eq_false e, Bool.or_false]
        · rw [e8, uI_row (by omega), e5]
          show _ = if (hsn T D bn j u || decide (u = bsN (fvl T D bn (hsn T D bn j)) 8)) then (1 : Int32) else 0
          by_cases e : u = bsN (fvl T D bn (hsn T D bn j)) 8
          · rw [decide_eq_true e, ← e, uI_at]; simp
          · rw [uI_ne (fun z => e z.2), decide_eq_false e, Bool.or_false]; exact g4 u hu
  exact ⟨lft C D bn + 1, key (lft C D bn) 0 S (by omega) (fun _ _ _ => rfl) rfl (fun u hu => by rw [h42 u hu]; rfl) (fun u hu => by rw [hkh u hu]; rfl)⟩
theorem cb_mark {S : St} {T m kh : Nat} (h9 : S.1 25 9 = nI m) (hT : MT S T m) (hm : m ≤ 8) {c : Nat → Int32} (h42 : ∀ u, u < m → S.1 42 u = c u) {K : Int32 → St → Prop} (h : ∀ S', (∀ k, k ≠ 42 → S'.1 k = S.1 k) → (∀ u, u < m → S'.1 42 u = c u + (if T.testBit u then S.1 30 u else 0)) → K (nI m) S') : ∃ f, wL_X6_coinsBy_226 kh K f 0 S := by
  have key : ∀ n i (S2 : St), i + n = m → (∀ k, k ≠ 42 → S2.1 k = S.1 k) → (∀ u, u < i → S2.1 42 u = c u + (if T.testBit u then S.1 30 u else 0)) → (∀ u, i ≤ u → u < m → S2.1 42 u = c u) → wL_X6_coinsBy_226 kh K (n + 1) (nI i) S2 := by
    intro n
    induction n with
    | zero =>
      intro i S2 hi g1 g2 g3
      have e : i = m := by omega
      subst e
      refine ⟨fun _ => h S2 g1 g2, fun q => ?_⟩
      rw [g1 25 (by decide), h9] at q
      exact absurd (nI_le (Nat.le_refl _) (by omega)) q
    | succ n ih =>
      intro i S2 hi g1 g2 g3
      have hi8 : i < 8 := by omega
      refine ⟨fun q => ?_, fun _ => ⟨vp_in_nI hi8 (by decide), br_there ⟨hT.1, fun u hu => by rw [g1 32 (by decide)]; exact hT.2 u hu⟩ hi8 (fun hb => ?_) (fun hb => ⟨vp_in_nI hi8 (by decide), vp_in_nI hi8 (by decide), vp_in_nI hi8 (by decide), fun S5 e5 => ?_⟩)⟩⟩
      · rw [g1 25 (by decide), h9] at q
        exact absurd q (nI_ge (by omega) (by omega))
      · rw [nI_1]
        refine ih (i + 1) S2 (by omega) g1 (fun u hu => ?_) (fun u h1 h2 => g3 u (by omega) h2)
        by_cases e : u = i
        · subst e
          rw [g3 u (Nat.le_refl _) (by omega), hb]
          simp
        · exact g2 u (by omega)
      · rw [nI_clamp (by omega), g3 i (Nat.le_refl _) (by omega), g1 30 (by decide)] at e5
        rw [nI_1]
        refine ih (i + 1) S5 (by omega) (fun k hk => by rw [e5, uI_row hk]; exact g1 k hk) (fun u hu => ?_) (fun u h1 h2 => ?_)
        · rw [e5]
          by_cases e : u = i
          · subst e; rw [uI_at, hb]; rfl
          · rw [uI_ne (fun z => e z.2)]; exact g2 u (by omega)
        · rw [e5, uI_ne (fun z => by have := z.2; omega)]; exact g3 u (by omega) h2
  exact ⟨m + 1, key m 0 S (by omega) (fun _ _ => rfl) (fun u hu => absurd hu (Nat.not_lt_zero u)) (fun u _ hu => h42 u hu)⟩
theorem sp_coinsBy {S : St} {d : Dw} {m T r kb : Nat} (hkb : 61 ≤ kb) (hd : Okd d) (hm : Okm d m) (hW : MW S d m) (hT : MT S T m) (hr : r < 3) {post : St → Prop} (h : ∀ S', MG kb S S' → (∀ u, u < m → S'.1 42 u = cnv d T r (S.1 30) u) → post S') : wp_X6_coinsBy kb S (nI r) post := by
  have hm8 := hm.1
  have hT8 := hT.lt hm8
  have hC := CO_R hd hT8 r
  have hct := cst_le hd T
  refine sp_bills hd hm hW hT hr (fun S1 f1 a24 a22 a40 => ?_)
  rw [a24]
  refine sp_costM hd hm (hW.mF f1) hT8 (fun x5 e5 => ?_)
  rw [nI_l64 (by omega)] at e5
  subst e5
  rw [DN_z hd] at a22
  have a40' : ∀ u, u < m → S1.2 40 u = lN (bnN d T r u) := fun u hu => by rw [a40 u hu, bnN_z hd]
  refine cb_first hC (hW.mF f1).2.1 (hT.mF f1) hm8 a22 a40' (fun S6 b1 b2 b3 => fun kh10 hk61 hkb2 S11 e11 => ?_)
  have hne42 : kh10 ≠ 42 := by omega
  have r11 : ∀ k, k ≠ kh10 → S11.1 k = S6.1 k := fun k hk => by rw [e11]; exact funext fun j => if_neg hk
  have e112 : S11.2 = S6.2 := by rw [e11]; rfl
  have r111 : ∀ k, k ≠ 42 → k ≠ kh10 → S11.1 k = S1.1 k := fun k h1 h2 => (r11 k h2).trans (b1 k h1)
  have hW1 := hW.mF f1
  have hT1 := hT.mF f1
  refine cb_loop hC (by rw [r111 25 (by decide) (by omega)]; exact hW1.2.1) ⟨hT.1, fun u hu => by rw [r111 32 (by decide) (by omega)]; exact hT1.2 u hu⟩ hm8 (by rw [e112, b2]; exact a22) (fun u hu => by rw [e112, b2]; exact a40' u hu) (fun u hu => by rw [r11 42 (Ne.symm hne42)]; exact b3 u hu) hk61 (fun u hu => by rw [e11]; exact if_pos rfl) (fun q S12 c1 c2 => ?_)
  have r12 : ∀ k, k ≠ 42 → k ≠ kh10 → S12.1 k = S1.1 k := fun k h1 h2 => (c1 k h1 h2).trans (r111 k h1 h2)
  refine cb_mark (by rw [r12 25 (by decide) (by omega)]; exact hW1.2.1) ⟨hT.1, fun u hu => by rw [r12 32 (by decide) (by omega)]; exact hT1.2 u hu⟩ hm8 c2 (fun S14 d1 d2 => ?_)
  refine h S14 (f1.mg.trans (MG.rows hkb (fun k h1 h2 => (d1 k h1).trans (r12 k h1 (by omega))))) (fun u hu => ?_)
  rw [d2 u hu]
  unfold cnv
  rw [r12 30 (by decide) (by omega), f1.1 30 (by decide) (by decide) (by decide) (by decide)]
