/-! ===== pure: who would leave ===== -/
def nsm (d : Dw) (T r s : Nat) : Int := fb_si (fun u => if s.testBit u then bnR d T r u else 0) 8
def viol (d : Dw) (T r s : Nat) : Prop := inb s T = true ∧ ¬ nsm d T r s ≤ (cst d s : Int) * DR d T r
def Lv (d : Dw) (T r s0 : Nat) : Prop := (1 ≤ s0 ∧ s0 < 256 ∧ viol d T r s0 ∧ ∀ s, 1 ≤ s → s < s0 → ¬ viol d T r s) ∨ (s0 = 0 ∧ ∀ s, 1 ≤ s → s < 256 → ¬ viol d T r s)
theorem Lv.one {d : Dw} {T r a b : Nat} (h : Lv d T r a) (g : Lv d T r b) : a = b := by
  rcases h with ⟨h1, h2, h3, h4⟩ | ⟨h1, h2⟩ <;> rcases g with ⟨g1, g2, g3, g4⟩ | ⟨g1, g2⟩
  · rcases Nat.lt_trichotomy a b with q | q | q
    · exact absurd h3 (g4 a h1 q)
    · exact q
    · exact absurd g3 (h4 b g1 q)
  · exact absurd h3 (g2 a h1 h2)
  · exact absurd g3 (h2 b g1 g2)
  · omega
theorem nsm_ok {d : Dw} (hd : Okd d) {T : Nat} (hT : T < 256) (r s : Nat) : 0 ≤ nsm d T r s ∧ nsm d T r s ≤ 2306028787200000000 := by
  have h0 : 0 ≤ nsm d T r s := si_nonneg (fun u _ => by
    split
    · exact bnR_nn hd T r u
    · exact Int.le_refl 0)
  have h1 : fb_si (fun u => bnR d T r u - (if s.testBit u then bnR d T r u else 0)) 8 = fb_si (bnR d T r) 8 - nsm d T r s := fb_si_sub _ _ 8
  have h2 : 0 ≤ fb_si (fun u => bnR d T r u - (if s.testBit u then bnR d T r u else 0)) 8 := si_nonneg (fun u _ => by
    have := bnR_nn hd T r u
    split <;> omega)
  rw [bnR_sum hd hT r] at h1
  have h3 := DR_ok hd T r
  have h4 := cst_le hd T
  have h5 : (cst d T : Int) * DR d T r ≤ 67800 * 34012224000000 := Int.mul_le_mul (by omega) h3.2 (by omega) (by omega)
  exact ⟨h0, by omega⟩
theorem lv_cmp {d : Dw} (hd : Okd d) {T : Nat} (hT : T < 256) (r s : Nat) : zL (nsm d T r s) ≤ (nI (cst d s)).toInt64 * zL (DR d T r) ↔ nsm d T r s ≤ (cst d s : Int) * DR d T r := by
  have h1 := nsm_ok hd hT r s
  have h3 := DR_ok hd T r
  have h4 := cst_le hd s
  have h5 : (cst d s : Int) * DR d T r ≤ 67800 * 34012224000000 := Int.mul_le_mul (by omega) h3.2 (by omega) (by omega)
  have h6 : 0 ≤ (cst d s : Int) * DR d T r := Int.mul_nonneg (by omega) (by omega)
  rw [zL_nI (by omega), zL_mul, Int64.le_iff_toInt_le, zL_toInt (by omega) (by omega), zL_toInt (by omega) (by omega)]
theorem sp_numX {S : St} {d : Dw} {T r s : Nat} (hs : s < 256) (h19 : ∀ u, u < 8 → S.2 19 u = zL (bnR d T r u)) {post : Int64 → St → Prop} (h : post (zL (nsm d T r s)) S) : wp_X2_numeratorOf S (nI s) post := by
  refine lp_up (X := fun f i => wL_X2_numeratorOf_5 (nI s) (fun (z2 : Int64) (_ : Int32) (S1 : St) => post z2 S1) f (zL (fb_si (fun u => if s.testBit u then bnR d T r u else 0) i)) (nI i) S) (Nat.zero_le 8) (fun f => ⟨fun _ => h, fun q => absurd (by decide) q⟩) (fun f i _ hi hrec => ⟨fun q => absurd q (nI_ge (a := i) (b := 8) hi (by decide)), fun _ => sp_isIn (by omega) (by omega) (br_b (fun hb => ?_) (fun hb => ⟨vp_in_nI hi (by decide), fun x4 e4 => ?_⟩))⟩)
  · rw [fb_si_succ, hb] at hrec
    simp only [Bool.false_eq_true, if_false, Int.add_zero] at hrec
    rw [nI_1]
    exact hrec
  · rw [fb_si_succ, hb, if_pos rfl] at hrec
    rw [nI_clamp (by omega), h19 i hi, zL_add] at e4
    rw [e4, nI_1]
    exact hrec
theorem lvX {S : St} {d : Dw} {m T r : Nat} (hI : XI S d) (hU : XU S T m) (h4 : S.2 4 1 = zL (DR d T r)) (h19 : ∀ u, u < 8 → S.2 19 u = zL (bnR d T r u)) {post : Int32 → St → Prop} (h : ∀ s0 S', Lv d T r s0 → Xf S S' → XI S' d → post (nI s0) S') : ∃ f, wL_X5_leaving_16 post (fun (_ : Int32) (S5 : St) => post 0 S5) f 1 S := by
  have hd := hI.1
  have hT := hU.lt
  have key : ∀ n i (S2 : St), i + n = T + 1 → 1 ≤ i → Xf S S2 → XI S2 d → S2.2 = S.2 → (∀ s, 1 ≤ s → s < i → ¬ viol d T r s) → wL_X5_leaving_16 post (fun (_ : Int32) (S5 : St) => post 0 S5) (n + 1) (nI i) S2 := by
    intro n
    induction n with
    | zero =>
      intro i S2 hi h1 g1 g2 g3 g4
      have e21 : S2.1 2 1 = nI T := by rw [g1 2 (by decide)]; exact hU.2.1
      refine ⟨fun _ => h 0 S2 (Or.inr ⟨rfl, fun s a b hv => ?_⟩) g1 g2, fun q => ?_⟩
      · have := sub_le hv.1 b
        exact g4 s a (by omega) hv
      · rw [e21] at q
        exact absurd (Int32.lt_iff_toInt_lt.mpr (by rw [nI_toInt (by omega), nI_toInt (by omega)]; omega)) q
    | succ n ih =>
      intro i S2 hi h1 g1 g2 g3 g4
      have e21 : S2.1 2 1 = nI T := by rw [g1 2 (by decide)]; exact hU.2.1
      refine ⟨fun q => ?_, fun _ => ?_⟩
      · rw [e21, Int32.lt_iff_toInt_lt, nI_toInt (by omega), nI_toInt (by omega)] at q
        omega
      · rw [e21, nI_ldf, is0 (Nat.lt_of_le_of_lt (ldf_le _ _) (by omega)), nI_1]
        refine ⟨fun hz => ih (i + 1) S2 (by omega) (by omega) g1 g2 g3 (fun s a b hv => ?_), fun hz => sp_numX (by omega) (fun u hu => by rw [g3]; exact h19 u hu) (sp_costOf g2 (by omega) (fun S3 f3 i3 => ?_))⟩
        · by_cases e : s = i
          · subst e
            have := hv.1
            unfold inb at this
            rw [beq_iff_eq] at this
            exact hz this
          · exact g4 s a (by omega) hv
        · have e32 : S3.2 = S.2 := f3.1.trans g3
          rw [e32, h4, lv_cmp hd hT]
          refine ⟨fun hle => ih (i + 1) S3 (by omega) (by omega) (g1.trans f3.xf) i3 e32 (fun s a b hv => ?_), fun hgt => h i S3 (Or.inl ⟨h1, by omega, ⟨by unfold inb; rw [hz]; rfl, hgt⟩, g4⟩) (g1.trans f3.xf) i3⟩
          by_cases e : s = i
          · subst e; exact hv.2 hle
          · exact g4 s a (by omega) hv
  exact ⟨T + 1, key T 1 S (by omega) (by omega) (Xf.refl S) hI rfl (fun s a b => by omega)⟩
theorem lvM {S : St} {d : Dw} {m T r : Nat} (hd : Okd d) (hm : Okm d m) (hW : MW S d m) (hTm : MT S T m) (h24 : S.1 25 24 = nI T) (h22 : S.2 25 22 = zL (DR d T r)) (h40 : ∀ u, u < m → S.2 40 u = zL (bnR d T r u)) {post : Int32 → St → Prop} (h : ∀ s0, Lv d T r s0 → post (nI s0) S) : ∃ f, wL_X6_leaving_21 post (fun (_ : Int32) (S6 : St) => post 0 S6) f 1 S := by
  have hm8 := hm.1
  have hT := hTm.lt hm8
  have key : ∀ n i, i + n = 256 → 1 ≤ i → (∀ s, 1 ≤ s → s < i → ¬ viol d T r s) → wL_X6_leaving_21 post (fun (_ : Int32) (S6 : St) => post 0 S6) (n + 1) (nI i) S := by
    intro n
    induction n with
    | zero =>
      intro i hi h1 g4
      have e : i = 256 := by omega
      subst e
      exact ⟨fun _ => h 0 (Or.inr ⟨rfl, g4⟩), fun q => absurd (by decide) q⟩
    | succ n ih =>
      intro i hi h1 g4
      refine ⟨fun q => absurd q (nI_ge (a := i) (b := 256) (by omega) (by decide)), fun _ => ?_⟩
      rw [h24, nI_ldf, is0 (Nat.lt_of_le_of_lt (ldf_le _ _) (by omega)), nI_1]
      refine ⟨fun hz => ?_, fun hz => ih (i + 1) (by omega) (by omega) (fun s a b hv => ?_)⟩
      · have hin : inb i T = true := by unfold inb; rw [hz]; rfl
        have hsub := (inb_iff (by omega)).mp hin
        have ens : fb_si (fun u => if i.testBit u then bnR d T r u else 0) m = nsm d T r i := by
          refine (si_more' _ 8 hm8 (fun k a _ => ?_)).symm
          cases hb : i.testBit k with
          | false => rfl
          | true => have := bit_lt hTm.1 (hsub k hb); omega
        have hs : ∀ {K : Int64 → Int32 → St → Prop}, K (zL (nsm d T r i)) (nI m) S → ∃ f, wL_X6_leaving_47 (nI i) K f 0 0 S := fun {K} hk => by
          rw [← ens] at hk
          refine lp_up (X := fun f j => wL_X6_leaving_47 (nI i) K f (zL (fb_si (fun u => if i.testBit u then bnR d T r u else 0) j)) (nI j) S) (Nat.zero_le m) (fun f => ⟨fun _ => hk, fun q => ?_⟩) (fun f j _ hj hrec => ⟨fun q => ?_, fun _ => br_bit (by omega) (by omega) (fun hb => fun x1 e1 => ?_) (fun hb => ⟨vp_in_nI (by omega) (by decide), fun x3 e3 => ?_⟩)⟩)
          · rw [hW.2.1] at q
            exact absurd (nI_le (Nat.le_refl _) (by omega)) q
          · rw [hW.2.1] at q
            exact absurd q (nI_ge hj (by omega))
          · rw [fb_si_succ, hb] at hrec
            simp only [Bool.false_eq_true, if_false, Int.add_zero] at hrec
            rw [Int64.add_zero] at e1
            rw [e1, nI_1]
            exact hrec
          · rw [fb_si_succ, hb, if_pos rfl] at hrec
            rw [nI_clamp (by omega), h40 j hj, zL_add] at e3
            rw [e3, nI_1]
            exact hrec
        refine hs (sp_costM hd hm hW (by omega) ?_)
        rw [h22, lv_cmp hd hT]
        refine ⟨fun hle => ih (i + 1) (by omega) (by omega) (fun s a b hv => ?_), fun hgt => h i (Or.inl ⟨h1, by omega, ⟨hin, hgt⟩, g4⟩)⟩
        by_cases e : s = i
        · subst e; exact hv.2 hle
        · exact g4 s a (by omega) hv
      · by_cases e : s = i
        · subst e
          have := hv.1
          unfold inb at this
          rw [beq_iff_eq] at this
          exact hz this
        · exact g4 s a (by omega) hv
  exact ⟨256, key 255 1 (by omega) (by omega) (fun s a b => by omega)⟩
section Q4
variable {S : St} {d : Dw} {m T : Nat} {P : Int32 → St → Prop}
theorem p_leaving (h : IV S d m T) {a : Int32} (hP : ∀ r S1, (∀ {K : Int32 → St → Prop}, (∀ S2, IVx S2 → K r S2) → wp_X6_leaving S1 a K) → P r S1) : wp_X5_leaving S a P := by
  have hm := h.om.1
  refine sp_ruleX (fun hno => ⟨fun q => absurd rfl q, fun _ => hP _ S (fun hK S1 e1 => ?_)⟩) (fun r hr e => ⟨fun _ => ?_, fun q => absurd q (by decide)⟩)
  · have h1 := h.m0 e1
    exact sp_ruleM (fun _ => ⟨fun q => absurd rfl q, fun _ => hK S1 h1.ex⟩) (fun r hr e => absurd e (hno r hr))
  · subst e
    refine sp_shareOut h.xi h.lt h.xu.2.1 (by omega) (fun S3 f3 i3 g4 g19 => ?_)
    have h3 := h.xf f3 i3
    refine lvX i3 h3.xu g4 g19 (fun s0 S5 hL f5 i5 => hP _ S5 (fun hK S1 e1 => ?_))
    have h5 := h3.xf f5 i5
    have h1 := h5.m0 e1
    refine sp_ruleM (fun hno => absurd rfl (hno r hr)) (fun _ _ _ => ⟨fun _ => ?_, fun q => absurd q (by decide)⟩)
    refine sp_bills h.d h.om h1.mw h1.mt (by omega) (fun S4 f4 b24 b22 b40 => ?_)
    have h4 := h1.mf f4
    refine lvM h.d h.om h4.mw h4.mt b24 b22 b40 (fun s1 hL1 => ?_)
    rw [hL1.one hL]
    exact hK S4 h4.ex
end Q4
