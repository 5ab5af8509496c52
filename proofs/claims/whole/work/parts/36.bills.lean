/-! ===== pure: the reference parts the cost ===== -/
def MF (S S' : St) : Prop := (∀ k, k ≠ 25 → k ≠ 36 → k ≠ 41 → k ≠ 42 → S'.1 k = S.1 k) ∧ ∀ j, j ≠ 0 → j ≠ 19 → j ≠ 24 → S'.1 25 j = S.1 25 j
theorem MF.refl (S : St) : MF S S := ⟨fun _ _ _ _ _ => rfl, fun _ _ _ _ => rfl⟩
theorem MF.trans {S S' S2 : St} (h : MF S S') (g : MF S' S2) : MF S S2 := ⟨fun k a b c e => (g.1 k a b c e).trans (h.1 k a b c e), fun j a b c => (g.2 j a b c).trans (h.2 j a b c)⟩
theorem MF.of1 {S S' : St} (e : S'.1 = S.1) : MF S S' := ⟨fun _ _ _ _ _ => by rw [e], fun _ _ _ _ => by rw [e]⟩
theorem Mf.mF {S S' : St} (h : Mf S S') : MF S S' := ⟨fun k a b _ _ => h.1 k a b, fun j _ b _ => h.2.1 j b⟩
theorem MF.uI {S : St} {k j : Nat} {v : Int32} (h : k = 36 ∨ k = 41 ∨ k = 42 ∨ (k = 25 ∧ (j = 0 ∨ j = 19 ∨ j = 24))) : MF S (uI S k j v) := by
  refine ⟨fun q a b c e => uI_row (by omega), fun q a b c => uI_ne (fun z => ?_)⟩
  have := z.1
  have := z.2
  omega
theorem MW.mF {S S' : St} {d : Dw} {m : Nat} (h : MW S d m) (hf : MF S S') : MW S' d m := by
  obtain ⟨h1, h2, h3, h4, h5, h6⟩ := h
  refine ⟨?_, ?_, fun w hw => ?_, fun w hw => ?_, fun w u hw hu => ?_, fun w v hw hv => ?_⟩
  · rw [hf.2 8 (by decide) (by decide) (by decide)]; exact h1
  · rw [hf.2 9 (by decide) (by decide) (by decide)]; exact h2
  · rw [hf.1 26 (by decide) (by decide) (by decide) (by decide)]; exact h3 w hw
  · rw [hf.1 27 (by decide) (by decide) (by decide) (by decide)]; exact h4 w hw
  · rw [hf.1 28 (by decide) (by decide) (by decide) (by decide)]; exact h5 w u hw hu
  · rw [hf.1 29 (by decide) (by decide) (by decide) (by decide)]; exact h6 w v hw hv
theorem MT.mF {S S' : St} {T m : Nat} (h : MT S T m) (hf : MF S S') : MT S' T m := ⟨h.1, fun u hu => by rw [hf.1 32 (by decide) (by decide) (by decide) (by decide)]; exact h.2 u hu⟩
theorem MT.lt {S : St} {T m : Nat} (h : MT S T m) (hm : m ≤ 8) : T < 256 := Nat.lt_of_lt_of_le h.1 (Nat.pow_le_pow_right (by decide) hm)
/-- a loop over the users of the reference -/
theorem zero_loop {S : St} {m : Nat} (h9 : S.1 25 9 = nI m) (hm : m ≤ 8) {p1 : Int32} {K : Int32 → St → Prop} (h : ∀ S', S'.1 = S.1 → (∀ u, u < m → S'.2 40 u = zL 0) → K (nI m) S') : ∃ f, wL_X6_bills_10 p1 K f 0 S := by
  have key : ∀ n i (S2 : St), i + n = m → S2.1 = S.1 → (∀ u, u < i → S2.2 40 u = zL 0) → wL_X6_bills_10 p1 K (n + 1) (nI i) S2 := by
    intro n
    induction n with
    | zero =>
      intro i S2 hi g1 g2
      have e : i = m := by omega
      subst e
      refine ⟨fun _ => h S2 g1 g2, fun q => ?_⟩
      rw [g1, h9] at q
      exact absurd (nI_le (Nat.le_refl _) (by omega)) q
    | succ n ih =>
      intro i S2 hi g1 g2
      refine ⟨fun q => ?_, fun _ => ⟨vp_in_nI (by omega) (by decide), fun S3 e3 => ?_⟩⟩
      · rw [g1, h9] at q
        exact absurd q (nI_ge (by omega) (by omega))
      · rw [nI_clamp (by omega)] at e3
        rw [nI_1]
        refine ih (i + 1) S3 (by omega) (by rw [e3]; exact g1) (fun u hu => ?_)
        rw [e3]
        by_cases e : u = i
        · subst e; rw [uJ_at]; rfl
        · rw [uJ_ne (fun z => e z.2)]; exact g2 u (by omega)
  exact ⟨m + 1, key m 0 S (by omega) rfl (fun u hu => absurd hu (Nat.not_lt_zero u))⟩
theorem br_there {S : St} {T m u : Nat} {A B : Prop} (hT : MT S T m) (hu : u < 8) (hf : T.testBit u = false → A) (ht : T.testBit u = true → B) : (S.1 32 (nI u).toNatClampNeg = 0 → A) ∧ (¬ (S.1 32 (nI u).toNatClampNeg = 0) → B) := by
  rw [nI_clamp (by omega), hT.2 u hu, bit_01]
  refine ⟨hf, fun q => ht ?_⟩
  cases hb : T.testBit u with
  | true => rfl
  | false => exact absurd hb q
/-! by use -/
theorem bu_in {S : St} {d : Dw} {m T u : Nat} (hd : Okd d) (hW : MW S d m) (hT : MT S T m) (hm : m ≤ 8) (hu : u < m) (h39 : ∀ w, w < dn d → S.2 39 w = zL (numX d T w)) {K : Int32 → St → Prop} (h : ∀ S', S'.1 = S.1 → (∀ k, k ≠ 40 → S'.2 k = S.2 k) → (∀ q, q ≠ u → S'.2 40 q = S.2 40 q) → S'.2 40 u = S.2 40 u + zL (bn0 d T u) → K (nI (dn d)) S') : ∃ f, wL_X6_bills_64 (nI u) K f 0 S := by
  have hn := hd.1
  have e6 : bn0 d T u = if T.testBit u then fb_si (fun w => (dus d w u : Int) * numX d T w) (dn d) else 0 := by
    unfold bn0
    rw [si_more' _ 6 hn (fun k h1 _ => by rw [hd.2.2.2.2.2.1 k u (Or.inl h1)]; simp)]
  have key : ∀ n i (S2 : St), i + n = dn d → S2.1 = S.1 → (∀ k, k ≠ 40 → S2.2 k = S.2 k) → (∀ q, q ≠ u → S2.2 40 q = S.2 40 q) → S2.2 40 u = S.2 40 u + zL (if T.testBit u then fb_si (fun w => (dus d w u : Int) * numX d T w) i else 0) → wL_X6_bills_64 (nI u) K (n + 1) (nI i) S2 := by
    intro n
    induction n with
    | zero =>
      intro i S2 hi g1 g2 g3 g4
      have e : i = dn d := by omega
      subst e
      refine ⟨fun _ => h S2 g1 g2 g3 (by rw [e6]; exact g4), fun q => ?_⟩
      rw [g1, hW.1] at q
      exact absurd (nI_le (Nat.le_refl _) (by omega)) q
    | succ n ih =>
      intro i S2 hi g1 g2 g3 g4
      have hin : i < dn d := by omega
      refine ⟨fun q => ?_, fun _ => ⟨vp_in_nI (by omega) (by decide), br_there (hT.mF (MF.of1 g1)) (by omega) (fun hb => ?_) (fun hb => ⟨vp_in_nI (by omega) (by decide), ?_⟩)⟩⟩
      · rw [g1, hW.1] at q
        exact absurd q (nI_ge hin (by omega))
      · rw [nI_1]
        refine ih (i + 1) S2 (by omega) g1 g2 g3 ?_
        rw [g4, hb]
        rfl
      · rw [ix8]
        refine ⟨vp_in_nI (by omega) (by decide), vp_in_nI (by omega) (by decide), vp_in_nI (by omega) (by decide), fun S6 e6 => ?_⟩
        have h9 := hd.2.2.2.1 i u
        rw [nI_clamp (by omega), nI_clamp (by omega), nI_clamp (by omega), g1, hW.2.2.2.2.1 i u (by omega) (by omega), g2 39 (by decide), h39 i hin, zL_nI (by omega), zL_mul, g4, hb, if_pos rfl] at e6
        rw [nI_1]
        refine ih (i + 1) S6 (by omega) (by rw [e6]; exact g1) (fun k hk => by rw [e6, uJ_row hk]; exact g2 k hk) (fun q hq => by rw [e6, uJ_ne (fun z => hq z.2)]; exact g3 q hq) ?_
        rw [e6, uJ_at, hb, if_pos rfl, fb_si_succ, Int64.add_assoc, zL_add]
  exact ⟨dn d + 1, key (dn d) 0 S (by omega) rfl (fun _ _ => rfl) (fun _ _ => rfl) (by
    have : (if T.testBit u then fb_si (fun w => (dus d w u : Int) * numX d T w) 0 else 0) = 0 := by cases T.testBit u <;> rfl
    rw [this, show zL 0 = 0 from rfl, Int64.add_zero])⟩
theorem bu_loop {S : St} {d : Dw} {m T : Nat} (hd : Okd d) (hW : MW S d m) (hT : MT S T m) (hm : m ≤ 8) (h39 : ∀ w, w < dn d → S.2 39 w = zL (numX d T w)) (h40 : ∀ u, u < m → S.2 40 u = zL 0) {K : Int32 → St → Prop} (h : ∀ S', S'.1 = S.1 → (∀ k, k ≠ 40 → S'.2 k = S.2 k) → (∀ u, u < m → S'.2 40 u = zL (bn0 d T u)) → K (nI m) S') : ∃ f, wL_X6_bills_54 K f 0 S := by
  have key : ∀ n i (S2 : St), i + n = m → S2.1 = S.1 → (∀ k, k ≠ 40 → S2.2 k = S.2 k) → (∀ u, u < i → S2.2 40 u = zL (bn0 d T u)) → (∀ u, i ≤ u → S2.2 40 u = S.2 40 u) → wL_X6_bills_54 K (n + 1) (nI i) S2 := by
    intro n
    induction n with
    | zero =>
      intro i S2 hi g1 g2 g3 g4
      have e : i = m := by omega
      subst e
      refine ⟨fun _ => h S2 g1 g2 g3, fun q => ?_⟩
      rw [g1, hW.2.1] at q
      exact absurd (nI_le (Nat.le_refl _) (by omega)) q
    | succ n ih =>
      intro i S2 hi g1 g2 g3 g4
      refine ⟨fun q => ?_, fun _ => ?_⟩
      · rw [g1, hW.2.1] at q
        exact absurd q (nI_ge (by omega) (by omega))
      · refine bu_in hd (hW.mF (MF.of1 g1)) (hT.mF (MF.of1 g1)) hm (show i < m by omega) (fun w hw => by rw [g2 39 (by decide)]; exact h39 w hw) (fun S3 c1 c2 c3 c4 => ?_)
        rw [nI_1]
        refine ih (i + 1) S3 (by omega) (c1.trans g1) (fun k hk => (c2 k hk).trans (g2 k hk)) (fun u hu => ?_) (fun u hu => ?_)
        · by_cases e : u = i
          · subst e
            rw [c4, g4 u (Nat.le_refl _), h40 u (by omega), zL_add, Int.zero_add]
          · rw [c3 u e]; exact g3 u (by omega)
        · rw [c3 u (by omega)]; exact g4 u (by omega)
  exact ⟨m + 1, key m 0 S (by omega) rfl (fun _ _ => rfl) (fun u hu => absurd hu (Nat.not_lt_zero u)) (fun _ _ => rfl)⟩
/-! alone -/
theorem al_sum8 {d : Dw} {T m : Nat} (hT : T < 2 ^ m) (hm : m ≤ 8) : fb_sm (al d T) m = sal d T := by
  unfold sal
  refine (sm_ext (fun k hk => ?_) 8 hm).symm
  unfold al
  cases hb : T.testBit k with
  | false => rfl
  | true => have := bit_lt hT hb; omega
theorem ba_sum {S : St} {d : Dw} {m T : Nat} (hd : Okd d) (hm : Okm d m) (hW : MW S d m) (hT : MT S T m) {K : Int64 → Int32 → St → Prop} (h : K (zL (sal d T)) (nI m) S) : ∃ f, wL_X6_bills_134 K f 0 0 S := by
  have hm8 := hm.1
  rw [← al_sum8 hT.1 hm8] at h
  refine lp_up (X := fun f i => wL_X6_bills_134 K f (zL (fb_sm (al d T) i : Nat)) (nI i) S) (Nat.zero_le m) (fun f => ⟨fun _ => h, fun q => ?_⟩) (fun f i _ hi hrec => ⟨fun q => ?_, fun _ => ⟨vp_in_nI (by omega) (by decide), br_there hT (by omega) (fun hb => fun x2 e2 => ?_) (fun hb => ?_)⟩⟩)
  · rw [hW.2.1] at q
    exact absurd (nI_le (Nat.le_refl _) (by omega)) q
  · rw [hW.2.1] at q
    exact absurd q (nI_ge hi (by omega))
  · have hal : al d T i = 0 := by unfold al; rw [hb]; rfl
    rw [fb_sm_succ, hal, Nat.add_zero] at hrec
    rw [Int64.add_zero] at e2
    rw [e2, nI_1]
    exact hrec
  · have hal : al d T i = cst d (2 ^ i) := by unfold al; rw [hb]; rfl
    have hc := cst_le hd (2 ^ i)
    rw [nI_pow (by omega)]
    refine sp_costM hd hm hW (Nat.pow_lt_pow_right (n := 8) (by decide) (by omega)) (fun x5 e5 => ?_)
    rw [zL_nI (by omega), ← hal, zL_add, ← Int.natCast_add] at e5
    rw [e5, nI_1]
    exact hrec
theorem ba_loop {S : St} {d : Dw} {m T : Nat} (hd : Okd d) (hm : Okm d m) (hW : MW S d m) (hT : MT S T m) (h24 : S.1 25 24 = nI T) {K : Int32 → St → Prop} (h : ∀ S', S'.1 = S.1 → (∀ k, k ≠ 40 → S'.2 k = S.2 k) → (∀ u, u < m → S'.2 40 u = zL (bn1 d T u)) → K (nI m) S') : ∃ f, wL_X6_bills_190 K f 0 S := by
  have hm8 := hm.1
  have hT8 := hT.lt hm8
  have key : ∀ n i (S2 : St), i + n = m → S2.1 = S.1 → (∀ k, k ≠ 40 → S2.2 k = S.2 k) → (∀ u, u < i → S2.2 40 u = zL (bn1 d T u)) → wL_X6_bills_190 K (n + 1) (nI i) S2 := by
    intro n
    induction n with
    | zero =>
      intro i S2 hi g1 g2 g3
      have e : i = m := by omega
      subst e
      refine ⟨fun _ => h S2 g1 g2 g3, fun q => ?_⟩
      rw [g1, hW.2.1] at q
      exact absurd (nI_le (Nat.le_refl _) (by omega)) q
    | succ n ih =>
      intro i S2 hi g1 g2 g3
      have hW2 := hW.mF (MF.of1 g1)
      have next : ∀ (v : Int64) (S3 : St), S3 = uJ S2 40 i v → v = zL (bn1 d T i) → wL_X6_bills_190 K (n + 1) (nI i + 1) S3 := by
        intro v S3 e3 ev
        rw [nI_1]
        refine ih (i + 1) S3 (by omega) (by rw [e3]; exact g1) (fun k hk => by rw [e3, uJ_row hk]; exact g2 k hk) (fun u hu => ?_)
        rw [e3]
        by_cases e : u = i
        · subst e; rw [uJ_at, ev]
        · rw [uJ_ne (fun z => e z.2)]; exact g3 u (by omega)
      refine ⟨fun q => ?_, fun _ => ⟨vp_in_nI (by omega) (by decide), br_there (hT.mF (MF.of1 g1)) (by omega) (fun hb => ⟨vp_in_nI (by omega) (by decide), fun S3 e3 => ?_⟩) (fun hb => ?_)⟩⟩
      · rw [g1, hW.2.1] at q
        exact absurd q (nI_ge (by omega) (by omega))
      · rw [nI_clamp (by omega)] at e3
        refine next _ S3 e3 ?_
        unfold bn1 al
        rw [hb]
        simp
        rfl
      · rw [g1, h24, nI_pow (by omega)]
        refine sp_costM hd hm hW2 hT8 (sp_costM hd hm hW2 (Nat.pow_lt_pow_right (n := 8) (by decide) (by omega)) ⟨vp_in_nI (by omega) (by decide), fun S9 e9 => ?_⟩)
        have hc := cst_le hd (2 ^ i)
        have hc2 := cst_le hd T
        rw [nI_clamp (by omega), zL_nI (by omega), zL_nI (by omega), zL_mul] at e9
        refine next _ S9 e9 ?_
        unfold bn1 al
        rw [hb]
        rfl
  exact ⟨m + 1, key m 0 S (by omega) rfl (fun _ _ => rfl) (fun u hu => absurd hu (Nat.not_lt_zero u))⟩
/-! the orders -/
theorem bo_loop {S : St} {d : Dw} {m T : Nat} (hd : Okd d) (hm : Okm d m) (hW : MW S d m) (hT : MT S T m) (h24 : S.1 25 24 = nI T) {K : Int32 → St → Prop} (h : ∀ S', MF S S' → S'.1 25 24 = nI T → S'.2 = S.2 → (∀ q, q < 256 → sub q T → S'.1 41 q = nI (cst d q)) → K 256 S') : ∃ f, wL_X6_bills_250 K f 0 S := by
  have hm8 := hm.1
  have hT8 := hT.lt hm8
  have key : ∀ n i (S2 : St), i + n = 256 → MF S S2 → S2.1 25 24 = nI T → S2.2 = S.2 → (∀ q, q < i → sub q T → S2.1 41 q = nI (cst d q)) → wL_X6_bills_250 K (n + 1) (nI i) S2 := by
    intro n
    induction n with
    | zero =>
      intro i S2 hi g1 g2 g3 g4
      have e : i = 256 := by omega
      subst e
      exact ⟨fun _ => h S2 g1 g2 g3 g4, fun q => absurd (by decide) q⟩
    | succ n ih =>
      intro i S2 hi g1 g2 g3 g4
      have next : ∀ (v : Int32) (S3 : St), S3 = uI S2 41 i v → (sub i T → v = nI (cst d i)) → wL_X6_bills_250 K (n + 1) (nI i + 1) S3 := by
        intro v S3 e3 ev
        rw [nI_1]
        refine ih (i + 1) S3 (by omega) (g1.trans (by rw [e3]; exact MF.uI (by omega))) (by rw [e3, uI_row (by decide)]; exact g2) (by rw [e3]; exact g3) (fun u hu hs => ?_)
        rw [e3]
        by_cases e : u = i
        · subst e; rw [uI_at, ev hs]
        · rw [uI_ne (fun z => e z.2)]; exact g4 u (by omega) hs
      refine ⟨fun q => absurd q (nI_ge (a := i) (b := 256) (by omega) (by decide)), fun _ => ?_⟩
      rw [g2, nI_ldf, is0 (Nat.lt_of_le_of_lt (ldf_le _ _) (by omega))]
      refine ⟨fun hz => ⟨vp_in_nI (by omega) (by decide), fun S3 e3 => ?_⟩, fun hz => ?_⟩
      · rw [nI_clamp (by omega)] at e3
        refine next _ S3 e3 (fun hs => absurd ?_ hz)
        have := (inb_iff (a := i) (b := T) (by omega)).mpr hs
        unfold inb at this
        rw [beq_iff_eq] at this
        exact this
      · refine sp_costM hd hm (hW.mF g1) (by omega) ⟨vp_in_nI (by omega) (by decide), fun S6 e6 => ?_⟩
        rw [nI_clamp (by omega)] at e6
        exact next _ S6 e6 (fun _ => rfl)
  exact ⟨257, key 256 0 S (by omega) (MF.refl S) h24 rfl (fun u hu => absurd hu (Nat.not_lt_zero u))⟩
theorem l_cancel (a b : Int64) : a + b - a = b := by
  rw [Int64.add_comm, Int64.add_sub_cancel]
theorem sp_comes {d : Dw} {m T : Nat} (hm : m ≤ 8) (hT : T < 2 ^ m) (hd : Okd d) : ∀ (k f s : Nat), k < f → s < 256 → sub s T → pc s + k = pc T → ∀ (S : St), S.1 25 9 = nI m → S.1 25 24 = nI T → (∀ q, q < 256 → sub q T → S.1 41 q = nI (cst d q)) → ∀ {post : St → Prop}, (∀ S', S'.1 = S.1 → S'.2 25 22 = S.2 25 22 + zL (fct k) → (∀ u, u < 8 → S'.2 40 u = S.2 40 u + zL (ecn (fun s => (cst d s : Int)) T k s u)) → post S') → wp_X6_comes f S (nI s) post := by
  have hT8 : T < 256 := Nat.lt_of_lt_of_le hT (Nat.pow_le_pow_right (by decide) hm)
  intro k
  induction k with
  | zero =>
    intro f s hf hs hsub hp S h9 h24 h41 post h
    match f, hf with
    | f + 1, _ =>
      have e : s = T := pc_eq hT8 hsub (by omega)
      subst e
      refine ⟨fun q => absurd h24.symm q, fun _ S4 e4 => h S4 (by rw [e4]; rfl) ?_ (fun u hu => ?_)⟩
      · rw [e4, uJ_at]; rfl
      · rw [e4, uJ_row (by decide)]
        show _ = _ + zL 0
        rw [show zL 0 = 0 from rfl, Int64.add_zero]
  | succ k ih =>
    intro f s hf hs hsub hp S h9 h24 h41 post h
    match f, hf with
    | f + 1, hf =>
      have hne : s ≠ T := fun e => by subst e; omega
      refine ⟨fun _ => ?_, fun q => absurd ((nI_eq (by omega) (by omega)).mp (q.trans h24)) hne⟩
      let g : Nat → Int := fun v => if T.testBit v && !s.testBit v then (fct k : Int) else 0
      let gu : Nat → Nat → Int := fun u v => if T.testBit v && !s.testBit v then ecn (fun s => (cst d s : Int)) T k (s ||| 2 ^ v) u + (if u = v then (fct k : Int) * ((cst d (s ||| 2 ^ v) : Int) - cst d s) else 0) else 0
      have hg8 : fb_si g m = ((fct (k + 1) : Nat) : Int) := by
        have e1 : fb_si g 8 = fb_si g m := si_more' g 8 hm (fun v h1 h2 => by
          show (if T.testBit v && !s.testBit v then (fct k : Int) else 0) = 0
          cases hb : T.testBit v with
          | true => have := bit_lt hT hb; omega
          | false => rfl)
        rw [← e1]
        show fb_si (fun v => if T.testBit v && !s.testBit v then (fct k : Int) else 0) 8 = _
        rw [si_ct]
        have := pc_dif hsub
        rw [show fb_ct (fun v => T.testBit v && !s.testBit v) 8 = k + 1 by omega, show fct (k + 1) = (k + 1) * fct k from rfl, Int.natCast_mul]
      have hgu8 : ∀ u, fb_si (gu u) m = ecn (fun s => (cst d s : Int)) T (k + 1) s u := fun u => by
        show _ = fb_si (gu u) 8
        exact (si_more' (gu u) 8 hm (fun v h1 h2 => by
          show (if T.testBit v && !s.testBit v then _ else (0 : Int)) = 0
          cases hb : T.testBit v with
          | true => have := bit_lt hT hb; omega
          | false => rfl)).symm
      have key : ∀ n i (S2 : St), i + n = m → S2.1 = S.1 → S2.2 25 22 = S.2 25 22 + zL (fb_si g i) → (∀ u, u < 8 → S2.2 40 u = S.2 40 u + zL (fb_si (gu u) i)) → wL_X6_comes_21 (wp_X6_comes f) (nI s) (fun (_ : Int32) (S1 : St) => post S1) (n + 1) (nI i) S2 := by
        intro n
        induction n with
        | zero =>
          intro i S2 hi g1 g2 g3
          have e : i = m := by omega
          subst e
          refine ⟨fun _ => h S2 g1 (by rw [g2, hg8]) (fun u hu => by rw [g3 u hu, hgu8 u]), fun q => ?_⟩
          rw [g1, h9] at q
          exact absurd (nI_le (Nat.le_refl _) (by omega)) q
        | succ n ih2 =>
          intro i S2 hi g1 g2 g3
          have him : i < m := by omega
          have hi8 : i < 8 := by omega
          refine ⟨fun q => ?_, fun _ => ?_⟩
          · rw [g1, h9] at q
            exact absurd q (nI_ge him (by omega))
          · rw [g1, h24, nI_ldf]
            have hbit := ldf_bit (b := s) (show T < 2 ^ 32 by omega) i
            refine br_bit0 (Nat.lt_of_le_of_lt (ldf_le _ _) (by omega)) (by omega) (fun hb => fun x1 e1 => ?_) (fun hb => ?_)
            · rw [hb] at hbit
              have hbit2 : (T.testBit i && !s.testBit i) = true := hbit.symm
              have hb3 := hbit2
              simp only [Bool.and_eq_true, Bool.not_eq_true'] at hb3
              have h2 : s ||| 2 ^ i < 256 := or_lt (n := 8) (by omega) (Nat.pow_lt_pow_right (by decide) hi8)
              have hsub2 := sub_or hsub hb3.1
              rw [nI_or_pow (by omega)]
              refine ih f (s ||| 2 ^ i) (by omega) h2 hsub2 (by rw [pc_or hi8 hb3.2]; omega) S2 (by rw [g1]; exact h9) (by rw [g1]; exact h24) (by rw [g1]; exact h41) (fun S3 c1 c2 c3 => ⟨vp_in_nI hi8 (by decide), vp_in_nI h2 (by decide), vp_in_nI hs (by decide), vp_in_nI hi8 (by decide), fun S8 e8 => ?_⟩)
              have hmo := cst_mono hd (sub_or_l s (2 ^ i))
              have hc := cst_le hd (s ||| 2 ^ i)
              rw [nI_clamp (by omega), nI_clamp (by omega), nI_clamp (by omega), c1, g1, h41 _ h2 hsub2, h41 _ hs hsub, pk_sub hmo, zL_nI (by omega), c2, e1, l_cancel, zL_mul, c3 i hi8, g3 i hi8] at e8
              rw [nI_1]
              have hg : g i = (fct k : Int) := by show (if _ then _ else _) = _; rw [hbit2]; rfl
              have hgu : ∀ u, gu u i = ecn (fun s => (cst d s : Int)) T k (s ||| 2 ^ i) u + (if u = i then (fct k : Int) * ((cst d (s ||| 2 ^ i) : Int) - cst d s) else 0) := fun u => by show (if _ then _ else _) = _; rw [hbit2]; rfl
              refine ih2 (i + 1) S8 (by omega) (by rw [e8]; exact c1.trans g1) ?_ (fun u hu => ?_)
              · rw [e8, uJ_row (by decide), c2, g2, fb_si_succ, hg, Int64.add_assoc, zL_add]
              · rw [e8, fb_si_succ, hgu u]
                by_cases e : u = i
                · subst e
                  rw [uJ_at, if_pos rfl, Int64.add_assoc, Int64.add_assoc, zL_add, zL_add, Int.natCast_sub hmo]
                · rw [uJ_ne (fun z => e z.2), c3 u hu, g3 u hu, if_neg e, Int.add_zero, Int64.add_assoc, zL_add]
            · rw [hb] at hbit
              have hbit2 : (T.testBit i && !s.testBit i) = false := hbit.symm
              have hg : g i = 0 := by show (if _ then _ else _) = _; rw [hbit2]; rfl
              have hgu : ∀ u, gu u i = 0 := fun u => by show (if _ then _ else _) = _; rw [hbit2]; rfl
              rw [nI_1]
              refine ih2 (i + 1) S2 (by omega) g1 (by rw [fb_si_succ, hg, Int.add_zero]; exact g2) (fun u hu => by rw [fb_si_succ, hgu u, Int.add_zero]; exact g3 u hu)
      exact ⟨m + 1, key m 0 S (by omega) rfl (by show _ = _ + zL 0; rw [show zL 0 = 0 from rfl, Int64.add_zero]) (fun u _ => by show _ = _ + zL 0; rw [show zL 0 = 0 from rfl, Int64.add_zero])⟩
/-- the reference's parting, by any rule -/
theorem sp_bills {S : St} {d : Dw} {m T r : Nat} (hd : Okd d) (hm : Okm d m) (hW : MW S d m) (hT : MT S T m) (hr : r < 3) {post : St → Prop} (h : ∀ S', MF S S' → S'.1 25 24 = nI T → S'.2 25 22 = zL (DR d T r) → (∀ u, u < m → S'.2 40 u = zL (bnR d T r u)) → post S') : wp_X6_bills S (nI r) post := by
  have hm8 := hm.1
  have hT8 := hT.lt hm8
  refine sp_thereM hm8 hW.2.1 hT (fun S3 e3 => ?_)
  have f3 : MF S S3 := by rw [e3]; exact MF.uI (by omega)
  have h24 : S3.1 25 24 = nI T := by rw [e3, uI_at]
  refine zero_loop (hW.mF f3).2.1 hm8 (fun S4 c1 c2 => fun S6 e6 => ?_)
  have e61 : S6.1 = S3.1 := by rw [e6]; exact c1
  have f6 : MF S S6 := f3.trans (MF.of1 e61)
  have hW6 := hW.mF f6
  have hT6 := hT.mF f6
  have h240 : ∀ u, u < m → S6.2 40 u = zL 0 := fun u hu => by rw [e6, uJ_row (by decide)]; exact c2 u hu
  have h624 : S6.1 25 24 = nI T := by rw [e61]; exact h24
  refine ⟨fun h0 => ⟨fun h1 => ?_, fun h1 => ?_⟩, fun h0 => ?_⟩
  · have e : r = 2 := by
      have a : r ≠ 0 := fun z => h0 (by rw [z]; rfl)
      have b : r ≠ 1 := fun z => h1 (by rw [z]; rfl)
      omega
    subst e
    refine bo_loop hd hm hW6 hT6 h624 (fun S7 a1 a2 a3 a4 => fun S9 e9 => ?_)
    have e91 : S9.1 = S7.1 := by rw [e9]; rfl
    refine sp_comes hm8 hT.1 hd (pc T) 10 0 (by have := pc_le8 T; omega) (by decide) (sub_0 T) (by rw [pc_0]; omega) S9 (by rw [e91]; exact (hW6.mF a1).2.1) (by rw [e91]; exact a2) (by rw [e91]; exact a4) (fun S10 b1 b2 b3 => ?_)
    refine h S10 ((f6.trans a1).trans (MF.of1 (b1.trans e91))) (by rw [b1, e91]; exact a2) ?_ (fun u hu => ?_)
    · rw [b2, e9, uJ_at, Int64.zero_add]; rfl
    · rw [b3 u (by omega), e9, uJ_row (by decide), a3, h240 u hu, zL_add, Int.zero_add]; rfl
  · have e : r = 1 := (nI_eq (a := r) (b := 1) (by omega) (by decide)).mp h1
    subst e
    have hsal := sal_le hd T
    have ez : (zL (sal d T) = 0) ↔ sal d T = 0 := by
      constructor
      · intro q
        have := congrArg Int64.toInt q
        unfold zL at this
        rw [Int64.toInt_ofInt_of_le (by omega) (by omega)] at this
        have e0 : (0 : Int64).toInt = 0 := by decide
        omega
      · intro q
        rw [q]; rfl
    refine ba_sum hd hm hW6 hT6 ⟨fun hne S16 e16 => ?_, fun he => ?_⟩
    · have e161 : S16.1 = S6.1 := by rw [e16]; rfl
      refine ba_loop hd hm (hW6.mF (MF.of1 e161)) (hT6.mF (MF.of1 e161)) (by rw [e161]; exact h624) (fun S17 b1 b2 b3 => ?_)
      refine h S17 (f6.trans (MF.of1 (b1.trans e161))) (by rw [b1, e161]; exact h624) ?_ (fun u hu => by rw [b3 u hu]; rfl)
      rw [b2 25 (by decide), e16, uJ_at]
      unfold DR D1
      rw [if_neg (by decide), if_pos rfl, if_neg (fun z => hne (ez.mpr z))]
    · have hz := ez.mp he
      refine h S6 f6 h624 ?_ (fun u hu => ?_)
      · rw [e6, uJ_at]
        unfold DR D1
        rw [if_neg (by decide), if_pos rfl, if_pos hz]
        rfl
      · rw [h240 u hu]
        have : al d T u = 0 := fb_sm_zero hz u (by omega)
        show zL 0 = zL (bn1 d T u)
        unfold bn1
        rw [this]
        simp
  · have e : r = 0 := (nI_eq (a := r) (b := 0) (by omega) (by decide)).mp h0
    subst e
    refine sp_pricesM hd hm hW6 hT6 (fun S21 a1 a2 a3 => fun S23 e23 => ?_)
    have e231 : S23.1 = S21.1 := by rw [e23]; rfl
    have f23 : MF S6 S23 := a1.mF.trans (MF.of1 e231)
    refine bu_loop hd (hW6.mF f23) (hT6.mF f23) hm8 (fun w hw => by rw [e23, uJ_row (by decide)]; exact a3 w hw) (fun u hu => by rw [e23, uJ_row (by decide), a1.2.2.1 40 (by decide) (by decide) (by decide) (by decide)]; exact h240 u hu) (fun S24 b1 b2 b3 => ?_)
    refine h S24 ((f6.trans f23).trans (MF.of1 b1)) ?_ ?_ (fun u hu => by rw [b3 u hu]; rfl)
    · rw [b1, e231, a1.2.1 24 (by decide)]; exact h624
    · rw [b2 25 (by decide), e23, uJ_at, a2]; rfl
