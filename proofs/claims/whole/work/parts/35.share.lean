/-! ===== pure: the class parts the cost ===== -/
def Xf (S S' : St) : Prop := ∀ k, k ≠ 13 → S'.1 k = S.1 k
theorem Xf.refl (S : St) : Xf S S := fun _ _ => rfl
theorem Xf.trans {S S' S2 : St} (h : Xf S S') (g : Xf S' S2) : Xf S S2 := fun k a => (g k a).trans (h k a)
theorem Xf.of1 {S S' : St} (e : S'.1 = S.1) : Xf S S' := fun k _ => by rw [e]
theorem Kf.xf {S S' : St} (h : Kf S S') : Xf S S' := fun k c => h.2 k c
theorem si_more' (f : Nat → Int) {a : Nat} : ∀ b, a ≤ b → (∀ k, a ≤ k → k < b → f k = 0) → fb_si f b = fb_si f a
  | 0, hb, _ => by rw [show a = 0 by omega]
  | b + 1, hb, h => by
    by_cases e : a = b + 1
    · rw [e]
    · rw [fb_si_succ, si_more' f b (by omega) (fun k h1 h2 => h k h1 (by omega)), h b (by omega) (by omega), Int.add_zero]
theorem byUse_loop {S : St} {d : Dw} (hd : Okd d) (hW : XW S d) {u T : Nat} (hu : u < 8) {p3 : Int32} (h15 : ∀ c, c < 6 → S.2 15 c = zL (numX d T c)) {K : Int64 → Int32 → St → Prop} (h : K (zL (fb_si (fun w => (dus d w u : Int) * numX d T w) 6)) 6 S) : ∃ f, wL_X2_partByUse_24 p3 (nI u) K f 0 0 S := by
  refine lp_up (X := fun f i => wL_X2_partByUse_24 p3 (nI u) K f (zL (fb_si (fun w => (dus d w u : Int) * numX d T w) i)) (nI i) S) (Nat.zero_le 6) (fun f => ⟨fun _ => h, fun q => absurd (by decide) q⟩) (fun f i _ hi hrec => ?_)
  refine ⟨fun q => absurd q (nI_ge (a := i) (b := 6) hi (by decide)), fun _ => ⟨vp_in_nI hi (by decide), vp_in_nI hu (by decide), vp_in_nI hi (by decide), fun x4 e4 => ?_⟩⟩
  have h9 := hd.2.2.2.1 i u
  rw [nI_clamp (by omega), nI_clamp (by omega), hW.2.2.2.1 i u hi hu, h15 i hi, zL_nI (by omega), zL_mul, zL_add] at e4
  rw [e4, nI_1]
  exact hrec
theorem sp_partByUse {S : St} {d : Dw} (hI : XI S d) {T : Nat} (hT : T < 256) (h3 : S.2 3 1 = zL (denX d T)) (h15 : ∀ c, c < 6 → S.2 15 c = zL (numX d T c)) {post : St → Prop} (h : ∀ S', S'.1 = S.1 → S'.2 4 1 = zL (DR d T 0) → (∀ u, u < 8 → S'.2 19 u = zL (bnR d T 0 u)) → post S') : wp_X2_partByUse S (nI T) post := by
  intro S1 e1
  have hd := hI.1
  have key : ∀ n i (S2 : St), i + n = 8 → S2.1 = S.1 → (∀ k, k ≠ 19 → S2.2 k = S1.2 k) → (∀ u, u < i → S2.2 19 u = zL (bnR d T 0 u)) → wL_X2_partByUse_11 (nI T) (fun (_ : Int32) (S2 : St) => post S2) (n + 1) (nI i) S2 := by
    intro n
    induction n with
    | zero =>
      intro i S2 hi g1 g2 g3
      have e : i = 8 := by omega
      subst e
      refine ⟨fun _ => h S2 g1 ?_ g3, fun q => absurd (by decide) q⟩
      rw [g2 4 (by decide), e1, uJ_at, h3]
      rfl
    | succ n ih =>
      intro i S2 hi g1 g2 g3
      have hi8 : i < 8 := by omega
      refine ⟨fun q => absurd q (nI_ge (a := i) (b := 8) hi8 (by decide)), fun _ => ?_⟩
      have h15' : ∀ c, c < 6 → S2.2 15 c = zL (numX d T c) := fun c hc => by
        rw [g2 15 (by decide), e1, uJ_row (by decide)]; exact h15 c hc
      have next : ∀ (v : Int64) (S3 : St), S3 = uJ S2 19 i v → v = zL (bnR d T 0 i) → wL_X2_partByUse_11 (nI T) (fun (_ : Int32) (S2 : St) => post S2) (n + 1) (nI i + 1) S3 := by
        intro v S3 e3 ev
        rw [nI_1]
        refine ih (i + 1) S3 (by omega) (by rw [e3]; exact g1) (fun k hk => by rw [e3, uJ_row hk]; exact g2 k hk) (fun u hu => ?_)
        rw [e3]
        by_cases e : u = i
        · subst e; rw [uJ_at, ev]
        · rw [uJ_ne (fun z => e z.2)]; exact g3 u (by omega)
      refine byUse_loop hd (hI.2.1.eq g1) hi8 h15' (sp_isIn (by omega) (by omega) (br_b (fun hb => ⟨vp_in_nI hi8 (by decide), fun S7 e7 => next _ S7 (by rw [nI_clamp (by omega)] at e7; exact e7) ?_⟩) (fun hb => ⟨vp_in_nI hi8 (by decide), fun S9 e9 => next _ S9 (by rw [nI_clamp (by omega)] at e9; exact e9) ?_⟩)))
      · rw [bnR_out hb]; rfl
      · unfold bnR bn0
        rw [if_pos rfl, if_pos hb]
  exact ⟨9, key 8 0 S1 rfl (by rw [e1]; rfl) (fun _ _ => rfl) (fun u hu => absurd hu (Nat.not_lt_zero u))⟩
theorem sm_nn (f : Nat → Nat) (n : Nat) : fb_sm f (n + 1) = fb_sm f n + f n := rfl
theorem sp_partByAlone {S : St} {d : Dw} (hI : XI S d) {T : Nat} (hT : T < 256) {post : St → Prop} (h : ∀ S', Xf S S' → XI S' d → S'.2 4 1 = zL (DR d T 1) → (∀ u, u < 8 → S'.2 19 u = zL (bnR d T 1 u)) → post S') : wp_X2_partByAlone S (nI T) post := by
  have hd := hI.1
  have hct := cst_le hd T
  refine sp_costOf hI hT (fun S1 hf1 hI1 => fun x3 e3 => ?_)
  rw [zL_nI (by omega)] at e3
  subst e3
  have hb1 : ∀ u, bnR d T 1 u = (cst d T : Int) * (al d T u : Int) := fun u => by unfold bnR bn1; simp
  have key : ∀ n i (S2 : St), i + n = 8 → Xf S S2 → XI S2 d → (∀ u, u < i → S2.2 19 u = zL (bnR d T 1 u)) → wL_X2_partByAlone_13 (nI T) (zL (cst d T)) (fun (z5 : Int64) (_ : Int32) (S4 : St) => (¬ z5 = (0 : Int64) → ∀ S7 : St, S7 = uJ S4 4 1 z5 → post S7) ∧ (z5 = (0 : Int64) → ∀ S8 : St, S8 = uJ S4 4 1 (1 : Int64) → post S8)) (n + 1) (zL (fb_sm (al d T) i : Nat)) (nI i) S2 := by
    intro n
    induction n with
    | zero =>
      intro i S2 hi g1 g2 g3
      have e : i = 8 := by omega
      subst e
      have hsal := sal_le hd T
      have fin : ∀ v (S7 : St), S7 = uJ S2 4 1 v → v = zL (DR d T 1) → post S7 := fun v S7 e7 ev => by
        refine h S7 (g1.trans (Xf.of1 (by rw [e7]; rfl))) (g2.eq (by rw [e7]; rfl)) (by rw [e7, uJ_at, ev]) (fun u hu => ?_)
        rw [e7, uJ_row (by decide)]
        exact g3 u hu
      have ez : (zL (fb_sm (al d T) 8 : Nat) = 0) ↔ sal d T = 0 := by
        constructor
        · intro q
          have := congrArg Int64.toInt q
          unfold zL at this
          rw [Int64.toInt_ofInt_of_le (by omega) (by unfold sal at hsal; omega)] at this
          unfold sal
          have e0 : (0 : Int64).toInt = 0 := by decide
          omega
        · intro q
          unfold sal at q
          rw [q]; rfl
      refine ⟨fun _ => ⟨fun hne S7 e7 => fin _ S7 e7 ?_, fun he S8 e8 => fin _ S8 e8 ?_⟩, fun q => absurd (by decide) q⟩
      · unfold DR D1
        rw [if_neg (by decide), if_pos rfl, if_neg (fun z => hne (ez.mpr z))]
        rfl
      · unfold DR D1
        rw [if_neg (by decide), if_pos rfl, if_pos (ez.mp he)]
        rfl
    | succ n ih =>
      intro i S2 hi g1 g2 g3
      have hi8 : i < 8 := by omega
      refine ⟨fun q => absurd q (nI_ge (a := i) (b := 8) hi8 (by decide)), fun _ => ?_⟩
      have next : ∀ (v x : Int64) (S3 S4 : St), S4 = uJ S3 19 i v → Xf S S3 → XI S3 d → S3.2 = S2.2 → v = zL (cst d T) * zL (al d T i) → x = zL (fb_sm (al d T) i : Nat) + zL (al d T i) → wL_X2_partByAlone_13 (nI T) (zL (cst d T)) (fun (z5 : Int64) (_ : Int32) (S4 : St) => (¬ z5 = (0 : Int64) → ∀ S7 : St, S7 = uJ S4 4 1 z5 → post S7) ∧ (z5 = (0 : Int64) → ∀ S8 : St, S8 = uJ S4 4 1 (1 : Int64) → post S8)) (n + 1) x (nI i + 1) S4 := by
        intro v x S3 S4 e4 f3 i3 j3 ev ex
        rw [zL_add, ← Int.natCast_add] at ex
        rw [ex, nI_1]
        refine ih (i + 1) S4 (by omega) (f3.trans (Xf.of1 (by rw [e4]; rfl))) (i3.eq (by rw [e4]; rfl)) (fun u hu => ?_)
        rw [e4]
        by_cases e : u = i
        · subst e; rw [uJ_at, ev, zL_mul, hb1]
        · rw [uJ_ne (fun z => e z.2), j3]; exact g3 u (by omega)
      refine sp_isIn (by omega) (by omega) (br_b (fun hb => fun x3 e3 => ⟨vp_in_nI hi8 (by decide), fun S5 e5 => ?_⟩) (fun hb => ?_))
      · rw [nI_clamp (by omega)] at e5
        have hal : al d T i = 0 := by unfold al; rw [hb]; rfl
        exact next _ _ S2 S5 e5 g1 g2 rfl (by rw [hal]; rfl) (by rw [e3, hal]; rfl)
      · have hal : al d T i = cst d (2 ^ i) := by unfold al; rw [hb]; rfl
        have hc2 := cst_le hd (2 ^ i)
        rw [nI_pow (by omega)]
        refine sp_costOf g2 (Nat.pow_lt_pow_right (n := 8) (by decide) hi8) (fun S6 hf6 hI6 => fun x8 e8 x9 e9 => ⟨vp_in_nI hi8 (by decide), fun S11 e11 => ?_⟩)
        rw [nI_clamp (by omega)] at e11
        rw [zL_nI (by omega), ← hal] at e8
        exact next _ _ S6 S11 e11 (g1.trans hf6.xf) hI6 hf6.1 (by rw [e8]) (by rw [e9, e8])
  exact ⟨9, key 8 0 S1 rfl hf1.xf hI1 (fun u hu => absurd hu (Nat.not_lt_zero u))⟩
theorem sp_fact {S : St} {k : Nat} (hk : k < 9) {post : Int64 → St → Prop} (h : post (zL (fct k)) S) : wp_X2_factorial S (nI k) post := by
  refine ⟨fun q => absurd q (nI_pos (by omega)), fun _ => ⟨fun q => absurd q (nI_ge (a := k) (b := 9) hk (by decide)), fun _ => ⟨vp_in_nI hk (by decide), ?_⟩⟩⟩
  rw [nI_clamp (by omega), (fct_8 k hk).2.2]
  exact h
def wt (d : Dw) (T u s : Nat) : Int := wtm (fun s => (cst d s : Int)) T 0 u s
theorem inb_0 (s : Nat) : inb 0 s = true := (inb_iff (by decide)).mpr (sub_0 s)
theorem sub_le {s T : Nat} (h : inb s T = true) (hs : s < 256) : s ≤ T := by
  have h1 := (inb_iff (by omega)).mp h
  have e : s &&& T = s := eq_bits fun i => by
    rw [Nat.testBit_and]
    cases hb : s.testBit i with
    | true => rw [h1 i hb]; rfl
    | false => rfl
  rw [← e]
  exact Nat.and_le_right
theorem bn2_w {d : Dw} {T u : Nat} (hT : T < 256) (hu : u < 8) : fb_si (wt d T u) T = bn2 d T u := by
  unfold bn2
  rw [ecn_w hT hu (pc T) 0 (by decide) (sub_0 T) (by rw [pc_0]; omega)]
  refine (si_more' _ 256 (by omega) (fun s h1 h2 => ?_)).symm
  unfold wt wtm
  rw [if_neg]
  intro q
  simp only [Bool.and_eq_true, Bool.not_eq_true'] at q
  have := sub_le q.1.1 h2
  have e : s = T := by omega
  rw [e, q.2.1] at q
  cases q.2.2
theorem ord_loop {S : St} {d : Dw} (hI : XI S d) {T s : Nat} (hT : T < 256) (hs : s < T) (hin : inb s T = true) {p3 : Int32} {K : Int32 → St → Prop} (h : ∀ S', Xf S S' → XI S' d → (∀ k, k ≠ 19 → S'.2 k = S.2 k) → (∀ u, u < 8 → S'.2 19 u = S.2 19 u + zL (wt d T u s)) → K 8 S') : ∃ f, wL_X2_partByOrders_69 (nI T) p3 (nI s) (zL (fct (pc s) * fct (pc T - pc s - 1) : Nat)) K f 0 S := by
  have hd := hI.1
  have key : ∀ n i (S2 : St), i + n = 8 → Xf S S2 → XI S2 d → (∀ k, k ≠ 19 → S2.2 k = S.2 k) → (∀ u, u < i → S2.2 19 u = S.2 19 u + zL (wt d T u s)) → (∀ u, i ≤ u → S2.2 19 u = S.2 19 u) → wL_X2_partByOrders_69 (nI T) p3 (nI s) (zL (fct (pc s) * fct (pc T - pc s - 1) : Nat)) K (n + 1) (nI i) S2 := by
    intro n
    induction n with
    | zero =>
      intro i S2 hi g1 g2 g3 g4 g5
      have e : i = 8 := by omega
      subst e
      exact ⟨fun _ => h S2 g1 g2 g3 g4, fun q => absurd (by decide) q⟩
    | succ n ih =>
      intro i S2 hi g1 g2 g3 g4 g5
      have hi8 : i < 8 := by omega
      refine ⟨fun q => absurd q (nI_ge (a := i) (b := 8) hi8 (by decide)), fun _ => ?_⟩
      rw [nI_ldf]
      have hbit := ldf_bit (b := s) (show T < 2 ^ 32 by omega) i
      refine sp_isIn (Nat.lt_of_le_of_lt (ldf_le _ _) (by omega)) (by omega) (br_b (fun hb => ?_) (fun hb => ?_))
      · rw [nI_1]
        have hw : wt d T i s = 0 := by
          unfold wt wtm
          rw [if_neg]
          intro q
          rw [hb] at hbit
          simp only [Bool.and_eq_true, Bool.not_eq_true'] at q
          rw [q.2.1, q.2.2] at hbit
          cases hbit
        refine ih (i + 1) S2 (by omega) g1 g2 g3 (fun u hu => ?_) (fun u hu => g5 u (by omega))
        by_cases e : u = i
        · subst e
          rw [g5 u (Nat.le_refl _), hw, show zL 0 = 0 from rfl, Int64.add_zero]
        · exact g4 u (by omega)
      · rw [hb] at hbit
        have hbit2 : (T.testBit i && !s.testBit i) = true := hbit.symm
        rw [nI_or_pow (by omega)]
        have h2 : s ||| 2 ^ i < 256 := or_lt (n := 8) (by omega) (Nat.pow_lt_pow_right (by decide) hi8)
        refine sp_costOf g2 h2 (fun S3 f3 i3 => sp_costOf i3 (by omega) (fun S5 f5 i5 => fun x7 e7 => ⟨vp_in_nI hi8 (by decide), vp_in_nI hi8 (by decide), fun S10 e10 => ?_⟩))
        have hm := cst_mono hd (sub_or_l s (2 ^ i))
        have hc := cst_le hd (s ||| 2 ^ i)
        have ed : nI (cst d (s ||| 2 ^ i)) - nI (cst d s) = nI (cst d (s ||| 2 ^ i) - cst d s) := by rw [pk_sub hm]
        rw [ed] at e7
        have hw : wt d T i s = (fct (pc s) * fct (pc T - pc s - 1) : Nat) * ((cst d (s ||| 2 ^ i) - cst d s : Nat) : Int) := by
          unfold wt wtm
          rw [hin, inb_0, hbit2, pc_0, Nat.sub_zero, Int.natCast_sub hm]
          rfl
        rw [nI_clamp (by omega), e7, zL_nI (by omega), zL_mul, ← hw] at e10
        have e52 : S5.2 = S2.2 := f5.1.trans f3.1
        rw [e52, g5 i (Nat.le_refl _)] at e10
        rw [nI_1]
        refine ih (i + 1) S10 (by omega) ((g1.trans (f3.trans f5).xf).trans (Xf.of1 (by rw [e10]; rfl))) (i5.eq (by rw [e10]; rfl)) (fun k hk => ?_) (fun u hu => ?_) (fun u hu => ?_)
        · rw [e10, uJ_row hk, e52]; exact g3 k hk
        · rw [e10]
          by_cases e : u = i
          · subst e; rw [uJ_at]
          · rw [uJ_ne (fun z => e z.2), e52]; exact g4 u (by omega)
        · rw [e10, uJ_ne (fun z => by have := z.2; omega), e52]; exact g5 u (by omega)
  exact ⟨9, key 8 0 S rfl (Xf.refl S) hI (fun _ _ => rfl) (fun u hu => absurd hu (Nat.not_lt_zero u)) (fun _ _ => rfl)⟩
theorem sp_partByOrders {S : St} {d : Dw} (hI : XI S d) {T : Nat} (hT : T < 256) {post : St → Prop} (h : ∀ S', Xf S S' → XI S' d → S'.2 4 1 = zL (DR d T 2) → (∀ u, u < 8 → S'.2 19 u = zL (bnR d T 2 u)) → post S') : wp_X2_partByOrders S (nI T) post := by
  have hd := hI.1
  have hp8 := pc_le8 T
  refine sp_bitCount hT (sp_fact (by omega) (fun S5 e5 => sp_fillJ (by decide) ?_))
  have key : ∀ n s (S2 : St), s + n = T → Xf S S2 → XI S2 d → S2.2 4 1 = zL (DR d T 2) → (∀ u, u < 8 → S2.2 19 u = zL (fb_si (wt d T u) s)) → wL_X2_partByOrders_24 (nI T) (nI (pc T)) (fun (_ : Int32) (S8 : St) => post S8) (n + 1) (nI s) S2 := by
    intro n
    induction n with
    | zero =>
      intro s S2 hs g1 g2 g3 g4
      have e : s = T := by omega
      subst e
      refine ⟨fun _ => h S2 g1 g2 g3 (fun u hu => ?_), fun q => absurd (nI_le (Nat.le_refl _) (by omega)) q⟩
      rw [g4 u hu, bn2_w hT hu]
      rfl
    | succ n ih =>
      intro s S2 hs g1 g2 g3 g4
      have hsT : s < T := by omega
      refine ⟨fun q => absurd q (nI_ge hsT (by omega)), fun _ => ?_⟩
      rw [nI_ldf, is0 (Nat.lt_of_le_of_lt (ldf_le _ _) (by omega))]
      refine ⟨fun hz => ?_, fun hz => ?_⟩
      · have hin : inb s T = true := by unfold inb; rw [hz]; rfl
        have hsub := (inb_iff (by omega)).mp hin
        have hlt : pc s < pc T := by
          rcases Nat.lt_or_ge (pc s) (pc T) with q | q
          · exact q
          · have := pc_eq hT hsub q; omega
        refine sp_bitCount (by omega) (sp_fact (by omega) ?_)
        have e2 : (nI (pc T) - nI (pc s)) - 1 = nI (pc T - pc s - 1) := by
          rw [pk_sub (by omega), show (1 : Int32) = nI 1 from rfl, pk_sub (by omega)]
        rw [e2]
        refine sp_fact (by omega) (fun x7 e7 => ?_)
        rw [zL_mul, ← Int.natCast_mul] at e7
        subst e7
        refine ord_loop g2 hT hsT hin (fun S8 c1 c2 c3 c4 => ?_)
        rw [nI_1]
        refine ih (s + 1) S8 (by omega) (g1.trans c1) c2 (by rw [c3 4 (by decide)]; exact g3) (fun u hu => ?_)
        rw [c4 u hu, g4 u hu, zL_add]
        rfl
      · rw [nI_1]
        refine ih (s + 1) S2 (by omega) g1 g2 g3 (fun u hu => ?_)
        rw [g4 u hu, fb_si_succ]
        have hw : wt d T u s = 0 := by
          unfold wt wtm
          rw [if_neg]
          intro q
          simp only [Bool.and_eq_true] at q
          have := q.1.1
          unfold inb at this
          rw [beq_iff_eq] at this
          exact hz this
        rw [hw, Int.add_zero]
  refine ⟨T + 1, key T 0 _ (by omega) (Xf.of1 (by rw [e5]; rfl)) (hI.eq (by rw [e5]; rfl)) ?_ (fun u hu => ?_)⟩
  · show (if 4 = 19 ∧ 1 < 8 then (0 : Int64) else S5.2 4 1) = _
    rw [if_neg (by omega), e5, uJ_at]
    rfl
  · show (if 19 = 19 ∧ u < 8 then (0 : Int64) else S5.2 19 u) = _
    rw [if_pos ⟨rfl, hu⟩]
    rfl
/-- the class's parting, by any rule -/
theorem sp_shareOut {S : St} {d : Dw} (hI : XI S d) {T r : Nat} (hT : T < 256) (h21 : S.1 2 1 = nI T) (hr : r < 3) {post : St → Prop} (h : ∀ S', Xf S S' → XI S' d → S'.2 4 1 = zL (DR d T r) → (∀ u, u < 8 → S'.2 19 u = zL (bnR d T r u)) → post S') : wp_X5_shareOut S (nI r) post := by
  unfold wp_X5_shareOut
  rw [h21]
  refine ⟨fun h0 => ⟨fun h1 => ?_, fun h1 => ?_⟩, fun h0 => ?_⟩
  · have e : r = 2 := by
      have a : r ≠ 0 := fun z => h0 (by rw [z]; rfl)
      have b : r ≠ 1 := fun z => h1 (by rw [z]; rfl)
      omega
    subst e
    exact sp_partByOrders hI hT h
  · have e : r = 1 := (nI_eq (a := r) (b := 1) (by omega) (by decide)).mp h1
    subst e
    exact sp_partByAlone hI hT h
  · have e : r = 0 := (nI_eq (a := r) (b := 0) (by omega) (by decide)).mp h0
    subst e
    refine sp_solve hI hT (fun S5 f5 g3 g15 => ?_)
    rw [show S5.1 2 1 = nI T by rw [f5.1]; exact h21]
    exact sp_partByUse (hI.eq f5.1) hT g3 g15 (fun S7 e7 a b => h S7 (Xf.of1 (e7.trans f5.1)) (hI.eq (e7.trans f5.1)) a b)
