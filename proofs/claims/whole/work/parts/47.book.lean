/-! ===== pure: booking ===== -/
def dff (c b : Nat → Int32) (u : Nat) : Bool := decide (¬ c u = b u)
def lnA (A : Nat → Int32) (n : Nat) (p : Nat → Bool) (val : Nat → Int32) : Nat → Nat → Int32
  | 0 => A
  | i + 1 => fun j => if p i ∧ j = n + fb_ct p i then val i else lnA A n p val i j
theorem lnA_no {A : Nat → Int32} {n : Nat} {p : Nat → Bool} {val : Nat → Int32} {i : Nat} (h : p i = false) (j : Nat) : lnA A n p val (i + 1) j = lnA A n p val i j := if_neg (fun q => by rw [h] at q; cases q.1)
theorem lnA_yes {A : Nat → Int32} {n : Nat} {p : Nat → Bool} {val : Nat → Int32} {i : Nat} (h : p i = true) (j : Nat) : lnA A n p val (i + 1) j = if j = n + fb_ct p i then val i else lnA A n p val i j := by
  show (if p i ∧ j = n + fb_ct p i then val i else lnA A n p val i j) = _
  by_cases e : j = n + fb_ct p i
  · rw [if_pos ⟨h, e⟩, if_pos e]
  · rw [if_neg (fun q => e q.2), if_neg e]
theorem lnA_ext {A : Nat → Int32} {n : Nat} {p : Nat → Bool} {val : Nat → Int32} {a : Nat} (j : Nat) : ∀ b, a ≤ b → (∀ k, a ≤ k → k < b → p k = false) → lnA A n p val b j = lnA A n p val a j
  | 0, hb, _ => by rw [show a = 0 by omega]
  | b + 1, hb, h => by
    by_cases e : a = b + 1
    · rw [e]
    · rw [lnA_no (h b (by omega) (by omega)), lnA_ext j b (by omega) (fun k h1 h2 => h k h1 (by omega))]
theorem ct_ext {p : Nat → Bool} {a : Nat} : ∀ b, a ≤ b → (∀ k, a ≤ k → k < b → p k = false) → fb_ct p b = fb_ct p a
  | 0, hb, _ => by rw [show a = 0 by omega]
  | b + 1, hb, h => by
    by_cases e : a = b + 1
    · rw [e]
    · rw [fb_ct_succ, ct_ext b (by omega) (fun k h1 h2 => h k h1 (by omega)), h b (by omega) (by omega)]; rfl
theorem lnA_congr {A B : Nat → Int32} {n : Nat} {p : Nat → Bool} {v w : Nat → Int32} (hA : ∀ j, A j = B j) : ∀ i, (∀ k, k < i → v k = w k) → ∀ j, lnA A n p v i j = lnA B n p w i j
  | 0, _, j => hA j
  | i + 1, h, j => by
    show (if p i ∧ j = n + fb_ct p i then v i else lnA A n p v i j) = (if p i ∧ j = n + fb_ct p i then w i else lnA B n p w i j)
    rw [h i (by omega), lnA_congr hA i (fun k hk => h k (by omega)) j]
theorem sp_diffs {S : St} {c b : Nat → Int32} (h6 : ∀ u, u < 8 → S.1 6 u = c u) (h21 : ∀ u, u < 8 → S.1 21 u = b u) {post : Int32 → St → Prop} (h : post (nI (fb_ct (dff c b) 8)) S) : wp_X0_differencesTo S 6 8 post := by
  refine lp_up (X := fun f i => wL_X0_differencesTo_4 6 8 (fun (z2 : Int32) (_ : Int32) (S1 : St) => post z2 S1) f (nI (fb_ct (dff c b) i)) (nI i) S) (Nat.zero_le 8) (fun f => ⟨fun _ => h, fun q => absurd (by decide) q⟩) (fun f i _ hi hrec => ⟨fun q => absurd q (nI_ge (a := i) (b := 8) hi (by decide)), fun _ => ⟨vp_in_nI hi (by decide), vp_in_nI hi (by decide), ?_⟩⟩)
  rw [nI_clamp (by omega), h6 i hi, h21 i hi, nI_1]
  rw [fb_ct_succ] at hrec
  refine ⟨fun q => ?_, fun q => ?_⟩
  · rw [show dff c b i = false from decide_eq_false (fun z => z q)] at hrec
    exact hrec
  · rw [show dff c b i = true from decide_eq_true q] at hrec
    rw [nI_1]
    exact hrec
theorem sp_enter {S : St} {c b : Nat → Int32} {n : Nat} (h6 : ∀ u, u < 8 → S.1 6 u = c u) (h21 : ∀ u, u < 8 → S.1 21 u = b u) (h51 : S.1 5 1 = nI n) (hle : n + fb_ct (dff c b) 8 ≤ 400) {post : St → Prop} (h : ∀ S', (∀ k, k ≠ 5 → k ≠ 21 → k ≠ 22 → k ≠ 23 → k ≠ 24 → S'.1 k = S.1 k) → S'.1 5 0 = S.1 5 0 + 1 → S'.1 5 1 = nI (n + fb_ct (dff c b) 8) → (∀ u, u < 8 → S'.1 21 u = c u) → (∀ j, S'.1 22 j = lnA (S.1 22) n (dff c b) (fun _ => S.1 5 0) 8 j ∧ S'.1 23 j = lnA (S.1 23) n (dff c b) nI 8 j ∧ S'.1 24 j = lnA (S.1 24) n (dff c b) (fun u => c u - b u) 8 j) → post S') : wp_X0_enter S 6 8 post := by
  have key : ∀ x i (S2 : St), i + x = 8 → (∀ k, k ≠ 5 → k ≠ 21 → k ≠ 22 → k ≠ 23 → k ≠ 24 → S2.1 k = S.1 k) → S2.1 5 0 = S.1 5 0 → S2.1 5 1 = nI (n + fb_ct (dff c b) i) → (∀ u, u < i → S2.1 21 u = c u) → (∀ u, i ≤ u → u < 8 → S2.1 21 u = b u) → (∀ j, S2.1 22 j = lnA (S.1 22) n (dff c b) (fun _ => S.1 5 0) i j ∧ S2.1 23 j = lnA (S.1 23) n (dff c b) nI i j ∧ S2.1 24 j = lnA (S.1 24) n (dff c b) (fun u => c u - b u) i j) → wL_X0_enter_2 6 8 (fun (_ : Int32) (S1 : St) => ∀ S3 : St, S3 = uI S1 5 0 ((S1.1 5 0) + (1 : Int32)) → post S3) (x + 1) (nI i) S2 := by
    intro x
    induction x with
    | zero =>
      intro i S2 hi g0 g1 g2 g3 g4 g5
      have e : i = 8 := by omega
      subst e
      refine ⟨fun _ S3 e3 => h S3 (fun k a1 a2 a3 a4 a5 => by rw [e3, uI_row a1]; exact g0 k a1 a2 a3 a4 a5) (by rw [e3, uI_at, g1]) (by rw [e3, uI_ne (by decide)]; exact g2) (fun u hu => by rw [e3, uI_row (by decide)]; exact g3 u hu) (fun j => by rw [e3, uI_row (by decide), uI_row (by decide), uI_row (by decide)]; exact g5 j), fun q => absurd (by decide) q⟩
    | succ x ih =>
      intro i S2 hi g0 g1 g2 g3 g4 g5
      have hi8 : i < 8 := by omega
      have hc6 : S2.1 6 i = c i := by rw [g0 6 (by decide) (by decide) (by decide) (by decide) (by decide)]; exact h6 i hi8
      have hct := fb_ct_mono (dff c b) (show i + 1 ≤ 8 by omega)
      rw [fb_ct_succ] at hct
      refine ⟨fun q => absurd q (nI_ge (a := i) (b := 8) hi8 (by decide)), fun _ => ⟨vp_in_nI hi8 (by decide), vp_in_nI hi8 (by decide), ?_⟩⟩
      rw [nI_clamp (by omega), hc6, g4 i (Nat.le_refl _) hi8]
      refine ⟨fun q => ?_, fun q => ?_⟩
      · have hp : dff c b i = false := decide_eq_false (fun z => z q)
        rw [nI_1]
        refine ih (i + 1) S2 (by omega) g0 g1 (by rw [fb_ct_succ, hp]; exact g2) (fun u hu => ?_) (fun u a1 a2 => g4 u (by omega) a2) (fun j => by rw [lnA_no hp, lnA_no hp, lnA_no hp]; exact g5 j)
        by_cases e : u = i
        · subst e; rw [g4 u (Nat.le_refl _) hi8, q]
        · exact g3 u (by omega)
      · have hp : dff c b i = true := decide_eq_true q
        rw [hp, if_pos rfl] at hct
        rw [g2]
        refine ⟨fun z => absurd z (nI_ge (a := n + fb_ct (dff c b) i) (b := 400) (by omega) (by decide)), fun _ => ⟨vp_in_nI (by omega) (by decide), fun S4 e4 => ?_⟩⟩
        rw [nI_clamp (by omega), g1] at e4
        have f51 : S4.1 5 1 = nI (n + fb_ct (dff c b) i) := by rw [e4, uI_row (by decide)]; exact g2
        rw [f51]
        refine ⟨vp_in_nI (by omega) (by decide), fun S6 e6 => ?_⟩
        rw [nI_clamp (by omega)] at e6
        have f61 : S6.1 5 1 = nI (n + fb_ct (dff c b) i) := by rw [e6, uI_row (by decide)]; exact f51
        rw [f61]
        refine ⟨vp_in_nI hi8 (by decide), vp_in_nI hi8 (by decide), vp_in_nI (by omega) (by decide), fun S10 e10 => ⟨vp_in_nI hi8 (by decide), vp_in_nI hi8 (by decide), fun S13 e13 S14 e14 => ?_⟩⟩
        rw [nI_clamp (by omega), show S6.1 6 i = c i by rw [e6, uI_row (by decide), e4, uI_row (by decide)]; exact hc6, show S6.1 21 i = b i by rw [e6, uI_row (by decide), e4, uI_row (by decide)]; exact g4 i (Nat.le_refl _) hi8] at e10
        rw [show S10.1 6 i = c i by rw [e10, uI_row (by decide), e6, uI_row (by decide), e4, uI_row (by decide)]; exact hc6] at e13
        rw [show S13.1 5 1 = nI (n + fb_ct (dff c b) i) by rw [e13, uI_row (by decide), e10, uI_row (by decide)]; exact f61, nI_1] at e14
        rw [nI_1]
        refine ih (i + 1) S14 (by omega) (fun k a1 a2 a3 a4 a5 => ?_) ?_ ?_ (fun u hu => ?_) (fun u a1 a2 => ?_) (fun j => ⟨?_, ?_, ?_⟩)
        · rw [e14, uI_row a1, e13, uI_row a2, e10, uI_row a5, e6, uI_row a4, e4, uI_row a3]; exact g0 k a1 a2 a3 a4 a5
        · rw [e14, uI_ne (by decide), e13, uI_row (by decide), e10, uI_row (by decide), e6, uI_row (by decide), e4, uI_row (by decide)]; exact g1
        · rw [e14, uI_at, fb_ct_succ, hp]; rfl
        · rw [e14, uI_row (by decide), e13]
          by_cases e : u = i
          · subst e; rw [uI_at]
          · rw [uI_ne (fun z => e z.2), e10, uI_row (by decide), e6, uI_row (by decide), e4, uI_row (by decide)]; exact g3 u (by omega)
        · rw [e14, uI_row (by decide), e13, uI_ne (fun z => by have := z.2; omega), e10, uI_row (by decide), e6, uI_row (by decide), e4, uI_row (by decide)]; exact g4 u (by omega) a2
        · rw [e14, uI_row (by decide), e13, uI_row (by decide), e10, uI_row (by decide), e6, uI_row (by decide), e4, lnA_yes hp]
          by_cases e : j = n + fb_ct (dff c b) i
          · rw [e, uI_at, if_pos rfl]
          · rw [uI_ne (fun z => e z.2), if_neg e]; exact (g5 j).1
        · rw [e14, uI_row (by decide), e13, uI_row (by decide), e10, uI_row (by decide), e6, lnA_yes hp]
          by_cases e : j = n + fb_ct (dff c b) i
          · rw [e, uI_at, if_pos rfl]
          · rw [uI_ne (fun z => e z.2), if_neg e, e4, uI_row (by decide)]; exact (g5 j).2.1
        · rw [e14, uI_row (by decide), e13, uI_row (by decide), e10, lnA_yes hp]
          by_cases e : j = n + fb_ct (dff c b) i
          · rw [e, uI_at, if_pos rfl]
          · rw [uI_ne (fun z => e z.2), if_neg e, e6, uI_row (by decide), e4, uI_row (by decide)]; exact (g5 j).2.2
  exact ⟨9, key 8 0 S rfl (fun _ _ _ _ _ _ => rfl) rfl h51 (fun u hu => absurd hu (Nat.not_lt_zero u)) (fun u _ hu => h21 u hu) (fun _ => ⟨rfl, rfl, rfl⟩)⟩
theorem sp_diffM {S : St} {c b : Nat → Int32} {m : Nat} (hm : m ≤ 8) (h9 : S.1 25 9 = nI m) (h42 : ∀ u, u < m → S.1 42 u = c u) (h31 : ∀ u, u < m → S.1 31 u = b u) {K : Int32 → Int32 → St → Prop} (h : K (nI (fb_ct (dff c b) m)) (nI m) S) : ∃ f, wL_X6_book_23 K f 0 0 S := by
  refine lp_up (X := fun f i => wL_X6_book_23 K f (nI (fb_ct (dff c b) i)) (nI i) S) (Nat.zero_le m) (fun f => ⟨fun _ => h, fun q => ?_⟩) (fun f i _ hi hrec => ⟨fun q => ?_, fun _ => ⟨vp_in_nI (by omega) (by decide), vp_in_nI (by omega) (by decide), ?_⟩⟩)
  · rw [h9] at q
    exact absurd (nI_le (Nat.le_refl _) (by omega)) q
  · rw [h9] at q
    exact absurd q (nI_ge hi (by omega))
  · rw [nI_clamp (by omega), h42 i hi, h31 i hi, nI_1]
    rw [fb_ct_succ] at hrec
    refine ⟨fun q x3 e3 => ?_, fun q x4 e4 => ?_⟩
    · rw [show dff c b i = false from decide_eq_false (fun z => z q)] at hrec
      rw [Int32.add_zero] at e3
      rw [e3]
      exact hrec
    · rw [show dff c b i = true from decide_eq_true q] at hrec
      rw [nI_1] at e4
      rw [e4]
      exact hrec
theorem enterM {S : St} {c b : Nat → Int32} {m n : Nat} (hm : m ≤ 8) (h9 : S.1 25 9 = nI m) (h42 : ∀ u, u < m → S.1 42 u = c u) (h31 : ∀ u, u < m → S.1 31 u = b u) (h10 : S.1 25 10 = nI n) (hle : n + fb_ct (dff c b) m ≤ 400) {p2 : Int32} {K : Int32 → St → Prop} (h : ∀ S', (∀ k, k ≠ 25 → k ≠ 31 → k ≠ 33 → k ≠ 34 → k ≠ 35 → S'.1 k = S.1 k) → (∀ j, j ≠ 10 → S'.1 25 j = S.1 25 j) → S'.1 25 10 = nI (n + fb_ct (dff c b) m) → (∀ u, u < m → S'.1 31 u = c u) → (∀ u, m ≤ u → S'.1 31 u = S.1 31 u) → (∀ j, S'.1 33 j = lnA (S.1 33) n (dff c b) (fun _ => S.1 25 11) m j ∧ S'.1 34 j = lnA (S.1 34) n (dff c b) nI m j ∧ S'.1 35 j = lnA (S.1 35) n (dff c b) (fun u => c u - b u) m j) → K (nI m) S') : ∃ f, wL_X6_book_76 p2 K f 0 S := by
  have key : ∀ x i (S2 : St), i + x = m → (∀ k, k ≠ 25 → k ≠ 31 → k ≠ 33 → k ≠ 34 → k ≠ 35 → S2.1 k = S.1 k) → (∀ j, j ≠ 10 → S2.1 25 j = S.1 25 j) → S2.1 25 10 = nI (n + fb_ct (dff c b) i) → (∀ u, u < i → S2.1 31 u = c u) → (∀ u, i ≤ u → S2.1 31 u = S.1 31 u) → (∀ j, S2.1 33 j = lnA (S.1 33) n (dff c b) (fun _ => S.1 25 11) i j ∧ S2.1 34 j = lnA (S.1 34) n (dff c b) nI i j ∧ S2.1 35 j = lnA (S.1 35) n (dff c b) (fun u => c u - b u) i j) → wL_X6_book_76 p2 K (x + 1) (nI i) S2 := by
    intro x
    induction x with
    | zero =>
      intro i S2 hi g0 g1 g2 g3 g4 g5
      have e : i = m := by omega
      subst e
      refine ⟨fun _ => h S2 g0 g1 g2 g3 g4 g5, fun q => ?_⟩
      rw [g1 9 (by decide), h9] at q
      exact absurd (nI_le (Nat.le_refl _) (by omega)) q
    | succ x ih =>
      intro i S2 hi g0 g1 g2 g3 g4 g5
      have him : i < m := by omega
      have hi8 : i < 8 := by omega
      have hc6 : S2.1 42 i = c i := by rw [g0 42 (by decide) (by decide) (by decide) (by decide) (by decide)]; exact h42 i him
      have hb6 : S2.1 31 i = b i := by rw [g4 i (Nat.le_refl _)]; exact h31 i him
      have hct := fb_ct_mono (dff c b) (show i + 1 ≤ m by omega)
      rw [fb_ct_succ] at hct
      refine ⟨fun q => ?_, fun _ => ⟨vp_in_nI hi8 (by decide), vp_in_nI hi8 (by decide), ?_⟩⟩
      · rw [g1 9 (by decide), h9] at q
        exact absurd q (nI_ge him (by omega))
      rw [nI_clamp (by omega), hc6, hb6]
      refine ⟨fun q => ?_, fun q => ?_⟩
      · have hp : dff c b i = true := decide_eq_true q
        rw [hp, if_pos rfl] at hct
        rw [g2]
        refine ⟨vp_in_nI (by omega) (by decide), fun S4 e4 => ?_⟩
        rw [nI_clamp (by omega), g1 11 (by decide)] at e4
        have f51 : S4.1 25 10 = nI (n + fb_ct (dff c b) i) := by rw [e4, uI_row (by decide)]; exact g2
        rw [f51]
        refine ⟨vp_in_nI (by omega) (by decide), fun S6 e6 => ?_⟩
        rw [nI_clamp (by omega)] at e6
        have f61 : S6.1 25 10 = nI (n + fb_ct (dff c b) i) := by rw [e6, uI_row (by decide)]; exact f51
        rw [f61]
        refine ⟨vp_in_nI hi8 (by decide), vp_in_nI hi8 (by decide), vp_in_nI (by omega) (by decide), fun S10 e10 S11 e11 => ⟨vp_in_nI hi8 (by decide), vp_in_nI hi8 (by decide), fun S14 e14 => ?_⟩⟩
        rw [nI_clamp (by omega), show S6.1 42 i = c i by rw [e6, uI_row (by decide), e4, uI_row (by decide)]; exact hc6, show S6.1 31 i = b i by rw [e6, uI_row (by decide), e4, uI_row (by decide)]; exact hb6] at e10
        rw [show S10.1 25 10 = nI (n + fb_ct (dff c b) i) by rw [e10, uI_row (by decide)]; exact f61, nI_1] at e11
        rw [show S11.1 42 i = c i by rw [e11, uI_row (by decide), e10, uI_row (by decide), e6, uI_row (by decide), e4, uI_row (by decide)]; exact hc6] at e14
        rw [nI_1]
        refine ih (i + 1) S14 (by omega) (fun k a1 a2 a3 a4 a5 => ?_) (fun j a1 => ?_) ?_ (fun u hu => ?_) (fun u a1 => ?_) (fun j => ⟨?_, ?_, ?_⟩)
        · rw [e14, uI_row a2, e11, uI_row a1, e10, uI_row a5, e6, uI_row a4, e4, uI_row a3]; exact g0 k a1 a2 a3 a4 a5
        · rw [e14, uI_row (by decide), e11, uI_ne (fun z => a1 z.2), e10, uI_row (by decide), e6, uI_row (by decide), e4, uI_row (by decide)]; exact g1 j a1
        · rw [e14, uI_row (by decide), e11, uI_at, fb_ct_succ, hp]; rfl
        · rw [e14]
          by_cases e : u = i
          · subst e; rw [uI_at]
          · rw [uI_ne (fun z => e z.2), e11, uI_row (by decide), e10, uI_row (by decide), e6, uI_row (by decide), e4, uI_row (by decide)]; exact g3 u (by omega)
        · rw [e14, uI_ne (fun z => by have := z.2; omega), e11, uI_row (by decide), e10, uI_row (by decide), e6, uI_row (by decide), e4, uI_row (by decide)]; exact g4 u (by omega)
        · rw [e14, uI_row (by decide), e11, uI_row (by decide), e10, uI_row (by decide), e6, uI_row (by decide), e4, lnA_yes hp]
          by_cases e : j = n + fb_ct (dff c b) i
          · rw [e, uI_at, if_pos rfl]
          · rw [uI_ne (fun z => e z.2), if_neg e]; exact (g5 j).1
        · rw [e14, uI_row (by decide), e11, uI_row (by decide), e10, uI_row (by decide), e6, lnA_yes hp]
          by_cases e : j = n + fb_ct (dff c b) i
          · rw [e, uI_at, if_pos rfl]
          · rw [uI_ne (fun z => e z.2), if_neg e, e4, uI_row (by decide)]; exact (g5 j).2.1
        · rw [e14, uI_row (by decide), e11, uI_row (by decide), e10, lnA_yes hp]
          by_cases e : j = n + fb_ct (dff c b) i
          · rw [e, uI_at, if_pos rfl]
          · rw [uI_ne (fun z => e z.2), if_neg e, e6, uI_row (by decide), e4, uI_row (by decide)]; exact (g5 j).2.2
      · have hp : dff c b i = false := decide_eq_false (fun z => z q)
        rw [nI_1]
        refine ih (i + 1) S2 (by omega) g0 g1 (by rw [fb_ct_succ, hp]; exact g2) (fun u hu => ?_) (fun u a1 => g4 u (by omega)) (fun j => by rw [lnA_no hp, lnA_no hp, lnA_no hp]; exact g5 j)
        by_cases e : u = i
        · subst e; rw [hb6, q]
        · exact g3 u (by omega)
  exact ⟨m + 1, key m 0 S (by omega) (fun _ _ _ _ _ _ => rfl) (fun _ _ => rfl) h10 (fun u hu => absurd hu (Nat.not_lt_zero u)) (fun _ _ => rfl) (fun _ => ⟨rfl, rfl, rfl⟩)⟩
