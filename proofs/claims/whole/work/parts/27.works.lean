/-! ===== pure: what the class's works hold, and what its small methods answer ===== -/
def XW (S : St) (d : Dw) : Prop := S.1 1 0 = nI (dn d) ∧ (∀ w, w < 6 → S.1 8 w = nI (dfx d w)) ∧ (∀ w, w < 6 → S.1 9 w = nI (dst d w)) ∧ (∀ w u, w < 6 → u < 8 → S.1 (43 + w) u = nI (dus d w u)) ∧ ∀ w v, w < 6 → v < 6 → S.1 (49 + w) v = nI (dfd d w v)
def totU (d : Dw) (w g : Nat) : Nat → Nat := fb_sm (fun u => if g.testBit u then dus d w u else 0)
def totW (d : Dw) (w N : Nat) : Nat → Nat := fb_sm (fun v => if N.testBit v then dfd d w v else 0)
def tot (d : Dw) (w g N : Nat) : Nat := totU d w g 8 + totW d w N (dn d)
def wcost (d : Dw) (w t : Nat) : Nat := dfx d w + dst d w * ((t + 9) / 10)
def cstN (d : Dw) (g N : Nat) : Nat → Nat := fb_sm (fun w => if N.testBit w then wcost d w (tot d w g N) else 0)
def cst (d : Dw) (g : Nat) : Nat := cstN d g (need d g) (dn d)
theorem totU_le {d : Dw} (hd : Okd d) (w g n : Nat) : totU d w g n ≤ n * 9 := fb_sm_bound (fun u _ => by split; exact hd.2.2.2.1 w u; exact Nat.zero_le _)
theorem totW_le {d : Dw} (hd : Okd d) (w N n : Nat) : totW d w N n ≤ n * 9 := fb_sm_bound (fun u _ => by split; exact hd.2.2.2.2.1 w u; exact Nat.zero_le _)
theorem tot_le {d : Dw} (hd : Okd d) (w g N : Nat) : tot d w g N ≤ 126 := by
  have h1 := totU_le hd w g 8
  have h2 := totW_le hd w N (dn d)
  have h3 := hd.1
  unfold tot
  omega
theorem wcost_le {d : Dw} (hd : Okd d) (w : Nat) {t : Nat} (ht : t ≤ 126) : wcost d w t ≤ 11300 := by
  have h1 := hd.2.1 w
  have h2 := hd.2.2.1 w
  have h3 : (t + 9) / 10 ≤ 13 := by omega
  have h4 := Nat.mul_le_mul h2 h3
  unfold wcost
  omega
theorem cstN_le {d : Dw} (hd : Okd d) (g N n : Nat) : cstN d g N n ≤ n * 11300 := fb_sm_bound (fun w _ => by split; exact wcost_le hd w (tot_le hd w g N); exact Nat.zero_le _)
theorem cst_le {d : Dw} (hd : Okd d) (g : Nat) : cst d g ≤ 67800 := by
  have h1 := cstN_le hd g (need d g) (dn d)
  have h2 := hd.1
  unfold cst
  omega
theorem sp_has4 {S : St} {n : Nat} (hS : S.1 1 0 = nI n) (hn : n < 2 ^ 31) {a : Int32} {post : Int32 → St → Prop} (h0 : (∀ w, w < n → a ≠ nI w) → post 0 S) (h1 : ∀ w, w < n → a = nI w → post 1 S) : wp_X4_has S a post := by
  unfold wp_X4_has
  rw [hS]
  refine ⟨fun q => h0 (fun w hw e => ?_), fun q => ⟨fun q2 => h0 (fun w hw e => ?_), fun q2 => ?_⟩⟩
  · rw [e] at q; exact nI_pos (by omega) q
  · rw [e] at q2; exact nI_ge hw hn q2
  · rcases pk_ix a hn with z | z | ⟨j, hj, e⟩
    · exact absurd z q
    · exact absurd z q2
    · exact h1 j hj e
/-- usedBy of a work: the works that it uses -/
theorem ubk (d : Dw) (v : Nat) : ub d v = msk (fun w => decide (0 < dfd d w v)) (dn d) := rfl
theorem nI_or_pow {x i : Nat} (hi : i < 31) : nI x ||| ((1 : Int32) <<< (nI i &&& 31)) = nI (x ||| 2 ^ i) := by rw [nI_pow hi, fa_or]
theorem pos_ask {n : Nat} (h : n < 2 ^ 31) : nI n ≤ 0 ↔ n = 0 := by
  rw [show (0 : Int32) = nI 0 from rfl, nI_leI h (by decide)]
  omega
theorem usedBy_loop {S : St} {n k2 b2 n2 v : Nat} {M : Nat → Nat} (hS : S.1 1 0 = nI n) (hn : n ≤ 6) (hv : v < n2) (hn2 : n2 < 2 ^ 31) (hM : ∀ w, w < n → S.1 (b2 + w) v = nI (M w) ∧ M w ≤ 9) {post : Int32 → St → Prop} (h : post (nI (msk (fun w => decide (0 < M w)) n)) S) : wp_X4_usedBy S (nI v) k2 b2 n2 post := by
  refine lp_up (X := fun f i => wL_X4_usedBy_5 k2 b2 n2 (nI v) (fun z2 _ S1 => post z2 S1) f (nI (msk (fun w => decide (0 < M w)) i)) (nI i) S) (Nat.zero_le n) (fun f => ?_) (fun f i _ hi hrec => ?_)
  · refine ⟨fun _ => h, fun q => ?_⟩
    rw [hS] at q
    exact absurd (nI_le (Nat.le_refl n) (by omega)) q
  · refine ⟨fun q => ?_, fun _ => ⟨vp_in_nI (by omega) (by decide), vp_in_nI hv hn2, ?_⟩⟩
    · rw [hS] at q
      exact absurd q (nI_ge hi (by omega))
    · rw [nI_clamp (by omega), nI_clamp (by omega), (hM i hi).1, nI_1]
      have hb := (hM i hi).2
      refine ⟨fun q => ?_, fun q x3 e => ?_⟩
      · have h0 := (pos_ask (by omega)).mp q
        have e : msk (fun w => decide (0 < M w)) (i + 1) = msk (fun w => decide (0 < M w)) i := by
          show (if decide (0 < M i) then _ else _) = _
          rw [if_neg (by simp [h0])]
        rw [e] at hrec
        exact hrec
      · have h0 : 0 < M i := Nat.pos_of_ne_zero (fun z => q ((pos_ask (by omega)).mpr z))
        have e2 : msk (fun w => decide (0 < M w)) (i + 1) = msk (fun w => decide (0 < M w)) i ||| 2 ^ i := by
          show (if decide (0 < M i) then _ else _) = _
          rw [if_pos (by simp [h0])]
        rw [nI_or_pow (by omega), ← e2] at e
        rw [e]
        exact hrec
theorem sp_usedByW {S : St} {d : Dw} (hW : XW S d) (hd : Okd d) {v : Nat} (hv : v < 6) {post : Int32 → St → Prop} (h : post (nI (ub d v)) S) : wp_X4_usedBy S (nI v) 11 49 6 post :=
  usedBy_loop hW.1 hd.1 hv (by decide) (M := fun w => dfd d w v) (fun w hw => ⟨hW.2.2.2.2 w v (by have := hd.1; omega) hv, hd.2.2.2.2.1 w v⟩) h
theorem sp_usedByU {S : St} {d : Dw} (hW : XW S d) (hd : Okd d) {u : Nat} (hu : u < 8) {post : Int32 → St → Prop} (h : post (nI (msk (fun w => decide (0 < dus d w u)) (dn d))) S) : wp_X4_usedBy S (nI u) 10 43 8 post :=
  usedBy_loop hW.1 hd.1 hu (by decide) (M := fun w => dus d w u) (fun w hw => ⟨hW.2.2.2.1 w u (by have := hd.1; omega) hu, hd.2.2.2.1 w u⟩) h
theorem sweep_loop {S : St} {d : Dw} (hW : XW S d) (hd : Okd d) {x : Nat} (hx : x < 64) {p3 : Int32} {k : Int32 → Int32 → St → Prop} (h : k (nI (swX d (dn d) x)) (nI (dn d)) S) : ∃ f, wL_X4_withAllTheyUse_15 p3 k f (nI x) 0 S := by
  have hn := hd.1
  refine lp_up (X := fun f i => wL_X4_withAllTheyUse_15 p3 k f (nI (swX d i x)) (nI i) S) (Nat.zero_le (dn d)) (fun f => ?_) (fun f i _ hi hrec => ?_)
  · refine ⟨fun _ => h, fun q => ?_⟩
    rw [hW.1] at q
    exact absurd (nI_le (Nat.le_refl (dn d)) (by omega)) q
  · refine ⟨fun q => ?_, fun _ => ?_⟩
    · rw [hW.1] at q
      exact absurd q (nI_ge hi (by omega))
    · have hlt := swX_lt hn hx i
      refine sp_isIn (by omega) (by omega) (br_b (fun hb => ?_) (fun hb => ?_))
      · rw [nI_1]
        have e : swX d (i + 1) x = swX d i x := by
          show (if (swX d i x).testBit i then _ else _) = _
          rw [hb]; rfl
        rw [e] at hrec
        exact hrec
      · refine sp_usedByW hW hd (by omega) (fun x5 e => ?_)
        rw [fa_or] at e
        have e2 : swX d (i + 1) x = swX d i x ||| ub d i := by
          show (if (swX d i x).testBit i then _ else _) = _
          rw [hb]; rfl
        rw [e, ← e2, nI_1]
        exact hrec
theorem sp_withAll {S : St} {d : Dw} (hW : XW S d) (hd : Okd d) {x : Nat} (hx : x < 64) {post : Int32 → St → Prop} (h : post (nI (itr (swX d (dn d)) (dn d - 1) x)) S) : wp_X4_withAllTheyUse S (nI x) post := by
  have hn := hd.1
  by_cases h0 : dn d = 0
  · rw [h0] at h
    refine ⟨1, fun _ => h, fun q => ?_⟩
    rw [hW.1, h0] at q
    exact absurd (by decide) q
  · refine lp_up (X := fun f i => wL_X4_withAllTheyUse_4 (fun z2 _ S1 => post z2 S1) f (nI (itr (swX d (dn d)) (i - 1) x)) (nI i) S) (N := dn d) (a := 1) (by omega) (fun f => ?_) (fun f i h1 hi hrec => ?_)
    · refine ⟨fun _ => h, fun q => ?_⟩
      rw [hW.1] at q
      exact absurd (nI_le (Nat.le_refl (dn d)) (by omega)) q
    · refine ⟨fun q => ?_, fun _ => ?_⟩
      · rw [hW.1] at q
        exact absurd q (nI_ge hi (by omega))
      · refine sweep_loop hW hd (itr_lt (fun y hy => swX_lt hn hy (dn d)) hx (i - 1)) ?_
        rw [nI_1]
        have e : itr (swX d (dn d)) (i + 1 - 1) x = swX d (dn d) (itr (swX d (dn d)) (i - 1) x) := by
          rw [show i + 1 - 1 = (i - 1) + 1 by omega]
          rfl
        rw [e] at hrec
        exact hrec
/-- the closure that the class computes is the one needed -/
theorem withAll_user {d : Dw} (hd : Okd d) (u : Nat) : itr (swX d (dn d)) (dn d - 1) (msk (fun w => decide (0 < dus d w u)) (dn d)) = need d (2 ^ u) := by
  refine eq_bits fun i => ?_
  have h1 := roundsX hd (s := stU d (2 ^ u)) (x0 := msk (fun w => decide (0 < dus d w u)) (dn d)) (fun w => by
    rw [msk_bit]
    unfold stU
    simp only [Bool.and_eq_true, decide_eq_true_eq, pow_bit]
    constructor
    · rintro ⟨_, h⟩; exact ⟨u, rfl, h⟩
    · rintro ⟨v, rfl, h⟩
      refine ⟨?_, h⟩
      rcases Nat.lt_or_ge w (dn d) with q | q
      · exact q
      · rw [hd.2.2.2.2.2.1 w u (Or.inl q)] at h; omega) (fun w hw => bit_lt (msk_lt _ _) hw) (k := dn d - 1) (by omega) i
  have h2 := need_bit hd (2 ^ u) i
  cases ha : (itr (swX d (dn d)) (dn d - 1) (msk (fun w => decide (0 < dus d w u)) (dn d))).testBit i <;> cases hb : (need d (2 ^ u)).testBit i
  · rfl
  · rw [ha] at h1; exact absurd (h1.mpr (h2.mp hb)) (by decide)
  · rw [hb] at h2; exact absurd (h2.mpr (h1.mp ha)) (by decide)
  · rfl
def XN (S : St) (d : Dw) : Prop := ∀ u, u < 8 → S.1 12 u = nI (need d (2 ^ u))
def orN (d : Dw) (g : Nat) : Nat → Nat
  | 0 => 0
  | i + 1 => if g.testBit i then orN d g i ||| need d (2 ^ i) else orN d g i
theorem orN_bit (d : Dw) (g w : Nat) : ∀ i, (orN d g i).testBit w = true ↔ ∃ u, u < i ∧ g.testBit u = true ∧ (need d (2 ^ u)).testBit w = true
  | 0 => by simp [orN]
  | i + 1 => by
    have ih := orN_bit d g w i
    show (if g.testBit i then orN d g i ||| need d (2 ^ i) else orN d g i).testBit w = true ↔ _
    by_cases hb : g.testBit i = true
    · rw [if_pos hb, Nat.testBit_or, Bool.or_eq_true, ih]
      constructor
      · rintro (⟨u, h1, h2⟩ | h)
        · exact ⟨u, by omega, h2⟩
        · exact ⟨i, by omega, hb, h⟩
      · rintro ⟨u, h1, h2, h3⟩
        by_cases e : u = i
        · subst e; exact Or.inr h3
        · exact Or.inl ⟨u, by omega, h2, h3⟩
    · rw [if_neg hb, ih]
      constructor
      · rintro ⟨u, h1, h2⟩; exact ⟨u, by omega, h2⟩
      · rintro ⟨u, h1, h2, h3⟩
        refine ⟨u, ?_, h2, h3⟩
        rcases Nat.lt_or_ge u i with q | q
        · exact q
        · have e : u = i := by omega
          subst e; exact absurd h2 hb
theorem orN_need {d : Dw} (hd : Okd d) {g : Nat} (hg : g < 256) : orN d g 8 = need d g := by
  refine eq_bits fun w => ?_
  have h1 := orN_bit d g w 8
  have h2 := need_or hd g w
  have h3 : (orN d g 8).testBit w = true ↔ (need d g).testBit w = true := by
    rw [h1, h2]
    exact ⟨fun ⟨u, _, h⟩ => ⟨u, h⟩, fun ⟨u, h⟩ => ⟨u, bit_lt (n := 8) hg h.1, h⟩⟩
  cases ha : (orN d g 8).testBit w <;> cases hb : (need d g).testBit w
  · rfl
  · rw [ha, hb] at h3; exact absurd (h3.mpr rfl) (by decide)
  · rw [ha, hb] at h3; exact absurd (h3.mp rfl) (by decide)
  · rfl
theorem orN_lt {d : Dw} (hd : Okd d) (g : Nat) : ∀ i, orN d g i < 64
  | 0 => (show 0 < 64 by decide)
  | i + 1 => by
    show (if g.testBit i then orN d g i ||| need d (2 ^ i) else orN d g i) < 64
    split
    · exact or_lt (n := 6) (orN_lt hd g i) (need_lt hd _)
    · exact orN_lt hd g i
theorem sp_neededX {S : St} {d : Dw} (hN : XN S d) (hd : Okd d) {g : Nat} (hg : g < 256) {post : Int32 → St → Prop} (h : post (nI (need d g)) S) : wp_X4_neededBy S (nI g) post := by
  rw [← orN_need hd hg] at h
  refine lp_up (X := fun f i => wL_X4_neededBy_4 (nI g) (fun z2 _ S1 => post z2 S1) f (nI (orN d g i)) (nI i) S) (Nat.zero_le 8) (fun f => ?_) (fun f i _ hi hrec => ?_)
  · exact ⟨fun _ => h, fun q => absurd (by decide) q⟩
  · refine ⟨fun q => absurd q (nI_ge (a := i) (b := 8) hi (by decide)), fun _ => ?_⟩
    refine sp_isIn (by omega) (by omega) (br_b (fun hb => ?_) (fun hb => ⟨vp_in_nI hi (by decide), fun x4 e => ?_⟩))
    · rw [nI_1]
      have e : orN d g (i + 1) = orN d g i := by
        show (if g.testBit i then _ else _) = _
        rw [hb]; rfl
      rw [e] at hrec
      exact hrec
    · rw [nI_clamp (by omega), hN i hi, fa_or] at e
      have e2 : orN d g (i + 1) = orN d g i ||| need d (2 ^ i) := by
        show (if g.testBit i then _ else _) = _
        rw [hb]; rfl
      rw [e, ← e2, nI_1]
      exact hrec
