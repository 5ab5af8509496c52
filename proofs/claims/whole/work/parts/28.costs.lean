/-! ===== pure: totals and costs of the class ===== -/
theorem XW.keep {S S' : St} {d : Dw} (h : XW S d) (hk : ∀ k, (k = 1 ∨ k = 8 ∨ k = 9 ∨ (43 ≤ k ∧ k < 55)) → S'.1 k = S.1 k) : XW S' d := by
  obtain ⟨h1, h2, h3, h4, h5⟩ := h
  refine ⟨?_, fun w hw => ?_, fun w hw => ?_, fun w u hw hu => ?_, fun w v hw hv => ?_⟩
  · rw [hk 1 (by omega)]; exact h1
  · rw [hk 8 (by omega)]; exact h2 w hw
  · rw [hk 9 (by omega)]; exact h3 w hw
  · rw [hk (43 + w) (by omega)]; exact h4 w u hw hu
  · rw [hk (49 + w) (by omega)]; exact h5 w v hw hv
theorem unitsU_loop {S : St} {d : Dw} (hW : XW S d) (hd : Okd d) {w g : Nat} (hw : w < 6) (hg : g < 256) {p3 : Int32} {k : Int32 → Int32 → St → Prop} (h : k (nI (totU d w g 8)) 8 S) : ∃ f, wL_X4_unitsOf_6 (nI w) (nI g) p3 k f 0 0 S := by
  refine lp_up (X := fun f i => wL_X4_unitsOf_6 (nI w) (nI g) p3 k f (nI (totU d w g i)) (nI i) S) (Nat.zero_le 8) (fun f => ?_) (fun f i _ hi hrec => ?_)
  · exact ⟨fun _ => h, fun q => absurd (by decide) q⟩
  · refine ⟨fun q => absurd q (nI_ge (a := i) (b := 8) hi (by decide)), fun _ => ?_⟩
    have e0 : totU d w g (i + 1) = totU d w g i + (if g.testBit i then dus d w i else 0) := fb_sm_succ _ _
    refine sp_isIn (by omega) (by omega) (br_b (fun hb => ?_) (fun hb => ⟨vp_in_nI hw (by decide), vp_in_nI hi (by decide), fun x5 e => ?_⟩))
    · rw [hb] at e0
      rw [nI_1]
      rw [e0] at hrec
      exact hrec
    · rw [hb, if_pos rfl] at e0
      rw [nI_clamp (by omega), nI_clamp (by omega), hW.2.2.2.1 w i hw hi, nI_add, ← e0] at e
      rw [e, nI_1]
      exact hrec
theorem unitsW_loop {S : St} {d : Dw} (hW : XW S d) (hd : Okd d) {w N a : Nat} (hw : w < 6) (hN : N < 64) {k : Int32 → Int32 → St → Prop} (h : k (nI (a + totW d w N (dn d))) (nI (dn d)) S) : ∃ f, wL_X4_unitsOf_45 (nI w) (nI N) k f (nI a) 0 S := by
  have hn := hd.1
  refine lp_up (X := fun f i => wL_X4_unitsOf_45 (nI w) (nI N) k f (nI (a + totW d w N i)) (nI i) S) (Nat.zero_le (dn d)) (fun f => ?_) (fun f i _ hi hrec => ?_)
  · refine ⟨fun _ => h, fun q => ?_⟩
    rw [hW.1] at q
    exact absurd (nI_le (Nat.le_refl (dn d)) (by omega)) q
  · refine ⟨fun q => ?_, fun _ => ?_⟩
    · rw [hW.1] at q
      exact absurd q (nI_ge hi (by omega))
    have e0 : totW d w N (i + 1) = totW d w N i + (if N.testBit i then dfd d w i else 0) := fb_sm_succ _ _
    refine sp_isIn (by omega) (by omega) (br_b (fun hb => ?_) (fun hb => ⟨vp_in_nI hw (by decide), vp_in_nI (by omega) (by decide), fun x5 e => ?_⟩))
    · rw [hb] at e0
      rw [nI_1]
      rw [e0] at hrec
      exact hrec
    · rw [hb, if_pos rfl] at e0
      rw [nI_clamp (by omega), nI_clamp (by omega), hW.2.2.2.2 w i hw (by omega), nI_add, Nat.add_assoc, ← e0] at e
      rw [e, nI_1]
      exact hrec
theorem sp_unitsOf {S : St} {d : Dw} (hW : XW S d) (hd : Okd d) {w g N : Nat} (hw : w < 6) (hg : g < 256) (hN : N < 64) {post : Int32 → St → Prop} (h : post (nI (tot d w g N)) S) : wp_X4_unitsOf S (nI w) (nI g) (nI N) post :=
  unitsU_loop hW hd hw hg (unitsW_loop hW hd hw hN h)
theorem cost_at (t : Nat) (ht : t ≤ 126) : ((nI t + 10) - 1) / 10 = nI ((t + 9) / 10) := by
  rw [show (10 : Int32) = nI 10 from rfl, show (1 : Int32) = nI 1 from rfl, nI_add, pk_sub (by omega), pk_div (by omega) (by decide) (by decide)]
  rfl
theorem sp_costAt {S : St} {d : Dw} (hW : XW S d) {w t : Nat} (hw : w < 6) (ht : t ≤ 126) {post : Int32 → St → Prop} (h : post (nI (wcost d w t)) S) : wp_X4_costAt S (nI w) (nI t) post := by
  intro x1 e
  rw [cost_at t ht] at e
  subst e
  refine ⟨vp_in_nI hw (by decide), vp_in_nI hw (by decide), ?_⟩
  rw [nI_clamp (by omega), hW.2.1 w hw, hW.2.2.1 w hw, pk_mul, nI_add]
  exact h
def XK (S : St) (d : Dw) : Prop := ∀ g, g < 256 → S.1 13 g = -1 ∨ S.1 13 g = nI (cst d g)
/-- nothing but the known costs has changed -/
def Kf (S S' : St) : Prop := S'.2 = S.2 ∧ ∀ k, k ≠ 13 → S'.1 k = S.1 k
theorem Kf.refl (S : St) : Kf S S := ⟨rfl, fun _ _ => rfl⟩
theorem Kf.trans {S S' S2 : St} (h : Kf S S') (g : Kf S' S2) : Kf S S2 := ⟨g.1.trans h.1, fun k hk => (g.2 k hk).trans (h.2 k hk)⟩
def XI (S : St) (d : Dw) : Prop := Okd d ∧ XW S d ∧ XN S d ∧ XK S d
theorem XI.kf {S S' : St} {d : Dw} (h : XI S d) (hf : Kf S S') (hk : XK S' d) : XI S' d := ⟨h.1, h.2.1.keep (fun k hk => hf.2 k (by omega)), fun u hu => by rw [hf.2 12 (by decide)]; exact h.2.2.1 u hu, hk⟩
theorem cost_loop {S : St} {d : Dw} (hI : XI S d) {g : Nat} (hg : g < 256) {k : Int32 → Int32 → St → Prop} (h : k (nI (cst d g)) (nI (dn d)) S) : ∃ f, wL_X4_costOf_28 (nI g) (nI (need d g)) k f 0 0 S := by
  obtain ⟨hd, hW, -, -⟩ := hI
  have hn := hd.1
  have hN := need_lt hd g
  refine lp_up (X := fun f i => wL_X4_costOf_28 (nI g) (nI (need d g)) k f (nI (cstN d g (need d g) i)) (nI i) S) (Nat.zero_le (dn d)) (fun f => ?_) (fun f i _ hi hrec => ?_)
  · refine ⟨fun _ => h, fun q => ?_⟩
    rw [hW.1] at q
    exact absurd (nI_le (Nat.le_refl (dn d)) (by omega)) q
  · refine ⟨fun q => ?_, fun _ => ?_⟩
    · rw [hW.1] at q
      exact absurd q (nI_ge hi (by omega))
    have e0 : cstN d g (need d g) (i + 1) = cstN d g (need d g) i + (if (need d g).testBit i then wcost d i (tot d i g (need d g)) else 0) := fb_sm_succ _ _
    refine sp_isIn (by omega) (by omega) (br_b (fun hb => ?_) (fun hb => ?_))
    · rw [hb] at e0
      rw [nI_1]
      rw [e0] at hrec
      exact hrec
    · refine sp_unitsOf hW hd (by omega) hg hN (sp_costAt hW (by omega) (tot_le hd _ _ _) (fun x7 e => ?_))
      rw [hb, if_pos rfl] at e0
      rw [nI_add, ← e0] at e
      rw [e, nI_1]
      exact hrec
theorem nI_ne_m1 {n : Nat} (h : n < 2 ^ 31) : ¬ nI n = -1 := by
  intro e
  have h1 := nI_toInt h
  rw [e] at h1
  have h2 : (-1 : Int32).toInt = -1 := by decide
  omega
theorem sp_costOf {S : St} {d : Dw} (hI : XI S d) {g : Nat} (hg : g < 256) {post : Int32 → St → Prop} (h : ∀ S', Kf S S' → XI S' d → post (nI (cst d g)) S') : wp_X4_costOf S (nI g) post := by
  have hin : vp_in (nI g) 256 := vp_in_nI hg (by decide)
  unfold wp_X4_costOf
  rw [nI_clamp (by omega)]
  have hle := cst_le hI.1 g
  refine ⟨hin, fun q => ?_, fun q => ⟨hin, ?_⟩⟩
  · refine sp_neededX hI.2.2.1 hI.1 hg (cost_loop hI hg ⟨hin, fun S8 e => ?_⟩)
    have hf : Kf S S8 := by rw [e]; exact ⟨rfl, fun k hk => uI_row hk⟩
    refine h S8 hf (hI.kf hf (fun g' hg' => ?_))
    rw [e]
    by_cases eg : g' = g
    · subst eg; rw [uI_at]; exact Or.inr rfl
    · rw [uI_ne (fun z => eg z.2)]; exact hI.2.2.2 g' hg'
  · rcases hI.2.2.2 g hg with z | z
    · exact absurd z q
    · rw [z]; exact h S (Kf.refl S) hI
theorem onRings_bit {d : Dw} (hd : Okd d) (w : Nat) : (itr (swX d (dn d)) (dn d - 1) (ub d w)).testBit w = true ↔ Clo (dfd d) (fun i => 0 < dfd d i w) w :=
  roundsX hd (fun i => by
    rw [msk_bit]
    simp only [Bool.and_eq_true, decide_eq_true_eq]
    exact ⟨fun h => h.2, fun h => ⟨fd_lt hd i w h, h⟩⟩) (fun i hi => bit_lt (msk_lt _ _) hi) (k := dn d - 1) (by omega) w
def ring (d : Dw) (w : Nat) : Bool := (itr (swX d (dn d)) (dn d - 1) (ub d w)).testBit w
theorem ub_lt {d : Dw} (hd : Okd d) (w : Nat) : ub d w < 64 := Nat.lt_of_lt_of_le (msk_lt _ _) (Nat.pow_le_pow_right (by decide) hd.1)
theorem sp_onRings {S : St} {d : Dw} (hW : XW S d) (hd : Okd d) {post : Int32 → St → Prop} (h : post (nI (msk (ring d) (dn d))) S) : wp_X4_onRings S post := by
  have hn := hd.1
  refine lp_up (X := fun f i => wL_X4_onRings_4 (fun z2 _ S1 => post z2 S1) f (nI (msk (ring d) i)) (nI i) S) (Nat.zero_le (dn d)) (fun f => ?_) (fun f i _ hi hrec => ?_)
  · refine ⟨fun _ => h, fun q => ?_⟩
    rw [hW.1] at q
    exact absurd (nI_le (Nat.le_refl (dn d)) (by omega)) q
  · refine ⟨fun q => ?_, fun _ => ?_⟩
    · rw [hW.1] at q
      exact absurd q (nI_ge hi (by omega))
    have hlt : itr (swX d (dn d)) (dn d - 1) (ub d i) < 64 := itr_lt (fun y hy => swX_lt hn hy (dn d)) (ub_lt hd i) _
    refine sp_usedByW hW hd (by omega) (sp_withAll hW hd (ub_lt hd i) (sp_isIn (by omega) (by omega) (br_b (fun hb => ?_) (fun hb x7 e => ?_))))
    · rw [nI_1]
      have e : msk (ring d) (i + 1) = msk (ring d) i := by
        show (if ring d i then _ else _) = _
        rw [show ring d i = false from hb]; rfl
      rw [e] at hrec
      exact hrec
    · have e2 : msk (ring d) (i + 1) = msk (ring d) i ||| 2 ^ i := by
        show (if ring d i then _ else _) = _
        rw [show ring d i = true from hb]; rfl
      rw [nI_or_pow (by omega), ← e2] at e
      rw [e, nI_1]
      exact hrec
/-! what changes the works -/
/-- only the needs and the known costs have changed -/
def Nf (S S' : St) : Prop := S'.2 = S.2 ∧ ∀ k, k ≠ 12 → k ≠ 13 → S'.1 k = S.1 k
theorem XI_of_fill {S : St} {d : Dw} (hd : Okd d) (hW : XW S d) (hN : XN S d) : XI (fI S 13 256 (-1)) d := by
  have hk : ∀ k, k ≠ 13 → (fI S 13 256 (-1)).1 k = S.1 k := fun k hk => funext fun j => if_neg (fun q => hk q.1)
  exact ⟨hd, hW.keep (fun k hk2 => hk k (by omega)), fun u hu => by rw [hk 12 (by decide)]; exact hN u hu, fun g hg => Or.inl (if_pos ⟨rfl, hg⟩)⟩
theorem sp_learn {S : St} {d : Dw} (hd : Okd d) (hW : XW S d) {post : St → Prop} (h : ∀ S', Nf S S' → XI S' d → post S') : wp_X4_learnNeeds S post := by
  let st : Nat → St := fun i => (fun a b => if a = 12 ∧ b < i then nI (need d (2 ^ b)) else S.1 a b, S.2)
  have hs : ∀ i k, k ≠ 12 → (st i).1 k = S.1 k := fun i k hk => funext fun b => if_neg (fun q => hk q.1)
  have hWi : ∀ i, XW (st i) d := fun i => hW.keep (fun k hk => hs i k (by omega))
  have e0 : st 0 = S := Prod.ext (funext fun a => funext fun b => if_neg (fun q => Nat.not_lt_zero _ q.2)) rfl
  have hgo : ∃ f, wL_X4_learnNeeds_2 (fun _ S1 => wp_J7_fill_53178 S1 (-1) 13 256 (fun S3 => post S3)) f (nI 0) (st 0) := by
    refine lp_up (X := fun f i => wL_X4_learnNeeds_2 (fun _ S1 => wp_J7_fill_53178 S1 (-1) 13 256 (fun S3 => post S3)) f (nI i) (st i)) (Nat.zero_le 8) (fun f => ?_) (fun f i _ hi hrec => ?_)
    · refine ⟨fun _ => sp_fillI (by decide) (h _ ⟨rfl, fun k h1 h2 => ?_⟩ (XI_of_fill hd (hWi 8) (fun u hu => if_pos ⟨rfl, hu⟩))), fun q => absurd (by decide) q⟩
      exact (funext fun j => if_neg (fun q => h2 q.1)).trans (hs 8 k h1)
    · refine ⟨fun q => absurd q (nI_ge (a := i) (b := 8) hi (by decide)), fun _ => ?_⟩
      have hlt : msk (fun w => decide (0 < dus d w i)) (dn d) < 64 := Nat.lt_of_lt_of_le (msk_lt _ _) (Nat.pow_le_pow_right (by decide) hd.1)
      refine sp_usedByU (hWi i) hd hi (sp_withAll (hWi i) hd hlt ⟨vp_in_nI hi (by decide), fun S6 e => ?_⟩)
      rw [withAll_user hd, nI_clamp (by omega)] at e
      have e2 : S6 = st (i + 1) := by
        rw [e]
        refine Prod.ext ?_ rfl
        funext a b
        show (if a = 12 ∧ b = i then nI (need d (2 ^ i)) else if a = 12 ∧ b < i then nI (need d (2 ^ b)) else S.1 a b) = (if a = 12 ∧ b < i + 1 then nI (need d (2 ^ b)) else S.1 a b)
        by_cases h1 : a = 12 <;> by_cases h2 : b = i <;> by_cases h3 : b < i <;> simp [h1, h2, h3] <;> omega
      rw [e2, nI_1]
      exact hrec
  rw [e0] at hgo
  exact hgo
