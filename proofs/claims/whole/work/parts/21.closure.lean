/-! ===== pure: the works that a set needs: the least closed set, and rounds that reach it ===== -/
/-- the data of the works: how many, fixed, step, units by user, units by work -/
abbrev Dw : Type := Nat × (Nat → Nat) × (Nat → Nat) × (Nat → Nat → Nat) × (Nat → Nat → Nat)
def dn (d : Dw) : Nat := d.1
def dfx (d : Dw) : Nat → Nat := d.2.1
def dst (d : Dw) : Nat → Nat := d.2.2.1
def dus (d : Dw) : Nat → Nat → Nat := d.2.2.2.1
def dfd (d : Dw) : Nat → Nat → Nat := d.2.2.2.2
def Okd (d : Dw) : Prop := dn d ≤ 6 ∧ (∀ w, dfx d w ≤ 10000) ∧ (∀ w, dst d w ≤ 100) ∧ (∀ w u, dus d w u ≤ 9) ∧ (∀ w v, dfd d w v ≤ 9) ∧ (∀ w u, (dn d ≤ w ∨ 8 ≤ u) → dus d w u = 0) ∧ (∀ w v, (dn d ≤ w ∨ dn d ≤ v) → dfd d w v = 0) ∧ ∀ w, dfd d w w = 0
def Clo (f : Nat → Nat → Nat) (s : Nat → Prop) (w : Nat) : Prop := ∀ P : Nat → Prop, (∀ i, s i → P i) → (∀ a b, P b → 0 < f a b → P a) → P w
theorem Clo.base {f : Nat → Nat → Nat} {s : Nat → Prop} {w : Nat} (h : s w) : Clo f s w := fun _ h1 _ => h1 w h
theorem Clo.step {f : Nat → Nat → Nat} {s : Nat → Prop} {a b : Nat} (h : Clo f s b) (hf : 0 < f a b) : Clo f s a := fun P h1 h2 => h2 a b (h P h1 h2) hf
theorem Clo.mono {f : Nat → Nat → Nat} {s t : Nat → Prop} {w : Nat} (h : Clo f s w) (hst : ∀ i, s i → t i) : Clo f t w := h (Clo f t) (fun i hi => Clo.base (hst i hi)) (fun _ _ hb hf => Clo.step hb hf)
theorem Clo.union {f : Nat → Nat → Nat} {ι : Nat → Prop} {s : Nat → Nat → Prop} {w : Nat} : Clo f (fun i => ∃ u, ι u ∧ s u i) w ↔ ∃ u, ι u ∧ Clo f (s u) w := by
  refine ⟨fun h => ?_, fun ⟨u, hu, h⟩ => h.mono (fun i hi => ⟨u, hu, hi⟩)⟩
  exact h (fun w => ∃ u, ι u ∧ Clo f (s u) w) (fun i ⟨u, hu, hi⟩ => ⟨u, hu, Clo.base hi⟩) (fun a b ⟨u, hu, hb⟩ hf => ⟨u, hu, hb.step hf⟩)
/-- a mask that holds the start, is sound and closed, is the closure -/
theorem Clo.is {f : Nat → Nat → Nat} {s : Nat → Prop} {x : Nat} (h0 : ∀ w, s w → x.testBit w = true) (hs : ∀ w, x.testBit w = true → Clo f s w) (hc : ∀ a b, x.testBit b = true → 0 < f a b → x.testBit a = true) (w : Nat) : x.testBit w = true ↔ Clo f s w :=
  ⟨hs w, fun h => h (fun w => x.testBit w = true) h0 hc⟩
def itr (F : Nat → Nat) : Nat → Nat → Nat
  | 0, x => x
  | k + 1, x => F (itr F k x)
def sub (x y : Nat) : Prop := ∀ i, x.testBit i = true → y.testBit i = true
theorem sub_refl (x : Nat) : sub x x := fun _ h => h
theorem sub_trans {x y z : Nat} (h1 : sub x y) (h2 : sub y z) : sub x z := fun i h => h2 i (h1 i h)
theorem sub_anti {x y : Nat} (h1 : sub x y) (h2 : sub y x) : x = y := eq_bits fun i => by
  cases hx : x.testBit i <;> cases hy : y.testBit i
  · rfl
  · rw [h2 i hy] at hx; cases hx
  · rw [h1 i hx] at hy; cases hy
  · rfl
theorem sub_or_l (x y : Nat) : sub x (x ||| y) := fun i h => by rw [Nat.testBit_or, h]; rfl
/-- rounds: a growing, sound step whose rest is closed reaches the closure -/
theorem rounds {f : Nat → Nat → Nat} {s : Nat → Prop} {n : Nat} {F : Nat → Nat} {x0 : Nat} (hn : ∀ a b, 0 < f a b → a < n)
    (h0 : ∀ w, x0.testBit w = true ↔ s w) (hlt0 : ∀ w, x0.testBit w = true → w < n)
    (hgrow : ∀ x, sub x (F x)) (hsound : ∀ x, (∀ w, x.testBit w = true → w < n ∧ Clo f s w) → ∀ w, (F x).testBit w = true → w < n ∧ Clo f s w)
    (hfix : ∀ x, F x = x → ∀ a b, x.testBit b = true → 0 < f a b → x.testBit a = true) {k : Nat} (hk : n ≤ k + 1) (w : Nat) : (itr F k x0).testBit w = true ↔ Clo f s w := by
  have hsd : ∀ j w, (itr F j x0).testBit w = true → w < n ∧ Clo f s w := by
    intro j
    induction j with
    | zero => exact fun w hw => ⟨hlt0 w hw, Clo.base ((h0 w).mp hw)⟩
    | succ j ih => exact hsound _ ih
  have hst : ∀ j, sub x0 (itr F j x0) := by
    intro j
    induction j with
    | zero => exact sub_refl _
    | succ j ih => exact sub_trans ih (hgrow _)
  refine Clo.is (fun w hw => hst k w ((h0 w).mpr hw)) (fun w hw => (hsd k w hw).2) ?_ w
  -- either some round rested, or the count has reached n
  have hcnt : ∀ j, F (itr F j x0) = itr F j x0 ∨ fb_ct (fun i => x0.testBit i) n + j ≤ fb_ct (fun i => (itr F j x0).testBit i) n := by
    intro j
    induction j with
    | zero => exact Or.inr (Nat.le_refl _)
    | succ j ih =>
      by_cases he : F (itr F j x0) = itr F j x0
      · exact Or.inl (by show F (F (itr F j x0)) = F (itr F j x0); rw [he, he])
      · refine Or.inr ?_
        rcases ih with ih | ih
        · exact absurd ih he
        · have hlt : fb_ct (fun i => (itr F j x0).testBit i) n < fb_ct (fun i => (itr F (j + 1) x0).testBit i) n := by
            have hle := fb_ct_sub (p := fun i => (itr F j x0).testBit i) (q := fun i => (itr F (j + 1) x0).testBit i) (n := n) (fun k _ h => hgrow _ k h)
            rcases Nat.lt_or_ge (fb_ct (fun i => (itr F j x0).testBit i) n) (fb_ct (fun i => (itr F (j + 1) x0).testBit i) n) with q | q
            · exact q
            · refine absurd ?_ he
              refine sub_anti (fun i hi => ?_) (hgrow _)
              rcases hb : (itr F j x0).testBit i with _ | _
              · have hin := (hsd (j + 1) i hi).1
                have h2 : fb_ct (fun i => (itr F j x0).testBit i || ((itr F (j + 1) x0).testBit i && !(itr F j x0).testBit i)) n = fb_ct (fun i => (itr F j x0).testBit i) n + fb_ct (fun i => ((itr F (j + 1) x0).testBit i && !(itr F j x0).testBit i)) n := fb_ct_or (fun k _ => by simp; exact fun h _ => h)
                have h3 : fb_ct (fun i => (itr F j x0).testBit i || ((itr F (j + 1) x0).testBit i && !(itr F j x0).testBit i)) n ≤ fb_ct (fun i => (itr F (j + 1) x0).testBit i) n := fb_ct_sub (fun k _ h => by
                  simp at h
                  rcases h with h | h
                  · exact hgrow _ k h
                  · exact h.1)
                have h4 : 0 < fb_ct (fun i => ((itr F (j + 1) x0).testBit i && !(itr F j x0).testBit i)) n := fb_ct_pos.mpr ⟨i, hin, by simp [hb]; exact hi⟩
                omega
              · rfl
          omega
  intro a b hb hf
  rcases hcnt k with h | h
  · exact hfix _ h a b hb hf
  · -- the count
    have hle := fb_ct_le (fun i => (itr F k x0).testBit i) n
    by_cases hz : fb_ct (fun i => x0.testBit i) n = 0
    · -- an empty start: nothing is ever found
      have he : ∀ w, ¬ s w := fun w hw => by
        have hx := (h0 w).mpr hw
        have := (fb_ct_zero.mp hz) w (hlt0 w hx)
        rw [hx] at this
        cases this
      have := (hsd k b hb).2 (fun _ => False) (fun i hi => he i hi) (fun _ _ h _ => h)
      exact this.elim
    · have hall : fb_ct (fun i => (itr F k x0).testBit i) n = n := by omega
      exact fb_ct_all.mp hall a (hn a b hf)
/-! the step of the class: for each work that is found, all that it uses -/
def ub (d : Dw) (v : Nat) : Nat := msk (fun w => decide (0 < dfd d w v)) (dn d)
def swX (d : Dw) : Nat → Nat → Nat
  | 0, x => x
  | i + 1, x => if (swX d i x).testBit i then swX d i x ||| ub d i else swX d i x
theorem ub_bit (d : Dw) (v w : Nat) : (ub d v).testBit w = (decide (w < dn d) && decide (0 < dfd d w v)) := msk_bit _ _ _
theorem swX_grow (d : Dw) (x : Nat) : ∀ i, sub x (swX d i x)
  | 0 => sub_refl x
  | i + 1 => by
    show sub x (if (swX d i x).testBit i then swX d i x ||| ub d i else swX d i x)
    split
    · exact sub_trans (swX_grow d x i) (sub_or_l _ _)
    · exact swX_grow d x i
theorem swX_lt {d : Dw} (h : dn d ≤ 6) {x : Nat} (hx : x < 64) : ∀ i, swX d i x < 64
  | 0 => hx
  | i + 1 => by
    show (if (swX d i x).testBit i then swX d i x ||| ub d i else swX d i x) < 64
    split
    · exact or_lt (n := 6) (swX_lt h hx i) (Nat.lt_of_lt_of_le (msk_lt _ _) (Nat.pow_le_pow_right (by decide) h))
    · exact swX_lt h hx i
theorem swX_sound {d : Dw} {s : Nat → Prop} {x : Nat} (hx : ∀ w, x.testBit w = true → w < dn d ∧ Clo (dfd d) s w) : ∀ i w, (swX d i x).testBit w = true → w < dn d ∧ Clo (dfd d) s w
  | 0, w, h => hx w h
  | i + 1, w, h => by
    replace h : (if (swX d i x).testBit i then swX d i x ||| ub d i else swX d i x).testBit w = true := h
    split at h
    · rename_i hi
      rw [Nat.testBit_or, ub_bit] at h
      simp at h
      rcases h with h | h
      · exact swX_sound hx i w h
      · exact ⟨h.1, (swX_sound hx i i hi).2.step h.2⟩
    · exact swX_sound hx i w h
theorem swX_part (d : Dw) (x : Nat) {i j : Nat} (h : i ≤ j) : sub (swX d i x) (swX d j x) := by
  induction j with
  | zero => rw [show i = 0 by omega]; exact sub_refl _
  | succ j ih =>
    by_cases e : i = j + 1
    · rw [e]; exact sub_refl _
    · refine sub_trans (ih (by omega)) ?_
      show sub (swX d j x) (if (swX d j x).testBit j then swX d j x ||| ub d j else swX d j x)
      split
      · exact sub_or_l _ _
      · exact sub_refl _
theorem swX_fix {d : Dw} (hd : Okd d) {x : Nat} (h : swX d (dn d) x = x) : ∀ a b, x.testBit b = true → 0 < dfd d a b → x.testBit a = true := by
  intro a b hb hf
  have hbn : b < dn d := by
    rcases Nat.lt_or_ge b (dn d) with q | q
    · exact q
    · rw [hd.2.2.2.2.2.2.1 a b (Or.inr q)] at hf; omega
  have han : a < dn d := by
    rcases Nat.lt_or_ge a (dn d) with q | q
    · exact q
    · rw [hd.2.2.2.2.2.2.1 a b (Or.inl q)] at hf; omega
  have h1 : sub (swX d (b + 1) x) x := by
    have := swX_part d x (i := b + 1) (j := dn d) (by omega)
    rw [h] at this
    exact this
  refine h1 a ?_
  show (if (swX d b x).testBit b then swX d b x ||| ub d b else swX d b x).testBit a = true
  rw [if_pos (swX_grow d x b b hb), Nat.testBit_or, ub_bit]
  simp [han, hf]
/-! the step of the reference: over all pairs -/
def rwM (d : Dw) (w : Nat) : Nat → Nat → Nat
  | 0, x => x
  | i + 1, x => if (rwM d w i x).testBit i && decide (0 < dfd d w i) then rwM d w i x ||| 2 ^ w else rwM d w i x
def swM (d : Dw) : Nat → Nat → Nat
  | 0, x => x
  | w + 1, x => rwM d w (dn d) (swM d w x)
theorem rwM_grow (d : Dw) (w x : Nat) : ∀ i, sub x (rwM d w i x)
  | 0 => sub_refl x
  | i + 1 => by
    show sub x (if (rwM d w i x).testBit i && decide (0 < dfd d w i) then rwM d w i x ||| 2 ^ w else rwM d w i x)
    split
    · exact sub_trans (rwM_grow d w x i) (sub_or_l _ _)
    · exact rwM_grow d w x i
theorem rwM_part (d : Dw) (w x : Nat) {i j : Nat} (h : i ≤ j) : sub (rwM d w i x) (rwM d w j x) := by
  induction j with
  | zero => rw [show i = 0 by omega]; exact sub_refl _
  | succ j ih =>
    by_cases e : i = j + 1
    · rw [e]; exact sub_refl _
    · refine sub_trans (ih (by omega)) ?_
      show sub (rwM d w j x) (if (rwM d w j x).testBit j && decide (0 < dfd d w j) then rwM d w j x ||| 2 ^ w else rwM d w j x)
      split
      · exact sub_or_l _ _
      · exact sub_refl _
theorem swM_grow (d : Dw) (x : Nat) : ∀ w, sub x (swM d w x)
  | 0 => sub_refl x
  | w + 1 => sub_trans (swM_grow d x w) (rwM_grow d w _ _)
theorem swM_part (d : Dw) (x : Nat) {i j : Nat} (h : i ≤ j) : sub (swM d i x) (swM d j x) := by
  induction j with
  | zero => rw [show i = 0 by omega]; exact sub_refl _
  | succ j ih =>
    by_cases e : i = j + 1
    · rw [e]; exact sub_refl _
    · exact sub_trans (ih (by omega)) (rwM_grow d j _ _)
theorem rwM_lt {d : Dw} {w x : Nat} (hw : w < 6) (hx : x < 64) : ∀ i, rwM d w i x < 64
  | 0 => hx
  | i + 1 => by
    show (if (rwM d w i x).testBit i && decide (0 < dfd d w i) then rwM d w i x ||| 2 ^ w else rwM d w i x) < 64
    split
    · exact or_lt (n := 6) (rwM_lt hw hx i) (Nat.pow_lt_pow_right (by decide) hw)
    · exact rwM_lt hw hx i
theorem swM_lt {d : Dw} {x : Nat} (hx : x < 64) : ∀ w, w ≤ 6 → swM d w x < 64
  | 0, _ => hx
  | w + 1, h => rwM_lt (by omega) (swM_lt hx w (by omega)) _
theorem rwM_sound {d : Dw} {s : Nat → Prop} {x v : Nat} (hv : v < dn d) (hx : ∀ w, x.testBit w = true → w < dn d ∧ Clo (dfd d) s w) : ∀ i w, (rwM d v i x).testBit w = true → w < dn d ∧ Clo (dfd d) s w
  | 0, w, h => hx w h
  | i + 1, w, h => by
    replace h : (if (rwM d v i x).testBit i && decide (0 < dfd d v i) then rwM d v i x ||| 2 ^ v else rwM d v i x).testBit w = true := h
    split at h
    · rename_i hi
      simp at hi
      rw [Nat.testBit_or, pow_bit] at h
      simp at h
      rcases h with h | h
      · exact rwM_sound hv hx i w h
      · subst h
        exact ⟨hv, (rwM_sound hv hx i i hi.1).2.step hi.2⟩
    · exact rwM_sound hv hx i w h
theorem swM_sound {d : Dw} {s : Nat → Prop} {x : Nat} (hx : ∀ w, x.testBit w = true → w < dn d ∧ Clo (dfd d) s w) : ∀ v, v ≤ dn d → ∀ w, (swM d v x).testBit w = true → w < dn d ∧ Clo (dfd d) s w
  | 0, _ => hx
  | v + 1, hv => rwM_sound (by omega) (swM_sound hx v (by omega)) _
theorem swM_fix {d : Dw} (hd : Okd d) {x : Nat} (h : swM d (dn d) x = x) : ∀ a b, x.testBit b = true → 0 < dfd d a b → x.testBit a = true := by
  intro a b hb hf
  have hbn : b < dn d := by
    rcases Nat.lt_or_ge b (dn d) with q | q
    · exact q
    · rw [hd.2.2.2.2.2.2.1 a b (Or.inr q)] at hf; omega
  have han : a < dn d := by
    rcases Nat.lt_or_ge a (dn d) with q | q
    · exact q
    · rw [hd.2.2.2.2.2.2.1 a b (Or.inl q)] at hf; omega
  have h1 : sub (swM d (a + 1) x) x := by
    have := swM_part d x (i := a + 1) (j := dn d) (by omega)
    rw [h] at this
    exact this
  refine h1 a ?_
  have h2 : sub (rwM d a (b + 1) (swM d a x)) (swM d (a + 1) x) := rwM_part d a _ (by omega)
  refine h2 a ?_
  show (if (rwM d a b (swM d a x)).testBit b && decide (0 < dfd d a b) then rwM d a b (swM d a x) ||| 2 ^ a else rwM d a b (swM d a x)).testBit a = true
  have h3 : (rwM d a b (swM d a x)).testBit b = true := rwM_grow d a _ b b (swM_grow d x a b hb)
  rw [h3]
  simp [hf, Nat.testBit_or]
theorem fd_lt {d : Dw} (hd : Okd d) : ∀ a b, 0 < dfd d a b → a < dn d := by
  intro a b hf
  rcases Nat.lt_or_ge a (dn d) with q | q
  · exact q
  · rw [hd.2.2.2.2.2.2.1 a b (Or.inl q)] at hf; omega
theorem roundsX {d : Dw} (hd : Okd d) {s : Nat → Prop} {x0 : Nat} (h0 : ∀ w, x0.testBit w = true ↔ s w) (hlt : ∀ w, x0.testBit w = true → w < dn d) {k : Nat} (hk : dn d ≤ k + 1) (w : Nat) : (itr (swX d (dn d)) k x0).testBit w = true ↔ Clo (dfd d) s w :=
  rounds (F := swX d (dn d)) (fd_lt hd) h0 hlt (fun x => swX_grow d x _) (fun _ hx => swX_sound hx _) (fun _ h => swX_fix hd h) hk w
theorem roundsM {d : Dw} (hd : Okd d) {s : Nat → Prop} {x0 : Nat} (h0 : ∀ w, x0.testBit w = true ↔ s w) (hlt : ∀ w, x0.testBit w = true → w < dn d) {k : Nat} (hk : dn d ≤ k + 1) (w : Nat) : (itr (swM d (dn d)) k x0).testBit w = true ↔ Clo (dfd d) s w :=
  rounds (F := swM d (dn d)) (fd_lt hd) h0 hlt (fun x => swM_grow d x _) (fun _ hx => swM_sound hx _ (Nat.le_refl _)) (fun _ h => swM_fix hd h) hk w
/-- the works that the set g of users needs -/
def stU (d : Dw) (g : Nat) (w : Nat) : Prop := ∃ u, g.testBit u = true ∧ 0 < dus d w u
def st0 (d : Dw) (g : Nat) : Nat := msk (fun w => (List.range 8).any (fun u => g.testBit u && decide (0 < dus d w u))) (dn d)
def need (d : Dw) (g : Nat) : Nat := itr (swM d (dn d)) (dn d) (st0 d g)
theorem st0_bit {d : Dw} (hd : Okd d) (g w : Nat) : (st0 d g).testBit w = true ↔ stU d g w := by
  unfold st0 stU
  rw [msk_bit]
  simp only [Bool.and_eq_true, decide_eq_true_eq, List.any_eq_true, List.mem_range]
  constructor
  · rintro ⟨_, u, _, h1, h2⟩
    exact ⟨u, h1, h2⟩
  · rintro ⟨u, h1, h2⟩
    refine ⟨?_, u, ?_, h1, h2⟩
    · rcases Nat.lt_or_ge w (dn d) with q | q
      · exact q
      · rw [hd.2.2.2.2.2.1 w u (Or.inl q)] at h2; omega
    · rcases Nat.lt_or_ge u 8 with q | q
      · exact q
      · rw [hd.2.2.2.2.2.1 w u (Or.inr q)] at h2; omega
theorem st0_lt {d : Dw} (g w : Nat) (h : (st0 d g).testBit w = true) : w < dn d := bit_lt (msk_lt _ _) h
theorem need_bit {d : Dw} (hd : Okd d) (g w : Nat) : (need d g).testBit w = true ↔ Clo (dfd d) (stU d g) w := roundsM hd (st0_bit hd g) (st0_lt g) (Nat.le_succ _) w
theorem itr_lt {F : Nat → Nat} {m : Nat} (h : ∀ x, x < m → F x < m) {x : Nat} (hx : x < m) : ∀ k, itr F k x < m
  | 0 => hx
  | k + 1 => h _ (itr_lt h hx k)
theorem need_lt {d : Dw} (hd : Okd d) (g : Nat) : need d g < 64 := itr_lt (fun _ hx => swM_lt hx _ hd.1) (Nat.lt_of_lt_of_le (msk_lt _ _) (Nat.pow_le_pow_right (by decide) hd.1)) _
theorem need_n {d : Dw} (hd : Okd d) {g w : Nat} (h : (need d g).testBit w = true) : w < dn d := by
  have h1 := (need_bit hd g w).mp h
  exact h1 (fun w => w < dn d) (fun i ⟨u, _, hu⟩ => by
    rcases Nat.lt_or_ge i (dn d) with q | q
    · exact q
    · rw [hd.2.2.2.2.2.1 i u (Or.inl q)] at hu; omega) (fun a b _ hf => fd_lt hd a b hf)
/-- what a needed work uses is needed -/
theorem need_closed {d : Dw} (hd : Okd d) {g a b : Nat} (h : (need d g).testBit b = true) (hf : 0 < dfd d a b) : (need d g).testBit a = true := (need_bit hd g a).mpr (((need_bit hd g b).mp h).step hf)
theorem need_base {d : Dw} (hd : Okd d) {g w u : Nat} (h : g.testBit u = true) (hf : 0 < dus d w u) : (need d g).testBit w = true := (need_bit hd g w).mpr (Clo.base ⟨u, h, hf⟩)
theorem need_mono {d : Dw} (hd : Okd d) {g h : Nat} (hs : sub g h) : sub (need d g) (need d h) := fun w hw => (need_bit hd h w).mpr (((need_bit hd g w).mp hw).mono (fun _ ⟨u, h1, h2⟩ => ⟨u, hs u h1, h2⟩))
/-- a set needs what one of its users needs alone -/
theorem need_or {d : Dw} (hd : Okd d) (g w : Nat) : (need d g).testBit w = true ↔ ∃ u, g.testBit u = true ∧ (need d (2 ^ u)).testBit w = true := by
  rw [need_bit hd]
  have h1 : Clo (dfd d) (stU d g) w ↔ ∃ u, g.testBit u = true ∧ Clo (dfd d) (fun i => 0 < dus d i u) w := Clo.union (ι := fun u => g.testBit u = true) (s := fun u i => 0 < dus d i u)
  rw [h1]
  constructor
  · rintro ⟨u, h2, h3⟩
    refine ⟨u, h2, (need_bit hd _ w).mpr (h3.mono (fun i hi => ⟨u, ?_, hi⟩))⟩
    rw [pow_bit]; simp
  · rintro ⟨u, h2, h3⟩
    refine ⟨u, h2, ((need_bit hd _ w).mp h3).mono (fun i ⟨v, hv, hi⟩ => ?_)⟩
    rw [pow_bit] at hv
    simp at hv
    subst hv
    exact hi
