/-! ===== pure: idle rows drop out; the rows that are left, numbered anew ===== -/
theorem filter_len (p : Nat → Bool) : ∀ j, ((List.range j).filter p).length = fb_ct p j
  | 0 => rfl
  | j + 1 => by
    rw [List.range_succ, List.filter_append, List.length_append, filter_len p j, fb_ct_succ]
    cases h : p j <;> simp [h]
theorem sg_sq (n : Nat) : sg n * sg n = 1 := by
  unfold sg
  split <;> rfl
def mkJ (p : Nat → Bool) (j : Nat) : Nat := msk (fun i => decide (j ≤ i) || p i) 6
def lsJ (A : Nat → Nat → Int) (p : Nat → Bool) (j : Nat) : List (Nat → Int) := ((List.range j).filter p ++ List.range' j (6 - j)).map A
theorem mkJ_lt (p : Nat → Bool) (j : Nat) : mkJ p j < 64 := msk_lt _ 6
theorem idle_step (A : Nat → Nat → Int) (p : Nat → Bool) {j : Nat} (hj : j < 6) (hA : p j = false → A j = eu j) : lpl (lsJ A p j) (mkJ p j) = lpl (lsJ A p (j + 1)) (mkJ p (j + 1)) := by
  have hr : List.range' j (6 - j) = j :: List.range' (j + 1) (6 - (j + 1)) := by
    rw [show 6 - j = (6 - (j + 1)) + 1 by omega, List.range'_succ]
  have hm : ∀ i, (mkJ p j).testBit i = (decide (i < 6) && (decide (j ≤ i) || p i)) := fun i => msk_bit _ _ _
  have hm2 : ∀ i, (mkJ p (j + 1)).testBit i = (decide (i < 6) && (decide (j + 1 ≤ i) || p i)) := fun i => msk_bit _ _ _
  cases hp : p j with
  | true =>
    have e1 : mkJ p j = mkJ p (j + 1) := eq_bits fun i => by
      rw [hm, hm2]
      by_cases e : i = j
      · subst e; simp [hp]
      · have : decide (j ≤ i) = decide (j + 1 ≤ i) := by
          by_cases q : j ≤ i
          · simp [q, show j + 1 ≤ i by omega]
          · simp [q, show ¬ j + 1 ≤ i by omega]
        rw [this]
    have e2 : lsJ A p j = lsJ A p (j + 1) := by
      unfold lsJ
      rw [List.range_succ, List.filter_append, hr]
      simp [hp]
    rw [e1, e2]
  | false =>
    have e1 : lsJ A p j = ((List.range j).filter p).map A ++ eu j :: (List.range' (j + 1) (6 - (j + 1))).map A := by
      unfold lsJ
      rw [hr, List.map_append, List.map_cons, hA hp]
    have e2 : lsJ A p (j + 1) = ((List.range j).filter p).map A ++ (List.range' (j + 1) (6 - (j + 1))).map A := by
      unfold lsJ
      rw [List.range_succ, List.filter_append]
      simp [hp]
    have hlt : mkJ p j < 128 := Nat.lt_trans (mkJ_lt p j) (by decide)
    have e3 : del (mkJ p j) j = mkJ p (j + 1) := eq_bits fun i => by
      rw [del_bit (Nat.lt_trans hlt (by decide)), hm, hm2]
      by_cases e : j = i
      · subst e; simp [hp]
      · have : decide (j ≤ i) = decide (j + 1 ≤ i) := by
          by_cases q : j ≤ i
          · simp [q, show j + 1 ≤ i by omega]
          · simp [q, show ¬ j + 1 ≤ i by omega]
        rw [this]; simp [e]
    have e4 : cl (mkJ p j) j = fb_ct p j := fb_ct_cong (fun k hk => by rw [hm]; simp [show k < 6 by omega, show ¬ j ≤ k by omega])
    have hb : (mkJ p j).testBit j = true := by rw [hm]; simp [hj]
    rw [e1, lpl_front (eu j) _ _ _ hlt]
    dsimp only
    rw [L_eu (by omega), if_pos hb, e3, ← e2, List.length_map, filter_len, sL, e4, ← Int.mul_assoc, sg_sq, Int.one_mul]
theorem idle_drop (A : Nat → Nat → Int) (p : Nat → Bool) (hA : ∀ j, j < 6 → p j = false → A j = eu j) : lpl ((List.range 6).map A) 63 = lpl (((List.range 6).filter p).map A) (msk p 6) := by
  have h0 : lpl (lsJ A p 0) (mkJ p 0) = lpl ((List.range 6).map A) 63 := by
    have e : mkJ p 0 = 63 := eq_bits fun i => by
      rw [mkJ, msk_bit, show (63 : Nat) = 2 ^ 6 - 1 by decide, Nat.testBit_two_pow_sub_one]
      simp
    rw [e]
    rfl
  have h6 : lpl (lsJ A p 6) (mkJ p 6) = lpl (((List.range 6).filter p).map A) (msk p 6) := by
    have e : mkJ p 6 = msk p 6 := eq_bits fun i => by
      rw [mkJ, msk_bit, msk_bit]
      by_cases q : i < 6
      · simp [q, show ¬ 6 ≤ i by omega]
      · simp [q]
    rw [e]
    unfold lsJ
    simp
  have key : ∀ j, j ≤ 6 → lpl (lsJ A p 0) (mkJ p 0) = lpl (lsJ A p j) (mkJ p j) := by
    intro j
    induction j with
    | zero => exact fun _ => rfl
    | succ j ih => exact fun h => (ih (by omega)).trans (idle_step A p (by omega) (hA j (by omega)))
  rw [← h0, key 6 (Nat.le_refl 6), h6]
/-! numbering anew: the place of a needed one is how many needed ones stand before it -/
def emb (N C : Nat) : Nat := msk (fun q => N.testBit q && C.testBit (cl N q)) 6
theorem emb_bit (N C i : Nat) : (emb N C).testBit i = (decide (i < 6) && (N.testBit i && C.testBit (cl N i))) := msk_bit _ _ _
theorem cl_succ (N m : Nat) : cl N (m + 1) = cl N m + (if N.testBit m then 1 else 0) := fb_ct_succ _ _
theorem re_sum (N : Nat) (g : Nat → Int) : ∀ m, fb_si (fun q => if N.testBit q then g (cl N q) else 0) m = fb_si g (cl N m)
  | 0 => rfl
  | m + 1 => by
    rw [fb_si_succ, re_sum N g m, cl_succ]
    cases h : N.testBit m with
    | false => simp
    | true => simp [fb_si_succ]
theorem re_ct (N C : Nat) : ∀ m, fb_ct (fun q => N.testBit q && C.testBit (cl N q)) m = fb_ct (fun i => C.testBit i) (cl N m)
  | 0 => rfl
  | m + 1 => by
    rw [fb_ct_succ, re_ct N C m, cl_succ]
    cases h : N.testBit m with
    | false => simp
    | true => simp [fb_ct_succ]
theorem re_list (N : Nat) : ∀ m, ((List.range m).filter (fun q => N.testBit q)).map (cl N) = List.range (cl N m)
  | 0 => rfl
  | m + 1 => by
    rw [List.range_succ, List.filter_append, List.map_append, re_list N m, cl_succ]
    cases h : N.testBit m with
    | false => simp [h]
    | true => simp [h, List.range_succ]
theorem cl_emb (N C : Nat) {q : Nat} (hq : q ≤ 6) : cl (emb N C) q = cl C (cl N q) := by
  show fb_ct (fun i => (emb N C).testBit i) q = _
  rw [fb_ct_cong (q := fun q => N.testBit q && C.testBit (cl N q)) (fun k hk => by rw [emb_bit]; simp [show k < 6 by omega]), re_ct]
  rfl
theorem emb_lt (N C : Nat) : emb N C < 128 := Nat.lt_trans (msk_lt _ 6) (by decide)
theorem emb_del {N C q : Nat} (hC : C < 128) (hN : N.testBit q = true) : del (emb N C) q = emb N (del C (cl N q)) := eq_bits fun i => by
  rw [del_bit (Nat.lt_trans (emb_lt N C) (by decide)), emb_bit, emb_bit, del_bit (Nat.lt_trans hC (by decide))]
  by_cases e : q = i
  · subst e; simp
  · cases hi : N.testBit i with
    | false => simp
    | true =>
      have : ¬ cl N q = cl N i := fun h => e (fb_ct_kth_one (p := fun i => N.testBit i) hN hi h)
      simp [this, e]
theorem si_more (f : Nat → Int) {a : Nat} (h : ∀ k, a ≤ k → f k = 0) : ∀ b, a ≤ b → fb_si f b = fb_si f a
  | 0, hb => by rw [show a = 0 by omega]
  | b + 1, hb => by
    by_cases e : a = b + 1
    · rw [e]
    · rw [fb_si_succ, si_more f h b (by omega), h b (by omega)]; omega
theorem cl_le (N m : Nat) : cl N m ≤ m := fb_ct_le _ _
theorem compact_op {N C : Nat} (hN : N < 64) (hC : C < 2 ^ cl N 6) {r r' w w' : Nat → Int} (hr : ∀ q, q < 6 → N.testBit q = true → r q = r' (cl N q)) (hw : ∀ D, D < 2 ^ cl N 6 → w (emb N D) = w' D) : Lop r w (emb N C) = Lop r' w' C := by
  have hk6 : cl N 6 ≤ 6 := cl_le N 6
  have hC2 : C < 128 := Nat.lt_of_lt_of_le hC (Nat.le_trans (Nat.pow_le_pow_right (by decide) hk6) (by decide))
  have hb : ∀ k, cl N 6 ≤ k → C.testBit k = false := fun k hk => Nat.testBit_lt_two_pow (Nat.lt_of_lt_of_le hC (Nat.pow_le_pow_right (by decide) hk))
  unfold Lop
  have h1 : fb_si (fun c => if C.testBit c then sL C c * r' c * w' (del C c) else 0) 7 = fb_si (fun c => if C.testBit c then sL C c * r' c * w' (del C c) else 0) (cl N 6) := si_more _ (fun k hk => by rw [hb k hk]; rfl) 7 (by omega)
  have h2 : fb_si (fun c => if (emb N C).testBit c then sL (emb N C) c * r c * w (del (emb N C) c) else 0) 7 = fb_si (fun c => if (emb N C).testBit c then sL (emb N C) c * r c * w (del (emb N C) c) else 0) 6 := si_more _ (fun k hk => by rw [emb_bit]; simp [show ¬ k < 6 by omega]) 7 (by omega)
  rw [h1, h2, ← re_sum]
  refine fb_si_cong (fun q hq => ?_)
  rw [emb_bit]
  cases hNq : N.testBit q with
  | false => simp
  | true =>
    cases hCq : C.testBit (cl N q) with
    | false => simp
    | true =>
      simp only [hq, decide_true, Bool.and_self, if_true]
      rw [emb_del hC2 hNq, hw (del C (cl N q)) (Nat.lt_of_le_of_lt (ldf_le _ _) hC), hr q hq hNq, sL, sL, cl_emb N C (by omega)]
theorem compact_rows {N : Nat} (hN : N < 64) {A B : Nat → Nat → Int} (hAB : ∀ a q, a < 6 → q < 6 → N.testBit a = true → N.testBit q = true → A a q = B (cl N a) (cl N q)) : ∀ (l : List Nat), (∀ a ∈ l, a < 6 ∧ N.testBit a = true) → ∀ C, C < 2 ^ cl N 6 → lpl (l.map A) (emb N C) = lpl ((l.map (cl N)).map B) C
  | [], _, C, hC => by
    show dl (emb N C) = dl C
    unfold dl
    by_cases e : C = 0
    · subst e
      have : emb N 0 = 0 := eq_bits fun i => by rw [emb_bit]; simp
      rw [this]
    · rw [if_neg e, if_neg]
      intro h
      apply e
      refine eq_bits fun i => ?_
      rw [Nat.zero_testBit]
      cases hi : C.testBit i with
      | false => rfl
      | true =>
        have hlt : i < cl N 6 := bit_lt hC hi
        obtain ⟨q, hq, hq2, hq3⟩ := fb_ct_kth (p := fun i => N.testBit i) (n := 6) hlt
        have : (emb N C).testBit q = true := by
          rw [emb_bit]
          have h3 : cl N q = i := hq3
          simp only [h3, hi, hq, decide_true, Bool.true_and, Bool.and_true]
          exact hq2
        rw [h] at this
        simp at this
  | a :: l, h, C, hC => by
    show Lop (A a) (lpl (l.map A)) (emb N C) = Lop (B (cl N a)) (lpl ((l.map (cl N)).map B)) C
    have ha := h a List.mem_cons_self
    exact compact_op hN hC (fun q hq hNq => hAB a q ha.1 hq ha.2 hNq) (fun D hD => compact_rows hN hAB l (fun b hb => h b (List.mem_cons_of_mem _ hb)) D hD)
theorem emb_all {N : Nat} (hN : N < 64) : emb N (2 ^ cl N 6 - 1) = N := eq_bits fun i => by
  rw [emb_bit, Nat.testBit_two_pow_sub_one]
  cases hi : N.testBit i with
  | false => simp
  | true =>
    have h6 : i < 6 := bit_lt (n := 6) hN hi
    have hlt : cl N i < cl N 6 := by
      have h1 : cl N (i + 1) = cl N i + 1 := by rw [cl_succ, hi]; rfl
      have h2 : cl N (i + 1) ≤ cl N 6 := fb_ct_mono _ (by omega)
      omega
    simp [h6, hlt]
/-- the six rows of the class, and the rows of the reference -/
theorem det_same {N : Nat} (hN : N < 64) {A B : Nat → Nat → Int} (hAB : ∀ a q, a < 6 → q < 6 → N.testBit a = true → N.testBit q = true → A a q = B (cl N a) (cl N q)) (hA : ∀ j, j < 6 → N.testBit j = false → A j = eu j) : rpl ((List.range 6).map A) dl 63 = lpl ((List.range (cl N 6)).map B) (2 ^ cl N 6 - 1) := by
  rw [← lpl_rpl _ 63 (by decide), idle_drop A (fun q => N.testBit q) hA]
  have e : msk (fun q => N.testBit q) 6 = N := eq_bits fun i => by
    rw [msk_bit]
    by_cases q : i < 6
    · simp [q]
    · have hN2 : N < 2 ^ i := Nat.lt_of_lt_of_le (show N < 2 ^ 6 from hN) (Nat.pow_le_pow_right (by decide) (by omega))
      rw [Nat.testBit_lt_two_pow hN2]; simp
  rw [e]
  have h := compact_rows hN hAB ((List.range 6).filter (fun q => N.testBit q)) (fun a ha => by
    rw [List.mem_filter, List.mem_range] at ha
    exact ha) (2 ^ cl N 6 - 1) (by have := Nat.two_pow_pos (cl N 6); omega)
  rw [emb_all hN, re_list] at h
  exact h
