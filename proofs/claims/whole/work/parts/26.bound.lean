/-! ===== pure: bounds ===== -/
theorem na_si (f : Nat → Int) : ∀ n, (fb_si f n).natAbs ≤ fb_sm (fun c => (f c).natAbs) n
  | 0 => Nat.le_refl 0
  | n + 1 => by
    rw [fb_si_succ, fb_sm_succ]
    have h1 := na_si f n
    have h2 := Int.natAbs_add_le (fb_si f n) (f n)
    omega
theorem sg_na (n : Nat) : (sg n).natAbs = 1 := by unfold sg; split <;> rfl
theorem na_term (C c : Nat) (r w : Int) : (sL C c * r * w).natAbs = r.natAbs * w.natAbs := by
  rw [Int.natAbs_mul, Int.natAbs_mul, sL, sg_na, Nat.one_mul]
def rsum (r : Nat → Int) (C : Nat) : Nat := fb_sm (fun c => if C.testBit c then (r c).natAbs else 0) 7
theorem sm_mul (c : Nat) (f : Nat → Nat) : ∀ n, fb_sm (fun k => f k * c) n = fb_sm f n * c
  | 0 => (Nat.zero_mul c).symm
  | n + 1 => by rw [fb_sm_succ, fb_sm_succ, sm_mul c f n, Nat.add_mul]
theorem Lop_bd {r w : Nat → Int} {C W : Nat} (h : ∀ c, C.testBit c = true → (w (del C c)).natAbs ≤ W) : (Lop r w C).natAbs ≤ rsum r C * W := by
  refine Nat.le_trans (na_si _ 7) ?_
  unfold rsum
  rw [← sm_mul]
  refine fb_sm_le (fun c _ => ?_)
  cases hb : C.testBit c with
  | false => simp
  | true =>
    simp only [if_true]
    rw [na_term]
    exact Nat.mul_le_mul_left _ (h c hb)
theorem rsum_mono {r : Nat → Int} {C D : Nat} (h : sub C D) : rsum r C ≤ rsum r D := by
  refine fb_sm_le (fun c _ => ?_)
  cases hb : C.testBit c with
  | false => simp
  | true => rw [h c hb]; exact Nat.le_refl _
theorem del_sub {C : Nat} (hC : C < 128) (c : Nat) : sub (del C c) C := fun i hi => by
  rw [del_bit (Nat.lt_trans hC (by decide))] at hi
  simp at hi
  exact hi.1
theorem lpl_bd {B : Nat → Nat → Int} {R F : Nat} : ∀ (l : List Nat), (∀ i ∈ l, rsum (B i) F ≤ R) → ∀ C, C < 128 → sub C F → (lpl (l.map B) C).natAbs ≤ R ^ l.length
  | [], _, C, _, _ => by
    show (dl C).natAbs ≤ 1
    unfold dl
    split <;> decide
  | i :: l, h, C, hC, hs => by
    have h1 := Lop_bd (r := B i) (w := lpl (l.map B)) (C := C) (W := R ^ l.length) (fun c _ => lpl_bd l (fun a ha => h a (List.mem_cons_of_mem _ ha)) _ (del_lt hC c) (sub_trans (del_sub hC c) hs))
    refine Nat.le_trans h1 ?_
    rw [List.length_cons, Nat.pow_succ, Nat.mul_comm]
    exact Nat.mul_le_mul_left _ (Nat.le_trans (rsum_mono hs) (h i List.mem_cons_self))
theorem dt_bd {k : Nat} (hk : k ≤ 6) {B : Nat → Nat → Int} {R : Nat} (h : ∀ i, i < k → rsum (B i) (full k) ≤ R) : (dt k B).natAbs ≤ R ^ k := by
  have := lpl_bd (B := B) (R := R) (F := full k) (List.range k) (fun i hi => h i (List.mem_range.mp hi)) (full k) (Nat.lt_trans (full_lt hk) (by decide)) (sub_refl _)
  rw [List.length_range] at this
  exact this
def lsm (b : Nat → Int) : List Nat → Nat
  | [] => 0
  | i :: l => (b i).natAbs + lsm b l
theorem rpc_bd {B : Nat → Nat → Int} {b : Nat → Int} {j R F : Nat} (hj : j < 7) : ∀ (l : List Nat), (∀ i ∈ l, rsum (B i) F ≤ R) → ∀ C, C < 128 → sub C F → C.testBit j = true → (lpl (l.map (rpc B b j)) C).natAbs * R ≤ lsm b l * R ^ l.length
  | [], _, C, _, _, hb => by
    have : lpl ([].map (rpc B b j)) C = 0 := by
      show dl C = 0
      unfold dl
      rw [if_neg]
      intro e
      rw [e] at hb
      simp at hb
    rw [this]
    simp
  | i :: l, h, C, hC, hs, hb => by
    have ih := rpc_bd (b := b) hj l (fun a ha => h a (List.mem_cons_of_mem _ ha))
    have hR := h i List.mem_cons_self
    have hlow := lpl_bd (B := B) (R := R) (F := F) l (fun a ha => h a (List.mem_cons_of_mem _ ha)) (del C j) (del_lt hC j) (sub_trans (del_sub hC j) hs)
    have elow : lpl (l.map (rpc B b j)) (del C j) = lpl (l.map B) (del C j) := lpl_on (P := fun c => c ≠ j) l (fun a _ c hc => if_neg hc) _ (del_lt hC j) (fun c hc e => by
      subst e
      rw [del_bit (Nat.lt_trans hC (by decide))] at hc
      simp at hc)
    show (Lop (rpc B b j i) (lpl (l.map (rpc B b j))) C).natAbs * R ≤ ((b i).natAbs + lsm b l) * R ^ (l.length + 1)
    have h1 : (Lop (rpc B b j i) (lpl (l.map (rpc B b j))) C).natAbs * R ≤ fb_sm (fun c => (if c = j then (b i).natAbs * R ^ l.length * R else 0) + (if C.testBit c then (B i c).natAbs else 0) * (lsm b l * R ^ l.length)) 7 := by
      refine Nat.le_trans (Nat.mul_le_mul_right R (na_si _ 7)) ?_
      rw [← sm_mul]
      refine fb_sm_le (fun c hc => ?_)
      by_cases e : c = j
      · subst e
        rw [hb]
        simp only [if_true]
        rw [na_term, elow]
        have e2 : rpc B b c i c = b i := if_pos rfl
        rw [e2]
        have := Nat.mul_le_mul_right R (Nat.mul_le_mul_left (b i).natAbs hlow)
        omega
      · cases hbc : C.testBit c with
        | false => simp
        | true =>
          simp only [if_true, if_neg e, Nat.zero_add]
          rw [na_term]
          have e2 : rpc B b j i c = B i c := if_neg e
          rw [e2, Nat.mul_assoc]
          exact Nat.mul_le_mul_left _ (ih (del C c) (del_lt hC c) (sub_trans (del_sub hC c) hs) (by rw [del_bit (Nat.lt_trans hC (by decide)), hb]; simp [e]))
    refine Nat.le_trans h1 ?_
    rw [fb_sm_add, sm_mul]
    have e1 : fb_sm (fun c => if c = j then (b i).natAbs * R ^ l.length * R else 0) 7 = (b i).natAbs * R ^ l.length * R := by
      have h9 := fb_sm_upd (fun _ => 0) ((b i).natAbs * R ^ l.length * R) (i := j) (n := 7) hj
      rw [fb_sm_const] at h9
      simpa using h9
    have e2 : rsum (B i) C * (lsm b l * R ^ l.length) ≤ R * (lsm b l * R ^ l.length) := Nat.mul_le_mul_right _ (Nat.le_trans (rsum_mono hs) hR)
    have e3 : fb_sm (fun c => if C.testBit c then (B i c).natAbs else 0) 7 = rsum (B i) C := rfl
    rw [e1, e3, Nat.add_mul, Nat.pow_succ]
    have e5 : (b i).natAbs * R ^ l.length * R = (b i).natAbs * (R ^ l.length * R) := Nat.mul_assoc _ _ _
    have e4 : R * (lsm b l * R ^ l.length) = lsm b l * (R ^ l.length * R) := by rw [Nat.mul_left_comm, Nat.mul_comm R]
    omega
theorem nu_bd {k : Nat} (hk : k ≤ 6) {B : Nat → Nat → Int} {b : Nat → Int} {R j : Nat} (hj : j < k) (h : ∀ i, i < k → rsum (B i) (full k) ≤ R) : (nu k B b j).natAbs * R ≤ lsm b (List.range k) * R ^ k := by
  have := rpc_bd (B := B) (b := b) (R := R) (F := full k) (j := j) (by omega) (List.range k) (fun i hi => h i (List.mem_range.mp hi)) (full k) (Nat.lt_trans (full_lt hk) (by decide)) (sub_refl _) (by rw [full_bit]; simp [hj])
  rw [List.length_range] at this
  exact this
