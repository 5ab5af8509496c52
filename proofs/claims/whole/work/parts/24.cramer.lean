/-! ===== pure: Cramer's rule by one more column; matrices of works: the determinant is positive, the prices are not negative ===== -/
def rpc (B : Nat → Nat → Int) (b : Nat → Int) (j i c : Nat) : Int := if c = j then b i else B i c
def full (k : Nat) : Nat := 2 ^ k - 1
def dt (k : Nat) (B : Nat → Nat → Int) : Int := lpl ((List.range k).map B) (full k)
def nu (k : Nat) (B : Nat → Nat → Int) (b : Nat → Int) (j : Nat) : Int := dt k (rpc B b j)
/-- rows that agree on the columns of a mask give the same -/
theorem lpl_on {A B : Nat → Nat → Int} {P : Nat → Prop} : ∀ (l : List Nat), (∀ i ∈ l, ∀ c, P c → A i c = B i c) → ∀ C, C < 128 → (∀ c, C.testBit c = true → P c) → lpl (l.map A) C = lpl (l.map B) C
  | [], _, _, _, _ => rfl
  | i :: l, h, C, hC, hP => by
    refine fb_si_cong (fun c _ => ?_)
    cases hb : C.testBit c with
    | false => rfl
    | true =>
      simp only [if_true]
      rw [h i List.mem_cons_self c (hP c hb), lpl_on l (fun a ha => h a (List.mem_cons_of_mem _ ha)) (del C c) (del_lt hC c) (fun d hd => hP d (by
        rw [del_bit (Nat.lt_trans hC (by decide))] at hd
        simp at hd
        exact hd.1))]
def okE (C j c : Nat) : Bool := C.testBit j || ((!C.testBit c || ((sL (C ||| 64) c * sg (cg (del C c) j) == sg (cg C j) * sL (C ||| 2 ^ j) c) && del (C ||| 64) c == del C c ||| 64 && del (C ||| 2 ^ j) c == del C c ||| 2 ^ j && !(del C c).testBit j)) && (sL (C ||| 64) 6 == sg (cg C j) * sL (C ||| 2 ^ j) j) && del (C ||| 64) 6 == C && del (C ||| 2 ^ j) j == C)
theorem okE_all : ∀ C, C < 64 → ∀ j, j < 6 → ∀ c, c < 6 → okE C j c = true := by decide +kernel
theorem or64 {C c : Nat} (hC : C < 64) (hc : c < 6) : (C ||| 64).testBit c = C.testBit c := by
  rw [Nat.testBit_or, show (64 : Nat) = 2 ^ 6 by decide, pow_bit]
  simp [show ¬ 6 = c by omega]
theorem or64_6 {C : Nat} : (C ||| 64).testBit 6 = true := by
  rw [Nat.testBit_or, show (64 : Nat) = 2 ^ 6 by decide, pow_bit]
  simp
/-- the column b at the place 6, and in the place of j -/
theorem ext_repl {B : Nat → Nat → Int} {b : Nat → Int} {j : Nat} (hj : j < 6) : ∀ (l : List Nat) (C : Nat), C < 64 → C.testBit j = false → lpl (l.map (rpc B b 6)) (C ||| 64) = sg (cg C j) * lpl (l.map (rpc B b j)) (C ||| 2 ^ j)
  | [], C, hC, hCj => by
    show dl (C ||| 64) = sg (cg C j) * dl (C ||| 2 ^ j)
    have h1 : ¬ C ||| 64 = 0 := fun h => by have := or64_6 (C := C); rw [h] at this; simp at this
    have h2 : ¬ C ||| 2 ^ j = 0 := fun h => by
      have : (C ||| 2 ^ j).testBit j = true := by rw [Nat.testBit_or, pow_bit]; simp
      rw [h] at this; simp at this
    unfold dl
    rw [if_neg h1, if_neg h2, Int.mul_zero]
  | i :: l, C, hC, hCj => by
    have hC6 : C.testBit 6 = false := Nat.testBit_lt_two_pow (show C < 2 ^ 6 from hC)
    have ok := fun c hc => okE_all C hC j hj c hc
    simp only [okE, hCj, Bool.false_or, Bool.and_eq_true, Bool.or_eq_true, beq_iff_eq, Bool.not_eq_true'] at ok
    obtain ⟨⟨⟨-, o2⟩, o3⟩, o4⟩ := ok j hj
    -- the sum on the left
    have hL : Lop (rpc B b 6 i) (lpl (l.map (rpc B b 6))) (C ||| 64) = fb_si (fun c => if C.testBit c then sg (cg C j) * (sL (C ||| 2 ^ j) c * B i c * lpl (l.map (rpc B b j)) (del C c ||| 2 ^ j)) else 0) 6 + sg (cg C j) * sL (C ||| 2 ^ j) j * b i * lpl (l.map (rpc B b j)) C := by
      unfold Lop
      rw [fb_si_succ]
      congr 1
      · refine fb_si_cong (fun c hc => ?_)
        rw [or64 hC hc]
        cases hb : C.testBit c with
        | false => rfl
        | true =>
          simp only [if_true]
          obtain ⟨⟨⟨o1, -⟩, -⟩, -⟩ := ok c hc
          rcases o1 with o1 | ⟨⟨⟨s1, s2⟩, s3⟩, s4⟩
          · rw [hb] at o1; cases o1
          · rw [s2, ext_repl hj l (del C c) (Nat.lt_of_le_of_lt (ldf_le _ _) hC) s4]
            have e : rpc B b 6 i c = B i c := if_neg (by omega)
            rw [e, ← Int.mul_assoc, Int.mul_right_comm (sL (C ||| 64) c) (B i c), s1]
            simp only [Int.mul_assoc]
      · rw [if_pos or64_6, o2, o3]
        have e : rpc B b 6 i 6 = b i := if_pos rfl
        rw [e]
        rw [lpl_on (A := rpc B b 6) (B := rpc B b j) (P := fun c => c ≠ 6 ∧ c ≠ j) l (fun a _ c hc => by unfold rpc; rw [if_neg hc.1, if_neg hc.2]) C (Nat.lt_trans hC (by decide)) (fun c hc => ⟨(fun e => by rw [e, hC6] at hc; cases hc), (fun e => by rw [e, hCj] at hc; cases hc)⟩)]
    have hR : Lop (rpc B b j i) (lpl (l.map (rpc B b j))) (C ||| 2 ^ j) = fb_si (fun c => if C.testBit c then sL (C ||| 2 ^ j) c * B i c * lpl (l.map (rpc B b j)) (del C c ||| 2 ^ j) else 0) 6 + sL (C ||| 2 ^ j) j * b i * lpl (l.map (rpc B b j)) C := by
      unfold Lop
      have hc6 : (C ||| 2 ^ j).testBit 6 = false := by rw [Nat.testBit_or, pow_bit, hC6]; simp [show ¬ j = 6 by omega]
      rw [fb_si_succ, hc6]
      have e1 : fb_si (fun c => if (C ||| 2 ^ j).testBit c then sL (C ||| 2 ^ j) c * rpc B b j i c * lpl (l.map (rpc B b j)) (del (C ||| 2 ^ j) c) else 0) 6 = fb_si (fun c => (if C.testBit c then sL (C ||| 2 ^ j) c * B i c * lpl (l.map (rpc B b j)) (del C c ||| 2 ^ j) else 0) + (if c = j then sL (C ||| 2 ^ j) j * b i * lpl (l.map (rpc B b j)) C else 0)) 6 := by
        refine fb_si_cong (fun c hc => ?_)
        rw [Nat.testBit_or, pow_bit]
        by_cases ec : c = j
        · subst ec
          have e : rpc B b c i c = b i := if_pos rfl
          simp [hCj, e, o4]
        · cases hb : C.testBit c with
          | false => simp [ec, show ¬ j = c from fun q => ec q.symm]
          | true =>
            obtain ⟨⟨⟨o1, -⟩, -⟩, -⟩ := ok c hc
            rcases o1 with o1 | ⟨⟨⟨s1, s2⟩, s3⟩, s4⟩
            · rw [hb] at o1; cases o1
            · have e : rpc B b j i c = B i c := if_neg ec
              simp [ec, e, s3]
      rw [e1, fb_si_add, si_one (w := j) (fun c => if c = j then sL (C ||| 2 ^ j) j * b i * lpl (l.map (rpc B b j)) C else 0) hj (fun c hc => if_neg hc)]
      simp
    show Lop (rpc B b 6 i) (lpl (l.map (rpc B b 6))) (C ||| 64) = sg (cg C j) * Lop (rpc B b j i) (lpl (l.map (rpc B b j))) (C ||| 2 ^ j)
    rw [hL, hR, Int.mul_add, ← fb_si_mul]
    congr 1
    · refine fb_si_cong (fun c _ => ?_)
      cases C.testBit c <;> simp
    · simp only [Int.mul_assoc]
theorem Lop_sum (x : Nat → Int) (E : Nat → Nat → Int) (w : Nat → Int) (C : Nat) : ∀ m, Lop (fun c => fb_si (fun i => x i * E i c) m) w C = fb_si (fun i => x i * Lop (E i) w C) m
  | 0 => by
    show Lop (fun _ => 0) w C = 0
    unfold Lop
    have : (fun c => if C.testBit c = true then sL C c * 0 * w (del C c) else 0) = (fun _ : Nat => (0 : Int)) := funext fun c => by cases C.testBit c <;> simp
    rw [this, si_zero]
  | m + 1 => by
    rw [fb_si_succ, ← Lop_sum x E w C m]
    have h := Lop_lin 1 (x m) (fun c => fb_si (fun i => x i * E i c) m) (E m) w C
    rw [Int.one_mul] at h
    rw [← h]
    congr 1
    funext c
    rw [fb_si_succ, Int.one_mul]
def okK (k c : Nat) : Bool := (sL (full k ||| 64) c * sg (cg (del (full k) c) c) == - sg k) && (sL (full k ||| 64) 6 == sg k) && (del (full k ||| 64) c == del (full k) c ||| 64) && (del (full k ||| 64) 6 == full k) && (del (full k) c ||| 2 ^ c == full k) && !(del (full k) c).testBit c
theorem okK_all : ∀ k, k < 7 → ∀ c, c < k → okK k c = true := by decide +kernel
theorem ok6_all : ∀ k, k < 7 → (sL (full k ||| 64) 6 == sg k && del (full k ||| 64) 6 == full k) = true := by decide +kernel
theorem full_bit (k i : Nat) : (full k).testBit i = decide (i < k) := Nat.testBit_two_pow_sub_one k i
theorem full_lt {k : Nat} (h : k ≤ 6) : full k < 64 := by
  have h1 : 2 ^ k ≤ 2 ^ 6 := Nat.pow_le_pow_right (by decide) h
  have h2 : (2 : Nat) ^ 6 = 64 := by decide
  have h3 := Nat.two_pow_pos k
  unfold full
  omega
/-- Cramer: any mixture of the rows -/
theorem cramer {k : Nat} (hk : k ≤ 6) (B : Nat → Nat → Int) (b x : Nat → Int) : fb_si (fun c => fb_si (fun i => x i * B i c) k * nu k B b c) k = fb_si (fun i => x i * b i) k * dt k B := by
  have hf := full_lt hk
  have hbig : full k ||| 64 < 128 := or_lt (n := 7) (Nat.lt_trans hf (by decide)) (by decide)
  have hz : Lop (fun c => fb_si (fun i => x i * rpc B b 6 i c) k) (lpl ((List.range k).map (rpc B b 6))) (full k ||| 64) = 0 := by
    rw [Lop_sum, fb_si_cong (g := fun _ => 0) (fun i hi => by
      rw [lpl_mem (List.mem_map.mpr ⟨i, List.mem_range.mpr hi, rfl⟩) _ hbig, Int.mul_zero]), si_zero]
  have ok6 := ok6_all k (by omega)
  simp only [Bool.and_eq_true, beq_iff_eq] at ok6
  unfold Lop at hz
  rw [fb_si_succ, if_pos or64_6, ok6.1, ok6.2] at hz
  dsimp only at hz
  have e6 : fb_si (fun i => x i * rpc B b 6 i 6) k = fb_si (fun i => x i * b i) k := fb_si_cong (fun i _ => by unfold rpc; rw [if_pos rfl])
  have eD : lpl ((List.range k).map (rpc B b 6)) (full k) = dt k B := lpl_on (P := fun c => c < k) _ (fun i _ c hc => if_neg (by omega)) _ (Nat.lt_trans hf (by decide)) (fun c hc => by rw [full_bit] at hc; simpa using hc)
  rw [e6, eD] at hz
  have eS : fb_si (fun c => if (full k ||| 64).testBit c then sL (full k ||| 64) c * fb_si (fun i => x i * rpc B b 6 i c) k * lpl ((List.range k).map (rpc B b 6)) (del (full k ||| 64) c) else 0) 6 = fb_si (fun c => - sg k * (fb_si (fun i => x i * B i c) k * nu k B b c)) k := by
    rw [← si_more (fun c => if c < k then - sg k * (fb_si (fun i => x i * B i c) k * nu k B b c) else 0) (a := k) (fun c hc => if_neg (by omega)) 6 hk |>.trans (fb_si_cong (fun c hc => if_pos hc))]
    refine fb_si_cong (fun c hc => ?_)
    rw [or64 hf hc, full_bit]
    by_cases hck : c < k
    · have ok := okK_all k (by omega) c hck
      simp only [okK, Bool.and_eq_true, beq_iff_eq, Bool.not_eq_true'] at ok
      obtain ⟨⟨⟨⟨⟨o1, -⟩, o3⟩, -⟩, o5⟩, o6⟩ := ok
      rw [if_pos hck, if_pos (by simp [hck]), o3, ext_repl (j := c) hc (List.range k) (del (full k) c) (Nat.lt_of_le_of_lt (ldf_le _ _) hf) o6, o5]
      have e : fb_si (fun i => x i * rpc B b 6 i c) k = fb_si (fun i => x i * B i c) k := fb_si_cong (fun i _ => by unfold rpc; rw [if_neg (by omega)])
      rw [e, ← Int.mul_assoc, Int.mul_right_comm (sL (full k ||| 64) c), o1, Int.mul_assoc]
      rfl
    · rw [if_neg hck, if_neg (by simp [hck])]
  rw [eS, fb_si_mul] at hz
  rw [Int.neg_mul, Int.mul_assoc] at hz
  have h9 : sg k * (fb_si (fun i => x i * b i) k * dt k B) = sg k * fb_si (fun c => fb_si (fun i => x i * B i c) k * nu k B b c) k := by omega
  have h10 := congrArg (fun z => sg k * z) h9
  rw [← Int.mul_assoc, ← Int.mul_assoc, sg_sq, Int.one_mul, ← Int.mul_assoc, sg_sq, Int.one_mul] at h10
  exact h10.symm
