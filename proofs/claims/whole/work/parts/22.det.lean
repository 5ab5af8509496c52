/-! ===== pure: minors by masks of columns; rows put before (Lop) and behind (Rop) ===== -/
theorem si_zero : ∀ n, fb_si (fun _ => 0) n = 0
  | 0 => rfl
  | n + 1 => by rw [fb_si_succ, si_zero n]; rfl
theorem si_swap (f : Nat → Nat → Int) (m : Nat) : ∀ n, fb_si (fun c => fb_si (fun d => f c d) m) n = fb_si (fun d => fb_si (fun c => f c d) n) m
  | 0 => (si_zero m).symm
  | n + 1 => by
    rw [fb_si_succ, si_swap f m n, ← fb_si_add]
    exact fb_si_cong (fun d _ => (fb_si_succ _ n).symm)
theorem si_neg (f : Nat → Int) (n : Nat) : fb_si (fun k => - f k) n = - fb_si f n := by
  have h := fb_si_mul (-1) f n
  rw [show (fun k => -1 * f k) = (fun k => - f k) from funext fun k => by omega] at h
  omega
def del (C c : Nat) : Nat := ldf C (2 ^ c)
def cl (C c : Nat) : Nat := fb_ct (fun i => C.testBit i) c
def cg (C c : Nat) : Nat := fb_ct (fun i => C.testBit (c + 1 + i)) 7
def sg (n : Nat) : Int := if n % 2 = 0 then 1 else -1
def sL (C c : Nat) : Int := sg (cl C c)
def sR (C c : Nat) : Int := sg (cg C c)
theorem del_lt {C : Nat} (h : C < 128) (c : Nat) : del C c < 128 := Nat.lt_of_le_of_lt (ldf_le _ _) h
theorem del_bit {C : Nat} (h : C < 2 ^ 32) (c i : Nat) : (del C c).testBit i = (C.testBit i && !decide (c = i)) := by rw [del, ldf_bit h, pow_bit]
def Lop (r : Nat → Int) (w : Nat → Int) (C : Nat) : Int := fb_si (fun c => if C.testBit c then sL C c * r c * w (del C c) else 0) 7
def Rop (r : Nat → Int) (w : Nat → Int) (C : Nat) : Int := fb_si (fun c => if C.testBit c then sR C c * r c * w (del C c) else 0) 7
def EqM (v w : Nat → Int) : Prop := ∀ C, C < 128 → v C = w C
theorem EqM.refl (v : Nat → Int) : EqM v v := fun _ _ => rfl
theorem EqM.symm {v w : Nat → Int} (h : EqM v w) : EqM w v := fun C hC => (h C hC).symm
theorem EqM.trans {u v w : Nat → Int} (h : EqM u v) (g : EqM v w) : EqM u w := fun C hC => (h C hC).trans (g C hC)
theorem Lop_congr {r : Nat → Int} {v w : Nat → Int} (h : EqM v w) : EqM (Lop r v) (Lop r w) := fun C hC => fb_si_cong (fun c _ => by rw [h _ (del_lt hC c)])
theorem Rop_congr {r : Nat → Int} {v w : Nat → Int} (h : EqM v w) : EqM (Rop r v) (Rop r w) := fun C hC => fb_si_cong (fun c _ => by rw [h _ (del_lt hC c)])
def okLR (C c d : Nat) : Bool := ((C.testBit c && (del C c).testBit d) == (C.testBit d && (del C d).testBit c)) && (!(C.testBit c && (del C c).testBit d) || (sL C c * sR (del C c) d == sR C d * sL (del C d) c)) && (del (del C c) d == del (del C d) c)
def okLL (C c d : Nat) : Bool := !(C.testBit c && (del C c).testBit d) || (sL C c * sL (del C c) d == - (sL C d * sL (del C d) c))
theorem okLR_all : ∀ C, C < 128 → ∀ c, c < 7 → ∀ d, d < 7 → okLR C c d = true := by decide +kernel
theorem okLL_all : ∀ C, C < 128 → ∀ c, c < 7 → ∀ d, d < 7 → okLL C c d = true := by decide +kernel
theorem mul3 (a b c d e : Int) : a * b * (c * d * e) = a * c * (b * (d * e)) := by
  rw [Int.mul_assoc, Int.mul_assoc c d e, Int.mul_left_comm b c, ← Int.mul_assoc a c]
theorem two_sum {f g : Nat → Nat → Int} {P : Nat → Bool} {Q : Nat → Nat → Bool} : fb_si (fun c => if P c then f c 0 * fb_si (fun d => if Q c d then g c d else 0) 7 else 0) 7 = fb_si (fun c => fb_si (fun d => if P c && Q c d then f c 0 * g c d else 0) 7) 7 := by
  refine fb_si_cong (fun c _ => ?_)
  cases hP : P c with
  | false => simp [si_zero]
  | true =>
    simp only [if_true, Bool.true_and]
    rw [← fb_si_mul]
    refine fb_si_cong (fun d _ => ?_)
    cases Q c d <;> simp
theorem LR_comm (r s w : Nat → Int) : EqM (Lop r (Rop s w)) (Rop s (Lop r w)) := by
  intro C hC
  have h1 := two_sum (f := fun c _ => sL C c * r c) (g := fun c d => sR (del C c) d * s d * w (del (del C c) d)) (P := fun c => C.testBit c) (Q := fun c d => (del C c).testBit d)
  have h2 := two_sum (f := fun d _ => sR C d * s d) (g := fun d c => sL (del C d) c * r c * w (del (del C d) c)) (P := fun d => C.testBit d) (Q := fun d c => (del C d).testBit c)
  refine h1.trans (Eq.trans ?_ h2.symm)
  rw [si_swap]
  refine fb_si_cong (fun d hd => fb_si_cong (fun c hc => ?_))
  have ok := okLR_all C hC c hc d hd
  simp only [okLR, Bool.and_eq_true, beq_iff_eq] at ok
  obtain ⟨⟨e1, e2⟩, e3⟩ := ok
  rw [e1] at e2 ⊢
  rw [e3]
  cases hb : (C.testBit d && (del C d).testBit c) with
  | false => rfl
  | true =>
    rw [hb] at e2
    simp only [Bool.not_true, Bool.false_or, beq_iff_eq] at e2
    simp only [if_true]
    rw [mul3, e2, mul3, Int.mul_comm (r c) (s d * w _), Int.mul_assoc (s d), Int.mul_comm (w _) (r c)]
theorem LL_anti (a b w : Nat → Int) : EqM (Lop a (Lop b w)) (fun C => - Lop b (Lop a w) C) := by
  intro C hC
  have h1 := two_sum (f := fun c _ => sL C c * a c) (g := fun c d => sL (del C c) d * b d * w (del (del C c) d)) (P := fun c => C.testBit c) (Q := fun c d => (del C c).testBit d)
  have h2 := two_sum (f := fun d _ => sL C d * b d) (g := fun d c => sL (del C d) c * a c * w (del (del C d) c)) (P := fun d => C.testBit d) (Q := fun d c => (del C d).testBit c)
  refine h1.trans (Eq.trans ?_ (congrArg (fun z => - z) h2.symm))
  rw [si_swap, ← si_neg]
  refine fb_si_cong (fun d hd => ?_)
  rw [← si_neg]
  refine fb_si_cong (fun c hc => ?_)
  have ok := okLR_all C hC c hc d hd
  have ok2 := okLL_all C hC c hc d hd
  simp only [okLR, Bool.and_eq_true, beq_iff_eq] at ok
  obtain ⟨⟨e1, -⟩, e3⟩ := ok
  unfold okLL at ok2
  rw [e1] at ok2 ⊢
  rw [e3]
  cases hb : (C.testBit d && (del C d).testBit c) with
  | false => simp
  | true =>
    rw [hb] at ok2
    simp only [Bool.not_true, Bool.false_or, beq_iff_eq] at ok2
    simp only [if_true]
    rw [mul3, ok2, mul3, Int.mul_comm (a c) (b d * w _), Int.mul_assoc (b d), Int.mul_comm (w _) (a c), Int.neg_mul]
theorem Lop_lin (x y : Int) (a b w : Nat → Int) (C : Nat) : Lop (fun c => x * a c + y * b c) w C = x * Lop a w C + y * Lop b w C := by
  unfold Lop
  rw [← fb_si_mul, ← fb_si_mul, ← fb_si_add]
  refine fb_si_cong (fun c _ => ?_)
  cases C.testBit c with
  | false => simp
  | true =>
    simp only [if_true]
    rw [Int.mul_add, Int.add_mul]
    congr 1
    · rw [Int.mul_left_comm, Int.mul_assoc]
    · rw [Int.mul_left_comm, Int.mul_assoc]
theorem Lop_smul (x : Int) (a w : Nat → Int) (C : Nat) : Lop a (fun D => x * w D) C = x * Lop a w C := by
  unfold Lop
  rw [← fb_si_mul]
  refine fb_si_cong (fun c _ => ?_)
  cases C.testBit c with
  | false => simp
  | true =>
    simp only [if_true]
    rw [Int.mul_left_comm]
theorem Lop_neg (a w : Nat → Int) (C : Nat) : Lop a (fun D => - w D) C = - Lop a w C := by
  have h := Lop_smul (-1) a w C
  rw [show (fun D => -1 * w D) = (fun D => - w D) from funext fun D => by omega] at h
  omega
theorem Lop_zero (a : Nat → Int) (C : Nat) : Lop a (fun _ => 0) C = 0 := by
  unfold Lop
  have : (fun c => if C.testBit c = true then sL C c * a c * 0 else 0) = (fun _ : Nat => (0 : Int)) := funext fun c => by cases C.testBit c <;> simp
  rw [this, si_zero]
/-- a row twice: nothing -/
theorem LL_same (a w : Nat → Int) (C : Nat) (hC : C < 128) : Lop a (Lop a w) C = 0 := by
  have h := LL_anti a a w C hC
  dsimp only at h
  omega
def dl (C : Nat) : Int := if C = 0 then 1 else 0
def okD (C c : Nat) : Bool := !(C.testBit c && del C c == 0) || (sL C c == 1 && sR C c == 1)
theorem okD_all : ∀ C, C < 128 → ∀ c, c < 7 → okD C c = true := by decide +kernel
theorem LR_dl (a : Nat → Int) : EqM (Lop a dl) (Rop a dl) := by
  intro C hC
  refine fb_si_cong (fun c hc => ?_)
  have ok := okD_all C hC c hc
  unfold okD at ok
  by_cases hz : del C c = 0
  · cases hb : C.testBit c with
    | false => rfl
    | true =>
      simp [hb, hz] at ok
      rw [ok.1, ok.2]
  · simp [dl, hz]
/-- rows, the first put on last -/
def lpl : List (Nat → Int) → Nat → Int
  | [] => dl
  | r :: rs => Lop r (lpl rs)
def rpl : List (Nat → Int) → (Nat → Int) → Nat → Int
  | [], w => w
  | r :: rs, w => rpl rs (Rop r w)
theorem rpl_congr {v w : Nat → Int} : ∀ (rs : List (Nat → Int)), EqM v w → EqM (rpl rs v) (rpl rs w)
  | [], h => h
  | _ :: rs, h => rpl_congr rs (Rop_congr h)
theorem L_rpl (r : Nat → Int) : ∀ (rs : List (Nat → Int)) (w : Nat → Int), EqM (Lop r (rpl rs w)) (rpl rs (Lop r w))
  | [], _ => EqM.refl _
  | a :: rs, w => (L_rpl r rs (Rop a w)).trans (rpl_congr rs (LR_comm r a w))
theorem lpl_rpl : ∀ rs : List (Nat → Int), EqM (lpl rs) (rpl rs dl)
  | [] => EqM.refl _
  | r :: rs => (Lop_congr (lpl_rpl rs)).trans ((L_rpl r rs dl).trans (rpl_congr rs (LR_dl r)))
/-- a row among the others may be put in front, with a sign -/
theorem lpl_front (a : Nat → Int) (post : List (Nat → Int)) : ∀ (pre : List (Nat → Int)), EqM (lpl (pre ++ a :: post)) (fun C => sg pre.length * Lop a (lpl (pre ++ post)) C)
  | [] => fun C _ => by show Lop a (lpl post) C = sg 0 * Lop a (lpl post) C; rw [show sg 0 = 1 from rfl, Int.one_mul]
  | b :: pre => by
    intro C hC
    have ih := lpl_front a post pre
    have h1 := Lop_congr (r := b) ih C hC
    have h2 := LL_anti b a (lpl (pre ++ post)) C hC
    show Lop b (lpl (pre ++ a :: post)) C = sg (pre.length + 1) * Lop a (Lop b (lpl (pre ++ post))) C
    rw [h1, Lop_smul]
    dsimp only at h2
    rw [h2]
    have hs : sg (pre.length + 1) = - sg pre.length := by
      unfold sg
      by_cases h : pre.length % 2 = 0
      · rw [if_pos h, if_neg (by omega)]
      · rw [if_neg h, if_pos (by omega)]; rfl
    rw [hs, Int.mul_neg, Int.neg_mul]
/-- a row that stands among the others once more: nothing -/
theorem lpl_mem {a : Nat → Int} : ∀ {rs : List (Nat → Int)}, a ∈ rs → ∀ C, C < 128 → Lop a (lpl rs) C = 0
  | [], h => by cases h
  | b :: rs, h => by
    intro C hC
    rcases List.mem_cons.mp h with e | h
    · subst e; exact LL_same a _ C hC
    · have h2 := LL_anti a b (lpl rs) C hC
      show Lop a (Lop b (lpl rs)) C = 0
      rw [h2]
      dsimp only
      have h3 : EqM (Lop a (lpl rs)) (fun _ => 0) := fun D hD => lpl_mem h D hD
      rw [Lop_congr h3 C hC, Lop_zero]
      rfl
/-- a unit row takes its column -/
def eu (w : Nat) : Nat → Int := fun c => if c = w then 1 else 0
theorem si_one (f : Nat → Int) {w : Nat} : ∀ {n : Nat}, w < n → (∀ c, c ≠ w → f c = 0) → fb_si f n = f w
  | 0, h, _ => absurd h (Nat.not_lt_zero w)
  | n + 1, h, hf => by
    rw [fb_si_succ]
    by_cases e : w = n
    · subst e
      have : fb_si f w = 0 := by rw [fb_si_cong (g := fun _ => 0) (fun k hk => hf k (by omega)), si_zero]
      omega
    · rw [si_one f (by omega) hf, hf n (fun q => e q.symm)]
      omega
theorem L_eu {w : Nat} (hw : w < 7) (v : Nat → Int) (C : Nat) : Lop (eu w) v C = if C.testBit w then sL C w * v (del C w) else 0 := by
  unfold Lop
  rw [si_one (w := w) _ hw (fun c hc => by cases C.testBit c <;> simp [eu, hc])]
  simp [eu]
