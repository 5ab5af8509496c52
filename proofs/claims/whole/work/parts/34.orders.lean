/-! ===== pure: the costs grow; alone; the orders ===== -/
def inb (a b : Nat) : Bool := ldf a b == 0
theorem inb_iff {a b : Nat} (ha : a < 2 ^ 32) : inb a b = true ↔ sub a b := by
  unfold inb
  rw [beq_iff_eq]
  constructor
  · intro h i hi
    have := ldf_bit (b := b) ha i
    rw [h, Nat.zero_testBit, hi] at this
    cases hb : b.testBit i with
    | true => rfl
    | false => rw [hb] at this; cases this
  · intro h
    refine eq_bits fun i => ?_
    rw [ldf_bit ha, Nat.zero_testBit]
    cases hi : a.testBit i with
    | true => rw [h i hi]; rfl
    | false => rfl
theorem wcost_mono {d : Dw} (w : Nat) {t t' : Nat} (h : t ≤ t') : wcost d w t ≤ wcost d w t' := by
  unfold wcost
  have : (t + 9) / 10 ≤ (t' + 9) / 10 := by omega
  have := Nat.mul_le_mul_left (dst d w) this
  omega
theorem tot_mono {d : Dw} (w : Nat) {g h N M : Nat} (hg : sub g h) (hN : sub N M) : tot d w g N ≤ tot d w h M := by
  unfold tot totU totW
  refine Nat.add_le_add (fb_sm_le (fun u _ => ?_)) (fb_sm_le (fun u _ => ?_))
  · cases hb : g.testBit u with
    | true => rw [hg u hb]; exact Nat.le_refl _
    | false => exact Nat.zero_le _
  · cases hb : N.testBit u with
    | true => rw [hN u hb]; exact Nat.le_refl _
    | false => exact Nat.zero_le _
theorem cst_mono {d : Dw} (hd : Okd d) {g h : Nat} (hs : sub g h) : cst d g ≤ cst d h := by
  have hn := need_mono hd hs
  unfold cst cstN
  refine fb_sm_le (fun w _ => ?_)
  cases hb : (need d g).testBit w with
  | true => rw [hn w hb]; exact wcost_mono w (tot_mono w hs hn)
  | false => exact Nat.zero_le _
theorem need_0 {d : Dw} (hd : Okd d) (w : Nat) : (need d 0).testBit w = false := by
  cases hb : (need d 0).testBit w with
  | false => rfl
  | true => exact ((need_bit hd 0 w).mp hb (fun _ => False) (fun i ⟨u, h1, _⟩ => by rw [Nat.zero_testBit] at h1; cases h1) (fun _ _ h _ => h)).elim
theorem cst_0 {d : Dw} (hd : Okd d) : cst d 0 = 0 := by
  unfold cst cstN
  rw [fb_sm_cong (g := fun _ => 0) (fun w _ => by rw [need_0 hd]; rfl), fb_sm_const]
  rfl
/-- a needed work has units -/
theorem tot_pos {d : Dw} (hd : Okd d) {g w : Nat} (h : (need d g).testBit w = true) : 0 < tot d w g (need d g) := by
  have hc := (need_bit hd g w).mp h
  have key := hc (fun w => 0 < tot d w g (need d g) ∧ (need d g).testBit w = true) (fun i hi => ?_) (fun a b hb hf => ?_)
  · exact key.1
  · refine ⟨?_, (need_bit hd g i).mpr (Clo.base hi)⟩
    have := totU_pos hd hi
    unfold tot
    omega
  · refine ⟨?_, need_closed hd hb.2 hf⟩
    have h1 := fb_sm_part (fun v => if (need d g).testBit v then dfd d a v else 0) (need_n hd hb.2)
    rw [if_pos hb.2] at h1
    unfold tot totW
    omega
/-- alone -/
def al (d : Dw) (T u : Nat) : Nat := if T.testBit u then cst d (2 ^ u) else 0
def sal (d : Dw) (T : Nat) : Nat := fb_sm (al d T) 8
def D1 (d : Dw) (T : Nat) : Int := if sal d T = 0 then 1 else (sal d T : Int)
def bn1 (d : Dw) (T u : Nat) : Int := (cst d T : Int) * (al d T u : Int)
theorem al_le {d : Dw} (hd : Okd d) (T u : Nat) : al d T u ≤ 67800 := by
  unfold al
  split
  · exact cst_le hd _
  · omega
theorem sal_le {d : Dw} (hd : Okd d) (T : Nat) : sal d T ≤ 542400 := fb_sm_bound (c := 67800) (n := 8) (fun u _ => al_le hd T u)
theorem al_zero {d : Dw} (hd : Okd d) {T : Nat} (hT : T < 256) (h : sal d T = 0) : cst d T = 0 := by
  have hz := fb_sm_zero h
  unfold cst cstN
  rw [fb_sm_cong (g := fun _ => 0) (fun w hw => ?_), fb_sm_const]
  · rfl
  · cases hb : (need d T).testBit w with
    | false => rfl
    | true =>
      rw [if_pos rfl]
      obtain ⟨u, hu, hn⟩ := (need_or hd T w).mp hb
      have hu8 : u < 8 := bit_lt (n := 8) hT hu
      have h1 := hz u hu8
      unfold al at h1
      rw [if_pos hu] at h1
      unfold cst cstN at h1
      have h2 := fb_sm_zero h1 w hw
      rw [if_pos hn] at h2
      have hp := tot_pos hd hn
      have ht := tot_le hd w T (need d T)
      unfold wcost at h2 ⊢
      have h3 : 1 ≤ (tot d w (2 ^ u) (need d (2 ^ u)) + 9) / 10 := by omega
      have h4 : dst d w * 1 ≤ dst d w * ((tot d w (2 ^ u) (need d (2 ^ u)) + 9) / 10) := Nat.mul_le_mul_left _ h3
      have h5 : dst d w = 0 := by omega
      rw [h5, Nat.zero_mul]
      omega
theorem bn1_sum {d : Dw} (hd : Okd d) {T : Nat} (hT : T < 256) : fb_si (bn1 d T) 8 = (cst d T : Int) * D1 d T := by
  unfold bn1
  rw [fb_si_mul, fb_si_nat]
  unfold D1
  by_cases h : sal d T = 0
  · rw [if_pos h, al_zero hd hT h]; simp
  · rw [if_neg h]; rfl
theorem D1_ok {d : Dw} (hd : Okd d) (T : Nat) : 0 < D1 d T ∧ D1 d T ≤ 542400 := by
  have := sal_le hd T
  unfold D1
  split
  · omega
  · omega
/-! the orders -/
def fct : Nat → Nat
  | 0 => 1
  | n + 1 => (n + 1) * fct n
def ecn (c : Nat → Int) (T : Nat) : Nat → Nat → Nat → Int
  | 0, _, _ => 0
  | k + 1, s, u => fb_si (fun v => if T.testBit v && !s.testBit v then ecn c T k (s ||| 2 ^ v) u + (if u = v then (fct k : Int) * (c (s ||| 2 ^ v) - c s) else 0) else 0) 8
def wtm (c : Nat → Int) (T s0 u s : Nat) : Int := if inb s T && inb s0 s && (T.testBit u && !s.testBit u) then (fct (pc s - pc s0) * fct (pc T - pc s - 1) : Nat) * (c (s ||| 2 ^ u) - c s) else 0
theorem si_ct (p : Nat → Bool) (X : Int) : ∀ n, fb_si (fun v => if p v then X else 0) n = (fb_ct p n : Int) * X
  | 0 => by show (0 : Int) = ((0 : Nat) : Int) * X; simp
  | n + 1 => by
    rw [fb_si_succ, fb_ct_succ, si_ct p X n]
    cases p n <;> simp [Int.add_mul]
theorem pc_or {s v : Nat} (hv : v < 8) (h : s.testBit v = false) : pc (s ||| 2 ^ v) = pc s + 1 := by
  unfold pc
  have h1 := fb_ct_upd (fun i => s.testBit i) true hv
  simp only [h, Bool.false_eq_true, if_false, if_true, Nat.add_zero] at h1
  rw [← h1]
  refine fb_ct_cong (fun i _ => ?_)
  rw [fb_bit_set]
  by_cases e : i = v
  · simp [e]
  · simp [e]
theorem pc_dif {s0 s : Nat} (h : sub s0 s) : fb_ct (fun v => s.testBit v && !s0.testBit v) 8 + pc s0 = pc s := by
  unfold pc
  rw [Nat.add_comm, ← fb_ct_or (fun k _ => by cases s0.testBit k <;> simp)]
  refine fb_ct_cong (fun i _ => ?_)
  cases hb : s0.testBit i with
  | true => rw [h i hb]; rfl
  | false => simp
theorem pc_eq {s0 s : Nat} (hs : s < 256) (h : sub s0 s) (hp : pc s ≤ pc s0) : s0 = s := by
  have h1 := pc_dif h
  have h2 : fb_ct (fun v => s.testBit v && !s0.testBit v) 8 = 0 := by omega
  have h3 := fb_ct_zero.mp h2
  refine sub_anti h (fun i hi => ?_)
  have := h3 i (bit_lt (n := 8) hs hi)
  simp only [hi, Bool.true_and, Bool.not_eq_false'] at this
  exact this
theorem sub_or {a b v : Nat} (h : sub a b) (hv : b.testBit v = true) : sub (a ||| 2 ^ v) b := fun i hi => by
  rw [fb_bit_set] at hi
  simp at hi
  rcases hi with q | q
  · exact h i q
  · rw [q]; exact hv
theorem ecn_w {c : Nat → Int} {T : Nat} (hT : T < 256) {u : Nat} (hu : u < 8) : ∀ k s0, s0 < 256 → sub s0 T → pc s0 + k = pc T → ecn c T k s0 u = fb_si (wtm c T s0 u) 256
  | 0, s0, h0, hs, hp => by
    have e : s0 = T := pc_eq hT hs (by omega)
    subst e
    show (0 : Int) = _
    rw [fb_si_cong (g := fun _ => 0) (fun s hs2 => ?_), si_zero]
    unfold wtm
    rw [if_neg]
    intro q
    simp only [Bool.and_eq_true, Bool.not_eq_true'] at q
    have := (inb_iff (by omega)).mp q.1.2 u q.2.1
    rw [q.2.2] at this
    cases this
  | k + 1, s0, h0, hs, hp => by
    let sec : Int := if T.testBit u && !s0.testBit u then (fct k : Int) * (c (s0 ||| 2 ^ u) - c s0) else 0
    have e1 : ecn c T (k + 1) s0 u = fb_si (fun v => if T.testBit v && !s0.testBit v then fb_si (wtm c T (s0 ||| 2 ^ v) u) 256 else 0) 8 + sec := by
      have es : fb_si (fun v => if v = u then sec else 0) 8 = sec := by
        rw [si_one (fun v => if v = u then sec else 0) hu (fun v hv => if_neg hv), if_pos rfl]
      rw [← es, ← fb_si_add]
      refine fb_si_cong (fun v hv => ?_)
      by_cases e : v = u
      · subst e
        rw [if_pos rfl]
        cases hb : (T.testBit v && !s0.testBit v) with
        | false =>
          have : sec = 0 := by show (if (T.testBit v && !s0.testBit v) then _ else (0 : Int)) = 0; rw [hb]; rfl
          rw [this]; simp
        | true =>
          have e5 : sec = (fct k : Int) * (c (s0 ||| 2 ^ v) - c s0) := by show (if (T.testBit v && !s0.testBit v) then _ else (0 : Int)) = _; rw [hb]; rfl
          simp only [Bool.and_eq_true, Bool.not_eq_true'] at hb
          rw [if_pos rfl, if_pos rfl, if_pos rfl, e5, ecn_w hT hu k (s0 ||| 2 ^ v) (or_lt (n := 8) h0 (Nat.pow_lt_pow_right (by decide) hv)) (sub_or hs hb.1) (by rw [pc_or hv hb.2]; omega)]
      · rw [if_neg e, Int.add_zero]
        cases hb : (T.testBit v && !s0.testBit v) with
        | false => simp
        | true =>
          simp only [Bool.and_eq_true, Bool.not_eq_true'] at hb
          rw [if_pos rfl, if_pos rfl, if_neg (fun z => e z.symm), Int.add_zero, ecn_w hT hu k (s0 ||| 2 ^ v) (or_lt (n := 8) h0 (Nat.pow_lt_pow_right (by decide) hv)) (sub_or hs hb.1) (by rw [pc_or hv hb.2]; omega)]
    have e2 : fb_si (fun v => if T.testBit v && !s0.testBit v then fb_si (wtm c T (s0 ||| 2 ^ v) u) 256 else 0) 8 = fb_si (fun s => fb_si (fun v => if T.testBit v && !s0.testBit v then wtm c T (s0 ||| 2 ^ v) u s else 0) 8) 256 := by
      rw [← si_swap]
      refine fb_si_cong (fun v _ => ?_)
      cases (T.testBit v && !s0.testBit v) with
      | true => rfl
      | false => exact (si_zero 256).symm
    have e3 : fb_si (fun s => if s = s0 then sec else 0) 256 = sec := by
      rw [si_one (fun s => if s = s0 then sec else 0) h0 (fun v hv => if_neg hv), if_pos rfl]
    rw [e1, e2, ← e3, ← fb_si_add]
    refine fb_si_cong (fun s hs256 => ?_)
    cases hc : (inb s T && inb s0 s && (T.testBit u && !s.testBit u)) with
    | false =>
      have hw : wtm c T s0 u s = 0 := by unfold wtm; rw [hc]; rfl
      have h2 : fb_si (fun v => if T.testBit v && !s0.testBit v then wtm c T (s0 ||| 2 ^ v) u s else 0) 8 = 0 := by
        rw [fb_si_cong (g := fun _ => 0) (fun v hv => ?_), si_zero]
        cases hb : (T.testBit v && !s0.testBit v) with
        | false => rfl
        | true =>
          rw [if_pos rfl]
          unfold wtm
          rw [if_neg]
          intro q
          simp only [Bool.and_eq_true, Bool.not_eq_true'] at q
          have h3 := (inb_iff (Nat.lt_of_lt_of_le (or_lt (n := 8) h0 (Nat.pow_lt_pow_right (by decide) hv)) (by decide))).mp q.1.2
          have h4 : inb s0 s = true := (inb_iff (by omega)).mpr (sub_trans (sub_or_l _ _) h3)
          rw [q.1.1, h4, q.2.1, q.2.2] at hc
          cases hc
      have h5 : (if s = s0 then sec else 0) = 0 := by
        by_cases e : s = s0
        · subst e
          rw [if_pos rfl]
          have a1 : inb s T = true := (inb_iff (by omega)).mpr hs
          have a2 : inb s s = true := (inb_iff (by omega)).mpr (sub_refl s)
          rw [a1, a2] at hc
          show (if (T.testBit u && !s.testBit u) then _ else (0 : Int)) = 0
          rw [show (T.testBit u && !s.testBit u) = false by simpa using hc]
          rfl
        · rw [if_neg e]
      rw [hw, h2, h5]
      rfl
    | true =>
      have hc2 := hc
      simp only [Bool.and_eq_true, Bool.not_eq_true'] at hc
      obtain ⟨⟨a1, a2⟩, a3, a4⟩ := hc
      have b1 := (inb_iff (by omega)).mp a1
      have b2 := (inb_iff (by omega)).mp a2
      have hdif := pc_dif b2
      have hw : wtm c T s0 u s = (fct (pc s - pc s0) * fct (pc T - pc s - 1) : Nat) * (c (s ||| 2 ^ u) - c s) := by unfold wtm; rw [hc2]; rfl
      have h2 : fb_si (fun v => if T.testBit v && !s0.testBit v then wtm c T (s0 ||| 2 ^ v) u s else 0) 8 = fb_si (fun v => if (s.testBit v && !s0.testBit v) then ((fct (pc s - (pc s0 + 1)) * fct (pc T - pc s - 1) : Nat) * (c (s ||| 2 ^ u) - c s) : Int) else 0) 8 := by
        refine fb_si_cong (fun v hv => ?_)
        cases hsv : (s.testBit v && !s0.testBit v) with
        | true =>
          simp only [Bool.and_eq_true, Bool.not_eq_true'] at hsv
          have a5 : inb (s0 ||| 2 ^ v) s = true := (inb_iff (Nat.lt_of_lt_of_le (or_lt (n := 8) h0 (Nat.pow_lt_pow_right (by decide) hv)) (by decide))).mpr (sub_or b2 hsv.1)
          rw [b1 v hsv.1, hsv.2]
          unfold wtm
          rw [a1, a5, a3, a4, pc_or hv hsv.2]
          rfl
        | false =>
          cases hb : (T.testBit v && !s0.testBit v) with
          | false => rfl
          | true =>
            simp only [Bool.and_eq_true, Bool.not_eq_true'] at hb
            rw [if_pos rfl]
            unfold wtm
            rw [if_neg]
            · rfl
            · intro q
              simp only [Bool.and_eq_true, Bool.not_eq_true'] at q
              have h3 := (inb_iff (Nat.lt_of_lt_of_le (or_lt (n := 8) h0 (Nat.pow_lt_pow_right (by decide) hv)) (by decide))).mp q.1.2
              have h4 := h3 v (by rw [fb_bit_set]; simp)
              rw [h4, hb.2] at hsv
              cases hsv
      rw [hw, h2, si_ct]
      by_cases e : s = s0
      · subst e
        rw [if_pos rfl, show pc s - pc s = 0 by omega, show fb_ct (fun v => s.testBit v && !s.testBit v) 8 = 0 by omega, show pc T - pc s - 1 = k by omega]
        have e5 : sec = (fct k : Int) * (c (s ||| 2 ^ u) - c s) := by
          show (if (T.testBit u && !s.testBit u) then _ else (0 : Int)) = _
          rw [a3, a4]
          rfl
        rw [e5, show fct 0 = 1 from rfl, Nat.one_mul]
        simp
      · rw [if_neg e, Int.add_zero]
        have hlt : pc s0 < pc s := by
          rcases Nat.lt_or_ge (pc s0) (pc s) with q | q
          · exact q
          · exact absurd (pc_eq hs256 b2 q).symm e
        obtain ⟨j, hj⟩ : ∃ j, pc s - pc s0 = j + 1 := ⟨pc s - pc s0 - 1, by omega⟩
        rw [show fb_ct (fun v => s.testBit v && !s0.testBit v) 8 = j + 1 by omega, show pc s - (pc s0 + 1) = j by omega, hj, show fct (j + 1) = (j + 1) * fct j from rfl, Nat.mul_assoc, Int.natCast_mul (j + 1), Int.mul_assoc]
theorem ecn_nn {c : Nat → Int} {T : Nat} (hc : ∀ s v, c s ≤ c (s ||| 2 ^ v)) (u : Nat) : ∀ k s, 0 ≤ ecn c T k s u
  | 0, _ => Int.le_refl 0
  | k + 1, s => si_nonneg (fun v _ => by
    split
    · have h1 := ecn_nn (T := T) hc u k (s ||| 2 ^ v)
      split
      · have h2 : 0 ≤ (fct k : Int) * (c (s ||| 2 ^ v) - c s) := Int.mul_nonneg (Int.natCast_nonneg _) (by have := hc s v; omega)
        omega
      · omega
    · exact Int.le_refl 0)
theorem ecn_out {c : Nat → Int} {T : Nat} {u : Nat} (hu : T.testBit u = false) : ∀ k s, ecn c T k s u = 0
  | 0, _ => rfl
  | k + 1, s => by
    show fb_si _ 8 = 0
    rw [fb_si_cong (g := fun _ => 0) (fun v _ => ?_), si_zero]
    cases hb : (T.testBit v && !s.testBit v) with
    | false => rfl
    | true =>
      simp only [Bool.and_eq_true, Bool.not_eq_true'] at hb
      rw [if_pos rfl, ecn_out hu k, if_neg]
      · rfl
      · intro e
        rw [e, hb.1] at hu
        cases hu
theorem ecn_sum {c : Nat → Int} {T : Nat} (hT : T < 256) : ∀ k s, s < 256 → sub s T → pc s + k = pc T → fb_si (ecn c T k s) 8 = (fct k : Int) * (c T - c s)
  | 0, s, h0, hs, hp => by
    have e : s = T := pc_eq hT hs (by omega)
    rw [e, Int.sub_self, Int.mul_zero]
    exact si_zero 8
  | k + 1, s, h0, hs, hp => by
    have e1 : fb_si (ecn c T (k + 1) s) 8 = fb_si (fun v => fb_si (fun u => if T.testBit v && !s.testBit v then ecn c T k (s ||| 2 ^ v) u + (if u = v then (fct k : Int) * (c (s ||| 2 ^ v) - c s) else 0) else 0) 8) 8 := si_swap _ 8 8
    rw [e1]
    have e2 : fb_si (fun v => fb_si (fun u => if T.testBit v && !s.testBit v then ecn c T k (s ||| 2 ^ v) u + (if u = v then (fct k : Int) * (c (s ||| 2 ^ v) - c s) else 0) else 0) 8) 8 = fb_si (fun v => if T.testBit v && !s.testBit v then ((fct k : Int) * (c T - c s)) else 0) 8 := by
      refine fb_si_cong (fun v hv => ?_)
      cases hb : (T.testBit v && !s.testBit v) with
      | false => exact si_zero 8
      | true =>
        simp only [Bool.and_eq_true, Bool.not_eq_true'] at hb
        have e3 := ecn_sum (c := c) hT k (s ||| 2 ^ v) (or_lt (n := 8) h0 (Nat.pow_lt_pow_right (by decide) hv)) (sub_or hs hb.1) (by rw [pc_or hv hb.2]; omega)
        have e4 : fb_si (fun u => if u = v then (fct k : Int) * (c (s ||| 2 ^ v) - c s) else 0) 8 = (fct k : Int) * (c (s ||| 2 ^ v) - c s) := by
          rw [si_one (fun u => if u = v then (fct k : Int) * (c (s ||| 2 ^ v) - c s) else 0) hv (fun v hv => if_neg hv), if_pos rfl]
        simp only [if_true]
        rw [fb_si_add, e4, e3, ← Int.mul_add]
        congr 1
        omega
    rw [e2, si_ct]
    have h1 := pc_dif hs
    rw [show fb_ct (fun v => T.testBit v && !s.testBit v) 8 = k + 1 by omega, show fct (k + 1) = (k + 1) * fct k from rfl, Int.natCast_mul, Int.mul_assoc]
def bn2 (d : Dw) (T u : Nat) : Int := ecn (fun s => (cst d s : Int)) T (pc T) 0 u
theorem pc_0 : pc 0 = 0 := by decide
theorem sub_0 (T : Nat) : sub 0 T := fun i h => by rw [Nat.zero_testBit] at h; cases h
theorem bn2_sum {d : Dw} (hd : Okd d) {T : Nat} (hT : T < 256) : fb_si (bn2 d T) 8 = (cst d T : Int) * (fct (pc T) : Int) := by
  have := ecn_sum (c := fun s => (cst d s : Int)) hT (pc T) 0 (by decide) (sub_0 T) (by rw [pc_0]; omega)
  rw [cst_0 hd] at this
  unfold bn2
  rw [show (fun u => ecn (fun s => (cst d s : Int)) T (pc T) 0 u) = ecn (fun s => (cst d s : Int)) T (pc T) 0 from rfl, this, Int.mul_comm]
  simp
theorem bn2_nn {d : Dw} (hd : Okd d) (T u : Nat) : 0 ≤ bn2 d T u := ecn_nn (fun s v => Int.ofNat_le.mpr (cst_mono hd (sub_or_l _ _))) u _ _
theorem fct_8 : ∀ k, k < 9 → 0 < fct k ∧ fct k ≤ 40320 ∧ factT k = zL (fct k) := by decide +kernel
theorem pc_le8 (T : Nat) : pc T ≤ 8 := fb_ct_le _ _
/-! the three rules -/
def bnR (d : Dw) (T r u : Nat) : Int := if r = 0 then bn0 d T u else if r = 1 then bn1 d T u else bn2 d T u
def DR (d : Dw) (T r : Nat) : Int := if r = 0 then denX d T else if r = 1 then D1 d T else (fct (pc T) : Int)
theorem DR_ok {d : Dw} (hd : Okd d) (T r : Nat) : 0 < DR d T r ∧ DR d T r ≤ 34012224000000 := by
  unfold DR
  split
  · exact ⟨den_pos hd T, den_lt hd T⟩
  · split
    · have := D1_ok hd T
      omega
    · have := fct_8 (pc T) (by have := pc_le8 T; omega)
      omega
theorem bnR_nn {d : Dw} (hd : Okd d) (T r u : Nat) : 0 ≤ bnR d T r u := by
  unfold bnR
  split
  · exact bn0_nn hd T u
  · split
    · exact Int.mul_nonneg (Int.natCast_nonneg _) (Int.natCast_nonneg _)
    · exact bn2_nn hd T u
theorem bnR_out {d : Dw} {T r u : Nat} (h : T.testBit u = false) : bnR d T r u = 0 := by
  unfold bnR
  split
  · unfold bn0; rw [h]; rfl
  · split
    · unfold bn1 al; rw [h]; simp
    · exact ecn_out h _ _
theorem bnR_sum {d : Dw} (hd : Okd d) {T : Nat} (hT : T < 256) (r : Nat) : fb_si (bnR d T r) 8 = (cst d T : Int) * DR d T r := by
  unfold bnR DR
  by_cases h0 : r = 0
  · simp only [h0, if_true]; exact bn0_sum hd T
  · by_cases h1 : r = 1
    · simp only [h1, if_true, show ¬ (1 = 0) by decide, if_false]; exact bn1_sum hd hT
    · simp only [h0, h1, if_false]; exact bn2_sum hd hT
theorem si_part {f : Nat → Int} (h : ∀ i, 0 ≤ f i) {n i : Nat} (hi : i < n) : f i ≤ fb_si f n := by
  induction n with
  | zero => omega
  | succ n ih =>
    rw [fb_si_succ]
    have hn := h n
    rcases Nat.lt_or_ge i n with q | q
    · have := ih q; omega
    · have e : i = n := by omega
      subst e
      have := si_nonneg (n := i) (fun j _ => h j)
      omega
theorem bnR_le {d : Dw} (hd : Okd d) {T : Nat} (hT : T < 256) (r : Nat) {u : Nat} (hu : u < 8) : bnR d T r u ≤ (cst d T : Int) * DR d T r := by
  rw [← bnR_sum hd hT r]
  exact si_part (bnR_nn hd T r) hu
theorem bnR_lt {d : Dw} (hd : Okd d) {T : Nat} (hT : T < 256) (r : Nat) {u : Nat} (hu : u < 8) : bnR d T r u ≤ 2306028787200000000 := by
  have h1 := bnR_le hd hT r hu
  have h2 := DR_ok hd T r
  have h3 := cst_le hd T
  have h4 : (cst d T : Int) * DR d T r ≤ 67800 * 34012224000000 := Int.mul_le_mul (by omega) h2.2 (by omega) (by omega)
  omega
