/-! ===== pure: the prices are well: a positive denominator, no negative price, and all is paid ===== -/
theorem sm_ext {f : Nat → Nat} {a : Nat} (h : ∀ k, a ≤ k → f k = 0) : ∀ b, a ≤ b → fb_sm f b = fb_sm f a
  | 0, hb => by rw [show a = 0 by omega]
  | b + 1, hb => by
    by_cases e : a = b + 1
    · rw [e]
    · rw [fb_sm_succ, sm_ext h b (by omega), h b (by omega)]
      rfl
theorem totW_6 {d : Dw} (hd : Okd d) (w N : Nat) : totW d w N 6 = totW d w N (dn d) := sm_ext (fun k hk => by rw [hd.2.2.2.2.2.2.1 w k (Or.inr hk)]; simp) 6 hd.1
theorem re_csum (d : Dw) (T : Nat) (f : Nat → Int) (g : Nat → Int) (h : ∀ q, q < 6 → (need d T).testBit q = true → g (cl (need d T) q) = f q) : fb_si g (kM d T) = fb_si (fun q => if (need d T).testBit q then f q else 0) 6 := by
  unfold kM
  rw [← re_sum (need d T) g 6]
  refine fb_si_cong (fun q hq => ?_)
  cases e : (need d T).testBit q with
  | true => rw [if_pos rfl, if_pos rfl]; exact h q hq e
  | false => rfl
theorem csum_BM {d : Dw} (hd : Okd d) {T j : Nat} (hj : j < kM d T) : csum (kM d T) (BM d T) j = (totU d (plc (need d T) j) T 8 : Int) := by
  have hN := need_lt hd T
  obtain ⟨a1, a2, a3⟩ := plc_ok hN hj
  unfold csum
  rw [re_csum d T (fun q => AX d T q (plc (need d T) j)) _ (fun q hq e => by unfold BM; rw [plc_cl hN hq e])]
  generalize plc (need d T) j = v at a1 a2 a3
  have e1 : fb_si (fun q => if (need d T).testBit q then AX d T q v else 0) 6 = fb_si (fun q => if q = v then (tot d v T (need d T) : Int) else -(((if (need d T).testBit q then dfd d v q else 0 : Nat)) : Int)) 6 := by
    refine fb_si_cong (fun q hq => ?_)
    by_cases e : q = v
    · subst e
      rw [a1, if_pos rfl, if_pos rfl]
      unfold AX
      rw [a1, if_pos rfl, if_pos rfl]
    · rw [if_neg e]
      cases hb : (need d T).testBit q with
      | true =>
        rw [if_pos rfl, if_pos rfl]
        unfold AX
        rw [hb, if_pos rfl, if_neg (fun z => e z.symm)]
      | false => rfl
  rw [e1, fb_si_upd (fun q => -(((if (need d T).testBit q then dfd d v q else 0 : Nat)) : Int)) _ a3, si_neg, fb_si_nat]
  have e2 : fb_sm (fun v_1 => if (need d T).testBit v_1 then dfd d v v_1 else 0) 6 = totW d v (need d T) (dn d) := totW_6 hd v (need d T)
  rw [e2, hd.2.2.2.2.2.2.2 v]
  unfold tot
  simp
  omega
theorem BM_off {d : Dw} (hd : Okd d) {T i j : Nat} (hi : i < kM d T) (hj : j < kM d T) (h : i ≠ j) : BM d T i j = -(dfd d (plc (need d T) j) (plc (need d T) i) : Int) := by
  have hN := need_lt hd T
  unfold BM AX
  rw [(plc_ok hN hi).1, if_pos rfl, if_neg (fun z => h (plc_inj hN hi hj z.symm))]
theorem totU_pos {d : Dw} (hd : Okd d) {T w : Nat} (h : stU d T w) : 0 < totU d w T 8 := by
  obtain ⟨u, h1, h2⟩ := h
  have hu : u < 8 := by
    rcases Nat.lt_or_ge u 8 with q | q
    · exact q
    · rw [hd.2.2.2.2.2.1 w u (Or.inr q)] at h2; omega
  have := fb_sm_part (fun u => if T.testBit u then dus d w u else 0) hu
  rw [if_pos h1] at this
  unfold totU
  omega
theorem MM_BM {d : Dw} (hd : Okd d) (T : Nat) : MM (kM d T) (BM d T) := by
  have hN := need_lt hd T
  refine ⟨fun i j hi hj h => ?_, fun j hj => ?_, fun j hj P h1 h2 => ?_⟩
  · rw [BM_off hd hi hj h]; omega
  · rw [csum_BM hd hj]; omega
  · obtain ⟨a1, a2, a3⟩ := plc_ok hN hj
    have hc := (need_bit hd T _).mp a1
    have key := hc (fun w => (need d T).testBit w = true ∧ P (cl (need d T) w)) (fun w hw => ?_) (fun a b hb hf => ?_)
    · have := key.2
      rw [a2] at this
      exact this
    · have hwb := (need_bit hd T w).mpr (Clo.base hw)
      refine ⟨hwb, h1 _ (cl_lt_of hN hwb) ?_⟩
      rw [csum_BM hd (cl_lt_of hN hwb), plc_cl hN (bit_lt (n := 6) hN hwb) hwb]
      have := totU_pos hd hw
      omega
    · have hab := need_closed hd hb.1 hf
      refine ⟨hab, h2 (cl (need d T) b) (cl (need d T) a) (cl_lt_of hN hb.1) (cl_lt_of hN hab) ?_ hb.2⟩
      have hne : cl (need d T) b ≠ cl (need d T) a := fun z => by
        have e := fb_ct_kth_one (p := fun i => (need d T).testBit i) hb.1 hab z
        subst e
        rw [hd.2.2.2.2.2.2.2 b] at hf
        omega
      rw [BM_off hd (cl_lt_of hN hb.1) (cl_lt_of hN hab) hne, plc_cl hN (bit_lt (n := 6) hN hb.1) hb.1, plc_cl hN (bit_lt (n := 6) hN hab) hab]
      omega
theorem bX_nn (d : Dw) (T r : Nat) : 0 ≤ bX d T r := by
  unfold bX
  split
  · exact Int.natCast_nonneg _
  · exact Int.le_refl 0
theorem den_pos {d : Dw} (hd : Okd d) (T : Nat) : 0 < denX d T := by
  rw [den_X hd]
  exact (MM.pos (kM_le d T) (MM_BM hd T)).1
theorem num_nn {d : Dw} (hd : Okd d) {T c : Nat} (hc : c < 6) : 0 ≤ numX d T c := by
  cases hb : (need d T).testBit c with
  | false => rw [num_idle hc hb]; exact Int.le_refl 0
  | true =>
    rw [num_X hd hc hb]
    exact (MM.pos (kM_le d T) (MM_BM hd T)).2 _ (fun i _ => bX_nn d T _) _ (cl_lt_of (need_lt hd T) hb)
theorem BM_row {d : Dw} (hd : Okd d) {T i : Nat} (hi : i < kM d T) : rsum (BM d T i) (full (kM d T)) ≤ 180 := by
  have hk := kM_le d T
  have h1 : rsum (BM d T i) (full (kM d T)) ≤ fb_sm (fun c => if c = i then 126 else 9) 7 := by
    unfold rsum
    refine fb_sm_le (fun c _ => ?_)
    by_cases hc : c < kM d T
    · rw [full_bit, decide_eq_true hc, if_pos rfl]
      by_cases e : c = i
      · subst e
        rw [if_pos rfl]
        have hN := need_lt hd T
        have := tot_le hd (plc (need d T) c) T (need d T)
        unfold BM AX
        rw [(plc_ok hN hi).1, if_pos rfl, if_pos rfl]
        omega
      · rw [if_neg e, BM_off hd hi hc (fun z => e z.symm)]
        have := hd.2.2.2.2.1 (plc (need d T) c) (plc (need d T) i)
        omega
    · rw [full_bit, decide_eq_false hc]
      simp
  have h2 := fb_sm_upd (fun _ => 9) 126 (i := i) (n := 7) (by omega)
  rw [fb_sm_const 9 7] at h2
  omega
theorem pow_le6 {k : Nat} (hk : k ≤ 6) : 180 ^ k ≤ 34012224000000 := by
  have : (180 : Nat) ^ k ≤ 180 ^ 6 := Nat.pow_le_pow_right (by decide) hk
  have e : (180 : Nat) ^ 6 = 34012224000000 := by decide
  omega
theorem den_lt {d : Dw} (hd : Okd d) (T : Nat) : denX d T ≤ 34012224000000 := by
  have h1 : (dt (kM d T) (BM d T)).natAbs ≤ 180 ^ kM d T := dt_bd (kM_le d T) (fun i hi => BM_row hd (T := T) hi)
  have h2 := pow_le6 (kM_le d T)
  rw [den_X hd]
  omega
theorem lsm_le {b : Nat → Int} {c : Nat} : ∀ (l : List Nat), (∀ i ∈ l, (b i).natAbs ≤ c) → lsm b l ≤ l.length * c
  | [], _ => Nat.zero_le _
  | i :: l, h => by
    have h1 := lsm_le l (fun j hj => h j (List.mem_cons_of_mem _ hj))
    have h2 := h i List.mem_cons_self
    show (b i).natAbs + lsm b l ≤ (l.length + 1) * c
    rw [Nat.add_mul]
    omega
theorem num_lt {d : Dw} (hd : Okd d) {T c : Nat} (hc : c < 6) : numX d T c ≤ 4000000000000000000 := by
  cases hb : (need d T).testBit c with
  | false => rw [num_idle hc hb]; omega
  | true =>
    rw [num_X hd hc hb]
    have hk := kM_le d T
    have h1 : (nu (kM d T) (BM d T) (bM d T) (cl (need d T) c)).natAbs * 180 ≤ lsm (bM d T) (List.range (kM d T)) * 180 ^ kM d T := nu_bd hk (b := bM d T) (cl_lt_of (need_lt hd T) hb) (fun i hi => BM_row hd (T := T) hi)
    have h2 := pow_le6 hk
    have h3 : lsm (bM d T) (List.range (kM d T)) ≤ (List.range (kM d T)).length * 11300 := lsm_le _ (fun i _ => by
      unfold bM bX
      split
      · have := wcost_le hd (plc (need d T) i) (tot_le hd (plc (need d T) i) T (need d T))
        omega
      · omega)
    rw [List.length_range] at h3
    have h4 : lsm (bM d T) (List.range (kM d T)) ≤ 67800 := by omega
    have h5 := Nat.mul_le_mul h4 h2
    omega
theorem cst_6 {d : Dw} (hd : Okd d) (T : Nat) : fb_si (fun q => if (need d T).testBit q then bX d T q else 0) 6 = (cst d T : Int) := by
  have e1 : fb_si (fun q => if (need d T).testBit q then bX d T q else 0) 6 = fb_si (fun w => ((if (need d T).testBit w then wcost d w (tot d w T (need d T)) else 0 : Nat) : Int)) 6 := by
    refine fb_si_cong (fun q _ => ?_)
    unfold bX
    cases (need d T).testBit q <;> rfl
  rw [e1, fb_si_nat]
  unfold cst cstN
  rw [sm_ext (a := dn d) (fun k hk => ?_) 6 hd.1]
  cases hb : (need d T).testBit k with
  | true => have := need_n hd hb; omega
  | false => rfl
/-- what a user pays by use -/
def bn0 (d : Dw) (T u : Nat) : Int := if T.testBit u then fb_si (fun w => (dus d w u : Int) * numX d T w) 6 else 0
theorem bn0_nn {d : Dw} (hd : Okd d) (T u : Nat) : 0 ≤ bn0 d T u := by
  unfold bn0
  split
  · exact si_nonneg (fun w hw => Int.mul_nonneg (Int.natCast_nonneg _) (num_nn hd hw))
  · exact Int.le_refl 0
theorem bn0_sum {d : Dw} (hd : Okd d) (T : Nat) : fb_si (bn0 d T) 8 = (cst d T : Int) * denX d T := by
  have hN := need_lt hd T
  have hk := kM_le d T
  have hcr := cramer hk (BM d T) (bM d T) (fun _ => 1)
  have e1 : fb_si (fun c => fb_si (fun i => 1 * BM d T i c) (kM d T) * nu (kM d T) (BM d T) (bM d T) c) (kM d T) = fb_si (fun w => (totU d w T 8 : Int) * numX d T w) 6 := by
    rw [re_csum d T (fun w => (totU d w T 8 : Int) * numX d T w)]
    · refine fb_si_cong (fun w hw => ?_)
      cases hb : (need d T).testBit w with
      | true => rfl
      | false => rw [num_idle hw hb]; simp
    · intro q hq e
      have hc := csum_BM hd (cl_lt_of hN e)
      rw [plc_cl hN hq e] at hc
      rw [num_X hd hq e]
      show fb_si (fun i => 1 * BM d T i (cl (need d T) q)) (kM d T) * _ = _
      rw [fb_si_cong (g := fun i => BM d T i (cl (need d T) q)) (fun i _ => Int.one_mul _)]
      unfold csum at hc
      rw [hc]
  have e2 : fb_si (fun i => 1 * bM d T i) (kM d T) = (cst d T : Int) := by
    rw [re_csum d T (bX d T) _ (fun q hq e => by unfold bM; rw [Int.one_mul, plc_cl hN hq e]), cst_6 hd]
  rw [e1, e2, ← den_X hd] at hcr
  rw [← hcr]
  have e3 : fb_si (bn0 d T) 8 = fb_si (fun u => fb_si (fun w => (if T.testBit u then (dus d w u : Int) else 0) * numX d T w) 6) 8 := by
    refine fb_si_cong (fun u _ => ?_)
    unfold bn0
    cases T.testBit u with
    | true => rfl
    | false =>
      have ez : fb_si (fun w => (if false = true then (dus d w u : Int) else 0) * numX d T w) 6 = 0 := by
        rw [fb_si_cong (g := fun _ => 0) (fun w _ => by simp), si_zero]
      rw [ez]
      rfl
  rw [e3, si_swap]
  refine fb_si_cong (fun w _ => ?_)
  rw [fb_si_cong (g := fun u => numX d T w * (((if T.testBit u then dus d w u else 0 : Nat)) : Int)) (fun u _ => by cases T.testBit u <;> simp [Int.mul_comm]), fb_si_mul, fb_si_nat, Int.mul_comm]
  rfl
