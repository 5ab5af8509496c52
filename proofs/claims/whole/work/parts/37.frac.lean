/-! ===== pure: fractions in lowest terms ===== -/
theorem zL_lN (n : Nat) : zL (n : Int) = lN n := Int64.ofInt_eq_ofNat
theorem zL_toInt {x : Int} (h1 : -9223372036854775808 ≤ x) (h2 : x < 9223372036854775808) : (zL x).toInt = x := Int64.toInt_ofInt_of_le h1 h2
theorem zL_abs {x : Int} (hx : x.natAbs < 2 ^ 63) : (if 0 < zL x then zL x else - zL x) = lN x.natAbs := by
  have ht := zL_toInt (x := x) (by omega) (by omega)
  by_cases h : 0 < zL x
  · rw [if_pos h]
    have h2 := Int64.lt_iff_toInt_lt.mp h
    rw [ht] at h2
    have e0 : (0 : Int64).toInt = 0 := by decide
    rw [← zL_lN]
    congr 1
    omega
  · rw [if_neg h, zL_neg, ← zL_lN]
    have h2 : ¬ (0 : Int64).toInt < (zL x).toInt := fun q => h (Int64.lt_iff_toInt_lt.mpr q)
    rw [ht] at h2
    have e0 : (0 : Int64).toInt = 0 := by decide
    congr 1
    omega
theorem gcd_step (a b : Nat) : Nat.gcd a b = Nat.gcd b (a % b) := by
  rw [Nat.gcd_comm, Nat.gcd_rec, Nat.gcd_comm]
theorem lN_0 {b : Nat} (hb : b < 2 ^ 63) : lN b = 0 ↔ b = 0 := by
  rw [show (0 : Int64) = lN 0 from rfl, pk_lEQ hb (by decide)]
theorem comM_loop {S : St} {K : Int64 → Int64 → St → Prop} : ∀ (n a b : Nat), b ≤ n → a < 2 ^ 63 → b < 2 ^ 63 → K (lN (Nat.gcd a b)) (lN 0) S → ∃ f, wL_X6_common_12 K f (lN a) (lN b) S := by
  intro n
  induction n with
  | zero =>
    intro a b hb ha hb2 h
    have e : b = 0 := by omega
    subst e
    rw [Nat.gcd_zero_right] at h
    exact ⟨1, fun _ => h, fun q => absurd rfl q⟩
  | succ n ih =>
    intro a b hb ha hb2 h
    by_cases e : b = 0
    · subst e
      rw [Nat.gcd_zero_right] at h
      exact ⟨1, fun _ => h, fun q => absurd rfl q⟩
    · have hr : a % b < b := Nat.mod_lt _ (by omega)
      obtain ⟨f, hf⟩ := ih b (a % b) (by omega) hb2 (by omega) (by rw [← gcd_step]; exact h)
      refine ⟨f + 1, fun q => absurd ((lN_0 hb2).mp q) e, fun q => ⟨q, fun x2 e2 => ?_⟩⟩
      rw [pk_lRem ha (by omega) hb2] at e2
      rw [e2]
      exact hf
theorem comX_loop {S : St} {K : Int64 → Int64 → Int32 → St → Prop} : ∀ (j a b i : Nat), b < 2 ^ j → i + 2 * j ≤ 100 → a < 2 ^ 63 → b < 2 ^ 63 → (∀ q, K (lN (Nat.gcd a b)) (lN 0) q S) → ∃ f, wL_X5_commonDivisor_3 K f (lN a) (lN b) (nI i) S := by
  have fin : ∀ (a i : Nat), (∀ q, K (lN (Nat.gcd a 0)) (lN 0) q S) → ∃ f, wL_X5_commonDivisor_3 K f (lN a) (lN 0) (nI i) S := fun a i h => by
    rw [Nat.gcd_zero_right] at h
    exact ⟨1, fun _ => h _, fun _ => ⟨fun _ => h _, fun q => absurd rfl q⟩⟩
  have stp : ∀ (a b i : Nat), 0 < b → i < 100 → a < 2 ^ 63 → b < 2 ^ 63 → (∃ f, wL_X5_commonDivisor_3 K f (lN b) (lN (a % b)) (nI (i + 1)) S) → ∃ f, wL_X5_commonDivisor_3 K f (lN a) (lN b) (nI i) S := fun a b i h0 hi ha hb h => by
    obtain ⟨f, hf⟩ := h
    refine ⟨f + 1, fun q => absurd q (nI_ge (a := i) (b := 100) hi (by decide)), fun _ => ⟨fun q => ?_, fun q => ⟨q, fun x2 e2 => ?_⟩⟩⟩
    · have := (lN_0 hb).mp q
      omega
    · rw [pk_lRem ha h0 hb] at e2
      rw [e2, nI_1]
      exact hf
  intro j
  induction j with
  | zero =>
    intro a b i hb _ _ _ h
    have e : b = 0 := by
      have : 2 ^ 0 = 1 := rfl
      omega
    subst e
    exact fin a i h
  | succ j ih =>
    intro a b i hb hi ha hb2 h
    by_cases e : b < 2 ^ j
    · exact ih a b i e (by omega) ha hb2 h
    · have hp : 0 < 2 ^ j := Nat.two_pow_pos j
      have h0 : 0 < b := by omega
      have hr : a % b < b := Nat.mod_lt _ h0
      refine stp a b i h0 (by omega) ha hb2 ?_
      rw [gcd_step] at h
      generalize a % b = r at hr h
      by_cases e2 : r = 0
      · subst e2
        exact fin b (i + 1) h
      · refine stp b r (i + 1) (by omega) (by omega) hb2 (by omega) ?_
        rw [gcd_step] at h
        have hlt : b % r < r := Nat.mod_lt _ (by omega)
        refine ih r (b % r) (i + 1 + 1) ?_ (by omega) (by omega) (by omega) h
        have e3 : 2 ^ (j + 1) = 2 ^ j * 2 := Nat.pow_succ 2 j
        by_cases e4 : r ≤ 2 ^ j
        · omega
        · have e5 : b % r = b - r := by
            rw [Nat.mod_eq_sub_mod (by omega), Nat.mod_eq_of_lt (by omega)]
          omega
def frac (x D : Int) (a3 : Int32) : Int64 := if a3 = 0 then zL x / lN (Nat.gcd x.natAbs D.natAbs) else zL D / lN (Nat.gcd x.natAbs D.natAbs)
theorem gcd_lt {x D : Int} (hD : 0 < D) (hD2 : D ≤ 34012224000000) : 0 < Nat.gcd x.natAbs D.natAbs ∧ Nat.gcd x.natAbs D.natAbs < 2 ^ 63 := by
  have h1 : 0 < D.natAbs := by omega
  have h2 := Nat.gcd_pos_of_pos_right x.natAbs h1
  have h3 := Nat.le_of_dvd h1 (Nat.gcd_dvd_right x.natAbs D.natAbs)
  omega
theorem sp_partX {S : St} {x D : Int} {a3 : Int32} (hD : 0 < D) (hD2 : D ≤ 34012224000000) (hx : x.natAbs < 2 ^ 63) {post : Int64 → St → Prop} (h : post (frac x D a3) S) : wp_X5_partOfFraction S (zL x) (zL D) a3 post := by
  have hg := gcd_lt (x := x) hD hD2
  unfold wp_X5_partOfFraction wp_X5_commonDivisor
  rw [zL_abs hx, show zL D = lN D.natAbs by rw [← zL_lN]; congr 1; omega]
  refine comX_loop 45 _ _ 0 (by have : 2 ^ 45 = 35184372088832 := by decide
                                omega) (by omega) hx (by omega) (fun q => ?_)
  have hne : ¬ lN (Nat.gcd x.natAbs D.natAbs) = 0 := fun z => by have := (lN_0 hg.2).mp z; omega
  refine ⟨fun _ => ⟨fun h3 => ⟨hne, ?_⟩, fun h3 => ⟨hne, ?_⟩⟩, fun z => absurd z hne⟩
  · unfold frac at h
    rw [if_neg h3, show zL D = lN D.natAbs by rw [← zL_lN]; congr 1; omega] at h
    exact h
  · unfold frac at h
    rw [if_pos h3] at h
    exact h
theorem sp_partM {S : St} {x D : Int} {a3 : Int32} (hD : 0 < D) (hD2 : D ≤ 34012224000000) (hx : x.natAbs < 2 ^ 63) {post : Int64 → St → Prop} (h : post (frac x D a3) S) : wp_X6_part S (zL x) (zL D) a3 post := by
  have hg := gcd_lt (x := x) hD hD2
  intro x1 e1 x2 e2
  rw [zL_abs hx] at e1
  rw [zL_abs (by omega)] at e2
  subst e1
  subst e2
  refine comM_loop _ _ _ (Nat.le_refl _) hx (by omega) ?_
  have hne : ¬ lN (Nat.gcd x.natAbs D.natAbs) = 0 := fun z => by have := (lN_0 hg.2).mp z; omega
  refine ⟨fun h3 => ⟨hne, ?_⟩, fun h3 => ⟨hne, ?_⟩⟩
  · unfold frac at h
    rw [if_neg h3] at h
    exact h
  · unfold frac at h
    rw [if_pos h3] at h
    exact h
