/-! ===== pure: loops, masks ===== -/
/-- a counted loop: from place a up to N -/
theorem lp_up {X : Nat → Nat → Prop} {N a : Nat} (ha : a ≤ N) (hend : ∀ n, X (n + 1) N) (hstep : ∀ n i, a ≤ i → i < N → X n (i + 1) → X (n + 1) i) : ∃ n, X n a := by
  have key : ∀ k i, a ≤ i → i + k = N → X (k + 1) i := by
    intro k
    induction k with
    | zero =>
      intro i _ hi
      have e : i = N := by omega
      subst e
      exact hend 0
    | succ k ih =>
      intro i h1 hi
      exact hstep (k + 1) i h1 (by omega) (ih (i + 1) (by omega) (by omega))
  exact ⟨N - a + 1, key (N - a) a (Nat.le_refl a) (by omega)⟩
theorem lit32 (n : Nat) : (OfNat.ofNat n : Int32) = nI n := rfl
/-- the complement of b within a -/
def ldf (a b : Nat) : Nat := a &&& (b ^^^ 4294967295)
theorem all32 (i : Nat) : (4294967295 : Nat).testBit i = decide (i < 32) := by
  have h : (4294967295 : Nat) = 2 ^ 32 - 1 := by decide
  rw [h, Nat.testBit_two_pow_sub_one]
theorem ldf_bit {a b : Nat} (ha : a < 2 ^ 32) (i : Nat) : (ldf a b).testBit i = (a.testBit i && !b.testBit i) := by
  unfold ldf
  rw [Nat.testBit_and, Nat.testBit_xor, all32]
  by_cases h : i < 32
  · simp [h]
  · have : a.testBit i = false := Nat.testBit_lt_two_pow (Nat.lt_of_lt_of_le ha (Nat.pow_le_pow_right (by decide) (by omega)))
    simp [this]
theorem ldf_le (a b : Nat) : ldf a b ≤ a := Nat.and_le_left
theorem nI_m1 : (-1 : Int32) = nI 4294967295 := by decide
theorem nI_not (b : Nat) : nI b ^^^ (-1 : Int32) = nI (b ^^^ 4294967295) := by rw [nI_m1, fb_xorI]
theorem nI_ldf (a b : Nat) : nI a &&& (nI b ^^^ (-1 : Int32)) = nI (ldf a b) := by rw [nI_not, fa_and]; rfl
theorem s_l : ∀ n, n < 32 → ((nI n &&& 31).toBitVec.smod 32).toNat = n := by decide +kernel
theorem nI_pow {i : Nat} (h : i < 31) : (1 : Int32) <<< (nI i &&& 31) = nI (2 ^ i) := by
  have h1 : (1 : Int32) = nI 1 := rfl
  rw [h1, pk_shlN (n := 1) (nI i &&& 31) i (s_l i (by omega)) (by rw [Nat.one_mul]; exact Nat.pow_lt_pow_right (by decide) (by omega)), Nat.one_mul]
theorem nI_shr {g i : Nat} (hg : g < 2 ^ 31) (h : i < 32) : nI g >>> (nI i &&& 31) = nI (g / 2 ^ i) := pk_shrN hg (nI i &&& 31) i (s_l i h)
theorem nI_odd {g : Nat} (hg : g < 2 ^ 32) : nI g &&& 1 = nI (g % 2) := pk_andN hg (m := 1) 1 (by decide)
theorem bit_div (g i : Nat) : g.testBit i = decide (g / 2 ^ i % 2 = 1) := Nat.testBit_eq_decide_div_mod_eq
theorem is0 {g : Nat} (hg : g < 2 ^ 31) : nI g = 0 ↔ g = 0 := by rw [show (0 : Int32) = nI 0 from rfl, nI_eq hg (by decide)]
/-- one bit of a mask, as the code asks for it -/
theorem bit_ask {g i : Nat} (hg : g < 2 ^ 31) (hi : i < 32) : ((nI g >>> (nI i &&& 31)) &&& 1) = nI (if g.testBit i then 1 else 0) := by
  have hq : g / 2 ^ i < 2 ^ 32 := Nat.lt_of_le_of_lt (Nat.div_le_self _ _) (by omega)
  rw [nI_shr hg hi, nI_odd hq, bit_div]
  have h2 : g / 2 ^ i % 2 < 2 := Nat.mod_lt _ (by decide)
  congr 1
  by_cases h : g / 2 ^ i % 2 = 1 <;> simp [h] <;> omega
theorem bit_ask0 {g i : Nat} (hg : g < 2 ^ 31) (hi : i < 32) : ((nI g >>> (nI i &&& 31)) &&& 1) = 0 ↔ g.testBit i = false := by
  rw [bit_ask hg hi]
  cases g.testBit i <;> simp [nI_0] <;> decide
theorem bit_ask1 {g i : Nat} (hg : g < 2 ^ 31) (hi : i < 32) : ((nI g >>> (nI i &&& 31)) &&& 1) = 1 ↔ g.testBit i = true := by
  rw [bit_ask hg hi]
  cases g.testBit i <;> simp [nI_0] <;> decide
theorem sp_isIn {S : St} {g i : Nat} {post : Int32 → St → Prop} (hg : g < 2 ^ 31) (hi : i < 32) (h : post (if g.testBit i then 1 else 0) S) : wp_X5_isIn S (nI g) (nI i) post := by
  refine ⟨fun q => ?_, fun q => ?_⟩
  · rw [(bit_ask0 hg hi).mp q] at h
    exact h
  · have : g.testBit i = true := by
      cases hb : g.testBit i with
      | true => rfl
      | false => exact absurd ((bit_ask0 hg hi).mpr hb) q
    rw [this] at h
    exact h
/-- a branch over a truth value of 0 and 1 -/
theorem br_b {b : Bool} {A B : Prop} (hf : b = false → A) (ht : b = true → B) : ((if b then (1 : Int32) else 0) = 0 → A) ∧ (¬ ((if b then (1 : Int32) else 0) = 0) → B) := by
  cases b with
  | true => exact ⟨fun q => absurd q (by decide), fun _ => ht rfl⟩
  | false => exact ⟨fun _ => hf rfl, fun q => absurd rfl q⟩
theorem or_lt {a b n : Nat} (ha : a < 2 ^ n) (hb : b < 2 ^ n) : a ||| b < 2 ^ n := Nat.or_lt_two_pow ha hb
theorem pow_bit (i j : Nat) : (2 ^ i).testBit j = decide (i = j) := Nat.testBit_two_pow
theorem bit_lt {x n i : Nat} (hx : x < 2 ^ n) (h : x.testBit i = true) : i < n := by
  rcases Nat.lt_or_ge i n with q | q
  · exact q
  · rw [Nat.testBit_lt_two_pow (Nat.lt_of_lt_of_le hx (Nat.pow_le_pow_right (by decide) q))] at h
    cases h
/-- the mask of a set of places -/
def msk (p : Nat → Bool) : Nat → Nat
  | 0 => 0
  | n + 1 => if p n then msk p n ||| 2 ^ n else msk p n
theorem msk_lt (p : Nat → Bool) : ∀ n, msk p n < 2 ^ n
  | 0 => Nat.one_pos
  | n + 1 => by
    have ih := msk_lt p n
    have h1 : msk p n < 2 ^ (n + 1) := Nat.lt_trans ih (Nat.pow_lt_pow_right (by decide) (Nat.lt_succ_self n))
    show (if p n then msk p n ||| 2 ^ n else msk p n) < 2 ^ (n + 1)
    by_cases h : p n
    · rw [if_pos h]; exact or_lt h1 (Nat.pow_lt_pow_right (by decide) (Nat.lt_succ_self n))
    · rw [if_neg h]; exact h1
theorem msk_bit (p : Nat → Bool) : ∀ n i, (msk p n).testBit i = (decide (i < n) && p i)
  | 0, i => by simp [msk]
  | n + 1, i => by
    have ih := msk_bit p n i
    show (if p n then msk p n ||| 2 ^ n else msk p n).testBit i = _
    by_cases h : p n = true
    · rw [if_pos h, Nat.testBit_or, ih, pow_bit]
      by_cases e : n = i
      · subst e; simp [h]
      · by_cases l : i < n
        · simp [l, e, Nat.lt_succ_of_lt l]
        · have : ¬ i < n + 1 := by omega
          simp [l, e, this]
    · rw [if_neg h, ih]
      by_cases e : n = i
      · subst e; simp at h; simp [h]
      · by_cases l : i < n
        · simp [l, Nat.lt_succ_of_lt l]
        · have : ¬ i < n + 1 := by omega
          simp [l, this]
theorem eq_bits {a b : Nat} (h : ∀ i, a.testBit i = b.testBit i) : a = b := Nat.eq_of_testBit_eq h
/-- how many places a mask has -/
def pc (g : Nat) : Nat := fb_ct (fun i => g.testBit i) 8
def bcF (a1 : Int32) : Int32 :=
  let x1 : Int32 := a1 - ((((a1).toUInt32 >>> (((1 : Int32)).toUInt32 &&& Int32.toUInt32 31)).toInt32) &&& (1431655765 : Int32))
  let x2 : Int32 := (x1 &&& (858993459 : Int32)) + ((((x1).toUInt32 >>> (((2 : Int32)).toUInt32 &&& Int32.toUInt32 31)).toInt32) &&& (858993459 : Int32))
  let x3 : Int32 := (x2 + (((x2).toUInt32 >>> (((4 : Int32)).toUInt32 &&& Int32.toUInt32 31)).toInt32)) &&& (252645135 : Int32)
  let x4 : Int32 := x3 + (((x3).toUInt32 >>> (((8 : Int32)).toUInt32 &&& Int32.toUInt32 31)).toInt32)
  let x5 : Int32 := x4 + (((x4).toUInt32 >>> (((16 : Int32)).toUInt32 &&& Int32.toUInt32 31)).toInt32)
  x5 &&& (63 : Int32)
theorem bc_ok : ∀ g, g < 256 → bcF (nI g) = nI (pc g) := by decide +kernel
theorem sp_bitCount {S : St} {g : Nat} {post : Int32 → St → Prop} (hg : g < 256) (h : post (nI (pc g)) S) : wp_J6_bitCount_0f7a4 S (nI g) post := by
  rw [← bc_ok g hg] at h
  intro x1 h1 x2 h2 x3 h3 x4 h4 x5 h5
  subst h1 h2 h3 h4 h5
  exact h
