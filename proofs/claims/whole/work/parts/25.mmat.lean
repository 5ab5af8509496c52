/-- the matrices of works: off the diagonal nothing positive, no column's sum negative, each column leads to one with a positive sum -/
def csum (k : Nat) (B : Nat → Nat → Int) (j : Nat) : Int := fb_si (fun i => B i j) k
def MM (k : Nat) (B : Nat → Nat → Int) : Prop := (∀ i j, i < k → j < k → i ≠ j → B i j ≤ 0) ∧ (∀ j, j < k → 0 ≤ csum k B j) ∧ ∀ j, j < k → ∀ P : Nat → Prop, (∀ j, j < k → 0 < csum k B j → P j) → (∀ i j, i < k → j < k → B i j < 0 → P i → P j) → P j
def elm (k : Nat) (B : Nat → Nat → Int) (i c : Nat) : Int := B k k * B i c - B i k * B k c
theorem si_nonpos {f : Nat → Int} : ∀ {n : Nat}, (∀ i, i < n → f i ≤ 0) → fb_si f n ≤ 0
  | 0, _ => Int.le_refl 0
  | n + 1, h => by
    have h1 := si_nonpos (fun i hi => h i (Nat.lt_succ_of_lt hi))
    have h2 := h n (Nat.lt_succ_self n)
    rw [fb_si_succ]
    omega
theorem si_nonneg {f : Nat → Int} : ∀ {n : Nat}, (∀ i, i < n → 0 ≤ f i) → 0 ≤ fb_si f n
  | 0, _ => Int.le_refl 0
  | n + 1, h => by
    have h1 := si_nonneg (fun i hi => h i (Nat.lt_succ_of_lt hi))
    have h2 := h n (Nat.lt_succ_self n)
    rw [fb_si_succ]
    omega
theorem si_zero_of {f : Nat → Int} : ∀ {n : Nat}, (∀ i, i < n → f i ≤ 0) → 0 ≤ fb_si f n → ∀ i, i < n → f i = 0
  | 0, _, _, i, hi => absurd hi (Nat.not_lt_zero i)
  | n + 1, h, hs, i, hi => by
    rw [fb_si_succ] at hs
    have h1 := si_nonpos (f := f) (n := n) (fun i hi => h i (Nat.lt_succ_of_lt hi))
    have h2 := h n (Nat.lt_succ_self n)
    by_cases e : i = n
    · subst e; omega
    · exact si_zero_of (fun i hi => h i (Nat.lt_succ_of_lt hi)) (by omega) i (by omega)
theorem MM.diag {k : Nat} {B : Nat → Nat → Int} (h : MM (k + 1) B) : 0 < B k k := by
  obtain ⟨h1, h2, h3⟩ := h
  have hc := h2 k (Nat.lt_succ_self k)
  rw [csum, fb_si_succ] at hc
  have hn : ∀ i, i < k → B i k ≤ 0 := fun i hi => h1 i k (by omega) (by omega) (by omega)
  have hs := si_nonpos hn
  rcases Int.lt_or_le 0 (B k k) with q | q
  · exact q
  · exfalso
    have hz := si_zero_of (f := fun i => B i k) hn (by omega)
    have hzs : fb_si (fun i => B i k) k = 0 := by rw [fb_si_cong (g := fun _ => 0) (fun i hi => hz i hi), si_zero]
    refine h3 k (Nat.lt_succ_self k) (fun j => j ≠ k) (fun j _ hj e => ?_) (fun i j hi hj hb _ e => ?_) rfl
    · subst e
      rw [csum, fb_si_succ] at hj
      omega
    · subst e
      by_cases e2 : i = j
      · subst e2; omega
      · have := hz i (by omega); omega
theorem elim_col {k : Nat} {B : Nat → Nat → Int} (j : Nat) : csum k (elm k B) j = B k k * csum (k + 1) B j - csum (k + 1) B k * B k j := by
  unfold csum elm
  rw [fb_si_succ, fb_si_succ, fb_si_sub, fb_si_mul]
  have e : fb_si (fun i => B i k * B k j) k = fb_si (fun i => B i k) k * B k j := by
    rw [Int.mul_comm, ← fb_si_mul]
    exact fb_si_cong (fun i _ => Int.mul_comm _ _)
  rw [e, Int.mul_add, Int.add_mul]
  omega
theorem MM.red {k : Nat} {B : Nat → Nat → Int} (h : MM (k + 1) B) : MM k (elm k B) := by
  have hd := h.diag
  obtain ⟨h1, h2, h3⟩ := h
  have off : ∀ i, i < k → B i k ≤ 0 := fun i hi => h1 i k (by omega) (by omega) (by omega)
  have offr : ∀ j, j < k → B k j ≤ 0 := fun j hj => h1 k j (by omega) (by omega) (by omega)
  have hck := h2 k (Nat.lt_succ_self k)
  have pos : ∀ i j, i < k → j < k → 0 ≤ B i k * B k j := fun i j hi hj => Int.mul_nonneg_of_nonpos_of_nonpos (off i hi) (offr j hj)
  have diag : ∀ j, j < k → 0 ≤ B j j := fun j hj => by
    have hc := h2 j (by omega)
    rcases Int.lt_or_le (B j j) 0 with q | q
    · exfalso
      have hn : ∀ i, i < k + 1 → B i j ≤ 0 := fun i hi => by
        by_cases e : i = j
        · rw [e]; omega
        · exact h1 i j hi (by omega) e
      have := si_zero_of (f := fun i => B i j) hn hc j (by omega)
      omega
    · exact q
  refine ⟨fun i j hi hj hij => ?_, fun j hj => ?_, fun j hj P hb hs => ?_⟩
  · have a1 := h1 i j (by omega) (by omega) hij
    have a2 := pos i j hi hj
    have a3 : B k k * B i j ≤ 0 := Int.mul_nonpos_of_nonneg_of_nonpos (by omega) a1
    unfold elm
    omega
  · rw [elim_col]
    have a1 : 0 ≤ B k k * csum (k + 1) B j := Int.mul_nonneg (by omega) (h2 j (by omega))
    have a2 : csum (k + 1) B k * B k j ≤ 0 := Int.mul_nonpos_of_nonneg_of_nonpos hck (offr j hj)
    omega
  · have key := h3 j (by omega) (fun x => (x < k → P x) ∧ (x = k → ∀ j, j < k → B k j < 0 → P j)) ?_ ?_
    · exact key.1 hj
    · intro x hx hc
      refine ⟨fun hxk => hb x hxk ?_, fun e j hj hbj => hb j hj ?_⟩
      · rw [elim_col]
        have a1 : 0 < B k k * csum (k + 1) B x := Int.mul_pos hd hc
        have a2 : csum (k + 1) B k * B k x ≤ 0 := Int.mul_nonpos_of_nonneg_of_nonpos hck (offr x hxk)
        omega
      · subst e
        rw [elim_col]
        have a1 : 0 ≤ B x x * csum (x + 1) B j := Int.mul_nonneg (by omega) (h2 j (by omega))
        have a2 : csum (x + 1) B x * B x j < 0 := Int.mul_neg_of_pos_of_neg hc hbj
        omega
    · intro i x hi hx hbx hP
      refine ⟨fun hxk => ?_, fun e j hj hbj => ?_⟩
      · by_cases hik : i < k
        · refine hs i x hik hxk ?_ (hP.1 hik)
          have a2 := pos i x hik hxk
          have a3 : B k k * B i x < 0 := Int.mul_neg_of_pos_of_neg hd hbx
          show B k k * B i x - B i k * B k x < 0
          omega
        · have e : i = k := by omega
          subst e
          exact hP.2 rfl x hxk hbx
      · subst e
        by_cases hik : i < x
        · by_cases e2 : i = j
          · subst e2; exact hP.1 hik
          · refine hs i j hik hj ?_ (hP.1 hik)
            have a1 := h1 i j (by omega) (by omega) e2
            have a2 : 0 < B i x * B x j := Int.mul_pos_of_neg_of_neg hbx hbj
            have a3 : B x x * B i j ≤ 0 := Int.mul_nonpos_of_nonneg_of_nonpos (by omega) a1
            show B x x * B i j - B i x * B x j < 0
            omega
        · have e : i = x := by omega
          subst e
          omega
/-- rows without anything in a column give nothing on a mask with it -/
theorem lpl_col0 {p : Nat} : ∀ (rs : List (Nat → Int)), (∀ r ∈ rs, r p = 0) → ∀ C, C < 128 → C.testBit p = true → lpl rs C = 0
  | [], _, C, _, hp => by
    show dl C = 0
    unfold dl
    rw [if_neg]
    intro e
    rw [e] at hp
    simp at hp
  | r :: rs, h, C, hC, hp => by
    show Lop r (lpl rs) C = 0
    unfold Lop
    rw [fb_si_cong (g := fun _ => 0), si_zero]
    intro c _
    by_cases e : c = p
    · subst e; rw [h r List.mem_cons_self]; simp
    · cases hb : C.testBit c with
      | false => rfl
      | true =>
        rw [lpl_col0 rs (fun q hq => h q (List.mem_cons_of_mem _ hq)) (del C c) (del_lt hC c) (by rw [del_bit (Nat.lt_trans hC (by decide)), hp]; simp [e])]
        simp
theorem elim_rows {k : Nat} {B : Nat → Nat → Int} : ∀ (l : List Nat) (C : Nat), C < 128 → lpl (l.map (elm k B) ++ [B k]) C = (B k k) ^ l.length * lpl (l.map B ++ [B k]) C
  | [], C, _ => by simp
  | i :: l, C, hC => by
    show Lop (elm k B i) (lpl (l.map (elm k B) ++ [B k])) C = (B k k) ^ (l.length + 1) * Lop (B i) (lpl (l.map B ++ [B k])) C
    have h1 := Lop_lin (B k k) (- B i k) (B i) (B k) (lpl (l.map (elm k B) ++ [B k])) C
    have e : elm k B i = fun c => B k k * B i c + - B i k * B k c := funext fun c => by unfold elm; rw [Int.neg_mul]; omega
    rw [e, h1, lpl_mem (List.mem_append_right _ List.mem_cons_self) C hC, Int.mul_zero, Int.add_zero]
    have h2 : EqM (lpl (l.map (elm k B) ++ [B k])) (fun D => (B k k) ^ l.length * lpl (l.map B ++ [B k]) D) := fun D hD => elim_rows l D hD
    rw [Lop_congr h2 C hC, Lop_smul, Int.pow_succ, Int.mul_comm ((B k k) ^ l.length) (B k k), Int.mul_assoc]
def okF (k : Nat) : Bool := (sL (full (k + 1)) k == sg k) && (del (full (k + 1)) k == full k)
theorem okF_all : ∀ k, k < 6 → okF k = true := by decide +kernel
theorem elim_det {k : Nat} (hk : k < 6) (B : Nat → Nat → Int) : B k k * dt k (elm k B) = (B k k) ^ k * dt (k + 1) B := by
  have hf : full (k + 1) < 128 := Nat.lt_trans (full_lt (by omega)) (by decide)
  have h1 := elim_rows (k := k) (B := B) (List.range k) (full (k + 1)) hf
  rw [List.length_range] at h1
  have e1 : (List.range k).map B ++ [B k] = (List.range (k + 1)).map B := by rw [List.range_succ, List.map_append]; rfl
  rw [e1] at h1
  have h2 := lpl_front (B k) [] ((List.range k).map (elm k B)) (full (k + 1)) hf
  dsimp only at h2
  rw [List.append_nil, List.length_map, List.length_range] at h2
  have ok := okF_all k hk
  simp only [okF, Bool.and_eq_true, beq_iff_eq] at ok
  have h3 : Lop (B k) (lpl ((List.range k).map (elm k B))) (full (k + 1)) = sg k * B k k * dt k (elm k B) := by
    unfold Lop
    rw [si_one (w := k) _ (by omega)]
    · rw [if_pos (by rw [full_bit]; simp), ok.1, ok.2]
      rfl
    · intro c hc
      cases hb : (full (k + 1)).testBit c with
      | false => rfl
      | true =>
        rw [lpl_col0 (p := k) _ (fun r hr => by
          obtain ⟨i, -, rfl⟩ := List.mem_map.mp hr
          unfold elm
          rw [Int.mul_comm]; omega) _ (del_lt hf c) (by rw [del_bit (Nat.lt_trans hf (by decide)), full_bit]; simp [hc])]
        simp
  rw [h3, ← Int.mul_assoc, ← Int.mul_assoc, sg_sq, Int.one_mul] at h2
  show B k k * dt k (elm k B) = (B k k) ^ k * lpl ((List.range (k + 1)).map B) (full (k + 1))
  rw [← h1, ← h2]
theorem elim_rpc {k j : Nat} (hj : j < k) (B : Nat → Nat → Int) (b : Nat → Int) : elm k (rpc B b j) = rpc (elm k B) (fun i => B k k * b i - B i k * b k) j := by
  funext i c
  unfold elm rpc
  by_cases e : c = j
  · subst e
    simp [show ¬ k = c by omega]
  · simp [e, show ¬ k = j by omega]
theorem dt_on {k : Nat} (hk : k ≤ 6) {A B : Nat → Nat → Int} (h : ∀ i c, i < k → c < k → A i c = B i c) : dt k A = dt k B := lpl_on (P := fun c => c < k) _ (fun i hi c hc => h i c (List.mem_range.mp hi) hc) _ (Nat.lt_trans (full_lt hk) (by decide)) (fun c hc => by rw [full_bit] at hc; simpa using hc)
theorem MM.pos : ∀ {k : Nat}, k ≤ 6 → ∀ {B : Nat → Nat → Int}, MM k B → 0 < dt k B ∧ ∀ b : Nat → Int, (∀ i, i < k → 0 ≤ b i) → ∀ j, j < k → 0 ≤ nu k B b j
  | 0, _, B, _ => ⟨(show (0 : Int) < dl 0 by decide), fun _ _ j hj => absurd hj (Nat.not_lt_zero j)⟩
  | k + 1, hk, B, h => by
    have hd := h.diag
    have ih := MM.pos (k := k) (by omega) h.red
    have hpow : 0 < (B k k) ^ k := Int.pow_pos hd
    have hdet : 0 < dt (k + 1) B := by
      have e := elim_det (k := k) (by omega) B
      have h1 : 0 < B k k * dt k (elm k B) := Int.mul_pos hd ih.1
      rw [e] at h1
      rcases Int.lt_or_le 0 (dt (k + 1) B) with q | q
      · exact q
      · have := Int.mul_nonpos_of_nonneg_of_nonpos (Int.le_of_lt hpow) q
        omega
    refine ⟨hdet, fun b hb => ?_⟩
    have off : ∀ i, i < k → B i k ≤ 0 := fun i hi => h.1 i k (by omega) (by omega) (by omega)
    have offr : ∀ j, j < k → B k j ≤ 0 := fun j hj => h.1 k j (by omega) (by omega) (by omega)
    have low : ∀ j, j < k → 0 ≤ nu (k + 1) B b j := by
      intro j hj
      have e := elim_det (k := k) (by omega) (rpc B b j)
      rw [elim_rpc hj] at e
      have ekk : rpc B b j k k = B k k := if_neg (by omega)
      rw [ekk] at e
      have h1 : 0 ≤ B k k * nu k (elm k B) (fun i => B k k * b i - B i k * b k) j := by
        refine Int.mul_nonneg (by omega) (ih.2 _ (fun i hi => ?_) j hj)
        have a1 : 0 ≤ B k k * b i := Int.mul_nonneg (by omega) (hb i (by omega))
        have a2 : B i k * b k ≤ 0 := Int.mul_nonpos_of_nonpos_of_nonneg (off i hi) (hb k (by omega))
        omega
      have e2 : B k k * nu k (elm k B) (fun i => B k k * b i - B i k * b k) j = (B k k) ^ k * nu (k + 1) B b j := e
      rw [e2] at h1
      rcases Int.lt_or_le (nu (k + 1) B b j) 0 with q | q
      · have := Int.mul_neg_of_pos_of_neg hpow q
        omega
      · exact q
    intro j hj
    by_cases e : j < k
    · exact low j e
    · have ej : j = k := by omega
      subst ej
      have hc := cramer (k := j + 1) hk B b (fun i => if i = j then 1 else 0)
      have r1 : ∀ f : Nat → Int, fb_si (fun i => (if i = j then 1 else 0) * f i) (j + 1) = f j := fun f => by
        rw [si_one (w := j) _ (Nat.lt_succ_self j) (fun c hc => by rw [if_neg hc, Int.zero_mul]), if_pos rfl, Int.one_mul]
      have r2 : (fun c => fb_si (fun i => (if i = j then 1 else 0) * B i c) (j + 1) * nu (j + 1) B b c) = (fun c => B j c * nu (j + 1) B b c) := funext fun c => by rw [r1 (fun i => B i c)]
      rw [r2, r1 b, fb_si_succ] at hc
      have s1 : fb_si (fun c => B j c * nu (j + 1) B b c) j ≤ 0 := si_nonpos (fun c hc => Int.mul_nonpos_of_nonpos_of_nonneg (offr c hc) (low c hc))
      have s2 : 0 ≤ b j * dt (j + 1) B := Int.mul_nonneg (hb j (by omega)) (Int.le_of_lt hdet)
      have s3 : 0 ≤ B j j * nu (j + 1) B b j := by omega
      rcases Int.lt_or_le (nu (j + 1) B b j) 0 with q | q
      · have := Int.mul_neg_of_pos_of_neg hd q
        omega
      · exact q
