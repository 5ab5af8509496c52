/-! ===== pure: the class's prices: the six rows, the minors, the answers ===== -/
def zL (x : Int) : Int64 := Int64.ofInt x
theorem zL_add (a b : Int) : zL a + zL b = zL (a + b) := (Int64.ofInt_add a b).symm
theorem zL_sub (a b : Int) : zL a - zL b = zL (a - b) := (Int64.ofInt_sub a b).symm
theorem zL_mul (a b : Int) : zL a * zL b = zL (a * b) := (Int64.ofInt_mul a b).symm
theorem zL_neg (a : Int) : - zL a = zL (- a) := (Int64.ofInt_neg a).symm
theorem zL_nI {n : Nat} (h : n < 2 ^ 31) : (nI n).toInt64 = zL n := by rw [nI_l h]; exact Int64.ofInt_eq_ofNat.symm
theorem zL_nIneg {n : Nat} (h : n < 2 ^ 31) : (-(nI n)).toInt64 = zL (-(n : Int)) := by
  rw [← Int64.ofInt_int32ToInt, sb_negT h]
  rfl
theorem XW.eq {S S' : St} {d : Dw} (h : XW S d) (e : S'.1 = S.1) : XW S' d := h.keep (fun k _ => by rw [e])
theorem XI.eq {S S' : St} {d : Dw} (h : XI S d) (e : S'.1 = S.1) : XI S' d := ⟨h.1, h.2.1.eq e, fun u hu => by rw [e]; exact h.2.2.1 u hu, fun g hg => by rw [e]; exact h.2.2.2 g hg⟩
theorem sp_fillRow {S : St} {d : Dw} (hd : Okd d) (hW : XW S d) {r t : Nat} (hr : r < 6) (ht : t ≤ 126) {post : St → Prop} (h : ∀ S', S'.1 = S.1 → (∀ k, k ≠ 55 + r → k ≠ 17 → S'.2 k = S.2 k) → (∀ c, c < 6 → S'.2 (55 + r) c = zL (if c = r then (t : Int) else -(dfd d c r : Int))) → (∀ q, q ≠ r → S'.2 17 q = S.2 17 q) → S'.2 17 r = zL (wcost d r t) → post S') : wp_X1_fillRow S (nI r) (nI t) post := by
  let st : Nat → St := fun i => (S.1, fun a b => if a = 55 + r ∧ b < i then zL (-(dfd d b r : Int)) else S.2 a b)
  have e0 : st 0 = S := Prod.ext rfl (funext fun a => funext fun b => if_neg (fun q => Nat.not_lt_zero _ q.2))
  have hin := vp_in_nI hr (N := 6) (by decide)
  have hk : ∀ S1 : St, S1 = st 6 → (vp_in (nI r) 6) ∧ ((vp_in (nI r) 6) ∧ (∀ S5 : St, S5 = uJ S1 (55 + (nI r).toNatClampNeg) (nI r).toNatClampNeg (nI t).toInt64 → wp_X4_costAt S5 (nI r) (nI t) (fun (r7 : Int32) (S6 : St) => (vp_in (nI r) 6) ∧ (∀ S9 : St, S9 = uJ S6 17 (nI r).toNatClampNeg r7.toInt64 → post S9)))) := by
    intro S1 e1
    refine ⟨hin, hin, fun S5 e5 => ?_⟩
    rw [nI_clamp (by omega), zL_nI (by omega)] at e5
    have h51 : S5.1 = S.1 := by rw [e5, e1]; rfl
    refine sp_costAt (hW.eq h51) hr ht ⟨hin, fun S9 e9 => ?_⟩
    rw [nI_clamp (by omega), zL_nI (by have := wcost_le hd r ht; omega)] at e9
    refine h S9 (by rw [e9]; exact h51) (fun k h1 h2 => ?_) (fun c hc => ?_) (fun q hq => ?_) ?_
    · rw [e9, uJ_row h2, e5, uJ_row h1, e1]
      exact funext fun b => if_neg (fun q => h1 q.1)
    · rw [e9, uJ_row (by omega), e5]
      by_cases ec : c = r
      · subst ec; rw [uJ_at, if_pos rfl]
      · rw [uJ_ne (fun q => ec q.2), if_neg ec, e1]
        exact if_pos ⟨rfl, hc⟩
    · rw [e9, uJ_ne (fun z => hq z.2), e5, uJ_row (by omega), e1]
      exact if_neg (fun z => by have := z.1; omega)
    · rw [e9, uJ_at]
  have hgo : ∃ f, wL_X1_fillRow_3 (nI r) (nI t) (fun (_ : Int32) (S1 : St) => (vp_in (nI r) 6) ∧ ((vp_in (nI r) 6) ∧ (∀ S5 : St, S5 = uJ S1 (55 + (nI r).toNatClampNeg) (nI r).toNatClampNeg (nI t).toInt64 → wp_X4_costAt S5 (nI r) (nI t) (fun (r7 : Int32) (S6 : St) => (vp_in (nI r) 6) ∧ (∀ S9 : St, S9 = uJ S6 17 (nI r).toNatClampNeg r7.toInt64 → post S9))))) f (nI 0) (st 0) := by
    refine lp_up (X := fun f i => wL_X1_fillRow_3 (nI r) (nI t) _ f (nI i) (st i)) (Nat.zero_le 6) (fun f => ?_) (fun f i _ hi hrec => ?_)
    · exact ⟨fun _ => hk _ rfl, fun q => absurd (by decide) q⟩
    · refine ⟨fun q => absurd q (nI_ge (a := i) (b := 6) hi (by decide)), fun _ => ⟨hin, vp_in_nI hi (by decide), hin, vp_in_nI hi (by decide), fun S5 e => ?_⟩⟩
      have h9 := hd.2.2.2.2.1 i r
      rw [nI_clamp (by omega), nI_clamp (by omega), show (st i).1 = S.1 from rfl, hW.2.2.2.2 i r hi hr, zL_nIneg (by omega)] at e
      have e2 : S5 = st (i + 1) := by
        rw [e]
        refine Prod.ext rfl ?_
        funext a b
        show (if a = 55 + r ∧ b = i then _ else if a = 55 + r ∧ b < i then _ else S.2 a b) = (if a = 55 + r ∧ b < i + 1 then _ else S.2 a b)
        by_cases h1 : a = 55 + r <;> by_cases h2 : b = i <;> by_cases h3 : b < i <;> simp [h1, h2, h3] <;> omega
      rw [e2, nI_1]
      exact hrec
  rw [e0] at hgo
  exact hgo
theorem sp_fillIdle {S : St} {r : Nat} (hr : r < 6) {post : St → Prop} (h : ∀ S', S'.1 = S.1 → (∀ k, k ≠ 55 + r → k ≠ 17 → S'.2 k = S.2 k) → (∀ c, c < 6 → S'.2 (55 + r) c = zL (eu r c)) → (∀ q, q ≠ r → S'.2 17 q = S.2 17 q) → S'.2 17 r = zL 0 → post S') : wp_X1_fillIdleRow S (nI r) post := by
  have hin := vp_in_nI hr (N := 6) (by decide)
  unfold wp_X1_fillIdleRow
  rw [nI_clamp (by omega)]
  refine ⟨hin, sp_fillJ (by decide) ⟨hin, hin, fun S6 e6 => ⟨hin, fun S8 e8 => h S8 ?_ (fun k h1 h2 => ?_) (fun c hc => ?_) (fun q hq => ?_) ?_⟩⟩⟩
  · rw [e8, e6]; rfl
  · rw [e8, uJ_row h2, e6, uJ_row h1]
    exact funext fun b => if_neg (fun q => h1 q.1)
  · rw [e8, uJ_row (by omega), e6]
    unfold eu
    by_cases ec : c = r
    · subst ec; rw [uJ_at, if_pos rfl]; rfl
    · rw [uJ_ne (fun q => ec q.2), if_neg ec]
      exact if_pos ⟨rfl, hc⟩
  · rw [e8, uJ_ne (fun z => hq z.2), e6, uJ_row (by omega)]
    exact if_neg (fun z => by have := z.1; omega)
  · rw [e8, uJ_at]; rfl
/-- the rows as they stand in the memory -/
def RowsX (S : St) (A : Nat → Nat → Int) (b : Nat → Int) : Prop := (∀ r c, r < 6 → c < 6 → S.2 (55 + r) c = zL (A r c)) ∧ ∀ r, r < 6 → S.2 17 r = zL (b r)
def Arp (A : Nat → Nat → Int) (b : Nat → Int) (p : Int32) (r c : Nat) : Int := if nI c = p then b r else A r c
def wv (A : Nat → Nat → Int) (k : Nat) : Nat → Int := rpl ((List.range k).map A) dl
theorem rpl_snoc (r : Nat → Int) : ∀ (l : List (Nat → Int)) (w : Nat → Int), rpl (l ++ [r]) w = Rop r (rpl l w)
  | [], _ => rfl
  | a :: l, w => rpl_snoc r l (Rop a w)
theorem wv_succ (A : Nat → Nat → Int) (k : Nat) : wv A (k + 1) = Rop (A k) (wv A k) := by
  unfold wv
  rw [List.range_succ, List.map_append, List.map_cons, List.map_nil, rpl_snoc]
def okM (C c : Nat) : Bool := !C.testBit c || ((pc (del C c) + 1 == pc C) && (sR C c == if pc (C / 2 ^ (c + 1)) % 2 = 0 then 1 else -1) && decide (del C c < C) && decide (C / 2 ^ (c + 1) < 64) && decide (pc (C / 2 ^ (c + 1)) ≤ 8))
theorem okM_all : ∀ C, C < 64 → ∀ c, c < 6 → okM C c = true := by decide +kernel
theorem pc_pos : ∀ C, C < 64 → 0 < C → 0 < pc C ∧ pc C ≤ 6 := by decide +kernel
/-- one minor: the sum over the columns below c -/
def mnS (A : Nat → Nat → Int) (k C : Nat) (i : Nat) : Int := fb_si (fun c => if C.testBit c then sR C c * A k c * wv A k (del C c) else 0) i
theorem mns_end (A : Nat → Nat → Int) {C k : Nat} (hC : C < 64) : mnS A k C 6 = wv A (k + 1) C := by
  rw [wv_succ]
  unfold mnS Rop
  rw [fb_si_succ _ 6, Nat.testBit_lt_two_pow (show C < 2 ^ 6 from hC)]
  simp
theorem minor_loop {S : St} {A : Nat → Nat → Int} {b : Nat → Int} {p : Int32} {C k : Nat} (hR : RowsX S A b) (hC : C < 64) (hk : pc C = k + 1) (hk6 : k < 6) (hmin : ∀ D, D < C → S.2 18 D = zL (wv (Arp A b p) (pc D) D)) {K : Int64 → Int32 → St → Prop} (h : K (zL (wv (Arp A b p) (k + 1) C)) 6 S) : ∃ f, wL_X1_minorOf_13 (nI C) p (nI k) K f 0 0 S := by
  rw [← mns_end _ hC] at h
  refine lp_up (X := fun f i => wL_X1_minorOf_13 (nI C) p (nI k) K f (zL (mnS (Arp A b p) k C i)) (nI i) S) (Nat.zero_le 6) (fun f => ⟨fun _ => h, fun q => absurd (by decide) q⟩) (fun f i _ hi hrec => ?_)
  refine ⟨fun q => absurd q (nI_ge (a := i) (b := 6) hi (by decide)), fun _ => ?_⟩
  have e0 : mnS (Arp A b p) k C (i + 1) = mnS (Arp A b p) k C i + (if C.testBit i then sR C i * Arp A b p k i * wv (Arp A b p) k (del C i) else 0) := fb_si_succ _ _
  refine sp_isIn (by omega) (by omega) (br_b (fun hb => ?_) (fun hb => ?_))
  · rw [hb] at e0
    simp only [Bool.false_eq_true, if_false, Int.add_zero] at e0
    rw [e0] at hrec
    rw [nI_1]
    exact hrec
  · have ok := okM_all C hC i hi
    simp only [okM, hb, Bool.not_true, Bool.false_or, Bool.and_eq_true, beq_iff_eq, decide_eq_true_eq] at ok
    obtain ⟨⟨⟨⟨o1, o2⟩, o3⟩, o4⟩, o5⟩ := ok
    have hmk : nI C &&& (((1 : Int32) <<< (nI i &&& 31)) ^^^ (-1 : Int32)) = nI (del C i) := by rw [nI_pow (by omega), nI_ldf]; rfl
    have hdl : del C i < 64 := by omega
    have hpk : pc (del C i) = k := by omega
    have hmv : S.2 18 (del C i) = zL (wv (Arp A b p) k (del C i)) := by rw [hmin _ o3, hpk]
    have hsh : nI C >>> ((nI i + (1 : Int32)) &&& 31) = nI (C / 2 ^ (i + 1)) := by rw [nI_1, nI_shr (by omega) (by omega)]
    rw [hb, if_pos rfl] at e0
    -- the sign and the sum, for a factor f
    have fin : ∀ x5 x7 : Int64, x5 = zL (Arp A b p k i) → x7 = x5 * (S.2 18 (nI (del C i)).toNatClampNeg) → wp_J6_bitCount_0f7a4 S (nI C >>> ((nI i + (1 : Int32)) &&& 31)) (fun (r9 : Int32) (S8 : St) => ((r9 &&& (1 : Int32)) = 0 → ∀ x10 : Int64, x10 = (zL (mnS (Arp A b p) k C i) + x7) → wL_X1_minorOf_13 (nI C) p (nI k) K f x10 (nI i + 1) S8) ∧ (¬ ((r9 &&& (1 : Int32)) = 0) → ∀ x11 : Int64, x11 = (zL (mnS (Arp A b p) k C i) + (-x7)) → wL_X1_minorOf_13 (nI C) p (nI k) K f x11 (nI i + 1) S8)) := by
      intro x5 x7 e5 e7
      rw [e5, nI_clamp (by omega), hmv, zL_mul] at e7
      rw [hsh]
      refine sp_bitCount (by omega) ?_
      rw [nI_odd (by omega)]
      refine ⟨fun q x10 e => ?_, fun q x11 e => ?_⟩
      · have hz := (is0 (by omega)).mp q
        rw [o2, if_pos hz, Int.one_mul] at e0
        rw [e7, zL_add, ← e0] at e
        rw [e, nI_1]
        exact hrec
      · have hz : ¬ pc (C / 2 ^ (i + 1)) % 2 = 0 := fun z => q (by rw [z]; rfl)
        rw [o2, if_neg hz, Int.neg_one_mul, Int.neg_mul] at e0
        rw [e7, zL_neg, zL_add, ← e0] at e
        rw [e, nI_1]
        exact hrec
    refine ⟨fun hne => ⟨vp_in_nI hk6 (by decide), vp_in_nI hi (by decide), fun x5 e5 => ⟨?_, fun x7 e7 => ?_⟩⟩, fun heq => ⟨vp_in_nI hk6 (by decide), fun x13 e13 => ⟨?_, fun x15 e15 => ?_⟩⟩⟩
    · rw [hmk]; exact vp_in_nI hdl (by decide)
    · rw [hmk] at e7
      refine fin x5 x7 ?_ e7
      rw [e5, nI_clamp (by omega), nI_clamp (by omega), hR.1 k i hk6 hi]
      unfold Arp
      rw [if_neg hne]
    · rw [hmk]; exact vp_in_nI hdl (by decide)
    · rw [hmk] at e15
      refine fin x13 x15 ?_ e15
      rw [e13, nI_clamp (by omega), hR.2 k hk6]
      unfold Arp
      rw [if_pos heq]
theorem sp_minorOf {S : St} {A : Nat → Nat → Int} {b : Nat → Int} {p : Int32} {C : Nat} (hR : RowsX S A b) (hC : C < 64) (hC0 : 0 < C) (hmin : ∀ D, D < C → S.2 18 D = zL (wv (Arp A b p) (pc D) D)) {post : Int64 → St → Prop} (h : post (zL (wv (Arp A b p) (pc C) C)) S) : wp_X1_minorOf S (nI C) p post := by
  have hp := pc_pos C hC hC0
  refine sp_bitCount (by omega) (fun x3 e => ?_)
  have e2 : nI (pc C) - 1 = nI (pc C - 1) := by rw [show (1 : Int32) = nI 1 from rfl, pk_sub (by omega)]
  rw [e2] at e
  subst e
  have hk : pc C = (pc C - 1) + 1 := by omega
  rw [hk] at h
  exact minor_loop hR hC hk (by omega) hmin h
/-- the determinant with the costs in place of column p -/
theorem sp_detX {S : St} {A : Nat → Nat → Int} {b : Nat → Int} {p : Int32} (hR : RowsX S A b) {post : Int64 → St → Prop} (h : ∀ S', S'.1 = S.1 → (∀ k, k ≠ 18 → S'.2 k = S.2 k) → post (zL (wv (Arp A b p) 6 63)) S') : wp_X1_determinant S p post := by
  intro S1 e1
  let st : Nat → St := fun i => (S.1, fun a D => if a = 18 ∧ D < i then zL (wv (Arp A b p) (pc D) D) else S.2 a D)
  have hs : ∀ i k, k ≠ 18 → (st i).2 k = S.2 k := fun i k hk => funext fun b => if_neg (fun q => hk q.1)
  have hRi : ∀ i, RowsX (st i) A b := fun i => ⟨fun r c hr hc => by rw [hs i _ (by omega)]; exact hR.1 r c hr hc, fun r hr => by rw [hs i _ (by omega)]; exact hR.2 r hr⟩
  have e1' : S1 = st 1 := by
    rw [e1]
    refine Prod.ext rfl ?_
    funext a D
    show (if a = 18 ∧ D = (0 : Int32).toNatClampNeg then (1 : Int64) else S.2 a D) = (if a = 18 ∧ D < 1 then zL (wv (Arp A b p) (pc D) D) else S.2 a D)
    by_cases h1 : a = 18 ∧ D < 1
    · rw [if_pos h1, if_pos ⟨h1.1, by have := h1.2; rw [show (0 : Int32).toNatClampNeg = 0 by decide]; omega⟩, show D = 0 by omega]
      rfl
    · rw [if_neg h1, if_neg]
      intro q
      apply h1
      rw [show (0 : Int32).toNatClampNeg = 0 by decide] at q
      exact ⟨q.1, by omega⟩
  have hgo : ∃ f, wL_X1_determinant_9 p (fun (_ : Int32) (S2 : St) => (vp_in ((Int32.ofNat 64) - (1 : Int32)) 64) ∧ (post (S2.2 18 ((Int32.ofNat 64) - (1 : Int32)).toNatClampNeg) S2)) f (nI 1) (st 1) := by
    refine lp_up (X := fun f i => wL_X1_determinant_9 p _ f (nI i) (st i)) (N := 64) (a := 1) (by decide) (fun f => ⟨fun _ => ⟨by unfold vp_in; decide, ?_⟩, fun q => absurd (by decide) q⟩) (fun f i h1 hi hrec => ?_)
    · have e63 : ((Int32.ofNat 64) - (1 : Int32)).toNatClampNeg = 63 := by decide
      rw [e63]
      have e2 : (st 64).2 18 63 = zL (wv (Arp A b p) 6 63) := by
        show (if 18 = 18 ∧ 63 < 64 then zL (wv (Arp A b p) (pc 63) 63) else S.2 18 63) = _
        rw [if_pos ⟨rfl, by decide⟩, show pc 63 = 6 by decide]
      rw [e2]
      exact h (st 64) rfl (fun k hk => hs 64 k hk)
    · refine ⟨fun q => absurd q (nI_ge (a := i) (b := 64) hi (by decide)), fun _ => ?_⟩
      refine sp_minorOf (hRi i) hi (by omega) (fun D hD => if_pos ⟨rfl, hD⟩) ⟨vp_in_nI hi (by decide), fun S4 e4 => ?_⟩
      rw [nI_clamp (by omega)] at e4
      have e5 : S4 = st (i + 1) := by
        rw [e4]
        refine Prod.ext rfl ?_
        funext a D
        show (if a = 18 ∧ D = i then _ else if a = 18 ∧ D < i then _ else S.2 a D) = (if a = 18 ∧ D < i + 1 then _ else S.2 a D)
        by_cases h1 : a = 18 <;> by_cases h2 : D = i <;> by_cases h3 : D < i <;> simp [h1, h2, h3] <;> omega
      rw [e5, nI_1]
      exact hrec
  rw [← e1'] at hgo
  exact hgo
def AX (d : Dw) (T r c : Nat) : Int := if (need d T).testBit r then (if c = r then (tot d r T (need d T) : Int) else -(dfd d c r : Int)) else eu r c
def bX (d : Dw) (T r : Nat) : Int := if (need d T).testBit r then (wcost d r (tot d r T (need d T)) : Int) else 0
def denX (d : Dw) (T : Nat) : Int := wv (Arp (AX d T) (bX d T) (-1)) 6 63
def numX (d : Dw) (T c : Nat) : Int := wv (Arp (AX d T) (bX d T) (nI c)) 6 63
/-- what a solving leaves: the prices, and nothing else but its own rows -/
def Pf (S S' : St) : Prop := S'.1 = S.1 ∧ ∀ k, k ≠ 3 → k ≠ 15 → k ≠ 17 → k ≠ 18 → ¬ (55 ≤ k ∧ k < 61) → S'.2 k = S.2 k
theorem rows_loop {S : St} {d : Dw} (hI : XI S d) {T : Nat} (hT : T < 256) {K : Int32 → St → Prop} (h : ∀ S', Pf S S' → RowsX S' (AX d T) (bX d T) → K 6 S') : ∃ f, wL_X1_solve_9 (nI T) (nI (need d T)) K f 0 S := by
  have hd := hI.1
  have hN := need_lt hd T
  -- by induction over the rows that are still to come
  have key : ∀ n i S1, i + n = 6 → Pf S S1 → (∀ r c, r < i → c < 6 → S1.2 (55 + r) c = zL (AX d T r c)) → (∀ r, r < i → S1.2 17 r = zL (bX d T r)) → wL_X1_solve_9 (nI T) (nI (need d T)) K (n + 1) (nI i) S1 := by
    intro n
    induction n with
    | zero =>
      intro i S1 hi hf h1 h2
      have e : i = 6 := by omega
      subst e
      exact ⟨fun _ => h S1 hf ⟨h1, h2⟩, fun q => absurd (by decide) q⟩
    | succ n ih =>
      intro i S1 hi hf h1 h2
      refine ⟨fun q => absurd q (nI_ge (a := i) (b := 6) (by omega) (by decide)), fun _ => ?_⟩
      have next : ∀ S2 : St, S2.1 = S1.1 → (∀ k, k ≠ 55 + i → k ≠ 17 → S2.2 k = S1.2 k) → (∀ c, c < 6 → S2.2 (55 + i) c = zL (AX d T i c)) → (∀ q, q ≠ i → S2.2 17 q = S1.2 17 q) → S2.2 17 i = zL (bX d T i) → wL_X1_solve_9 (nI T) (nI (need d T)) K (n + 1) (nI i + 1) S2 := by
        intro S2 g1 g2 g3 g4 g5
        rw [nI_1]
        refine ih (i + 1) S2 (by omega) ⟨g1.trans hf.1, fun k a b c e f => (g2 k (by omega) c).trans (hf.2 k a b c e f)⟩ (fun r c hr hc => ?_) (fun r hr => ?_)
        · by_cases e : r = i
          · subst e; exact g3 c hc
          · rw [g2 (55 + r) (by omega) (by omega)]; exact h1 r c (by omega) hc
        · by_cases e : r = i
          · subst e; exact g5
          · rw [g4 r e]; exact h2 r (by omega)
      have hW := hI.2.1.eq hf.1
      refine sp_isIn (by omega) (by omega) (br_b (fun hb => ?_) (fun hb => ?_))
      · refine sp_fillIdle (by omega) (fun S2 g1 g2 g3 g4 g5 => next S2 g1 g2 (fun c hc => ?_) g4 ?_)
        · rw [g3 c hc]; unfold AX; rw [hb]; rfl
        · rw [g5]; unfold bX; rw [hb]; rfl
      · refine sp_unitsOf hW hd (by omega) hT hN (sp_fillRow hd hW (by omega) (tot_le hd _ _ _) (fun S2 g1 g2 g3 g4 g5 => next S2 g1 g2 (fun c hc => ?_) g4 ?_))
        · rw [g3 c hc]; unfold AX; rw [hb]; rfl
        · rw [g5]; unfold bX; rw [hb]; rfl
  exact ⟨7, key 6 0 S rfl ⟨rfl, fun _ _ _ _ _ _ => rfl⟩ (fun r c hr => absurd hr (Nat.not_lt_zero r)) (fun r hr => absurd hr (Nat.not_lt_zero r))⟩
theorem sp_solve {S : St} {d : Dw} (hI : XI S d) {T : Nat} (hT : T < 256) {post : St → Prop} (h : ∀ S', Pf S S' → S'.2 3 1 = zL (denX d T) → (∀ c, c < 6 → S'.2 15 c = zL (numX d T c)) → post S') : wp_X1_solve S (nI T) post := by
  refine sp_neededX hI.2.2.1 hI.1 hT (rows_loop hI hT (fun S3 hf hR => ?_))
  refine sp_detX hR (fun S5 a1 a2 => fun S7 e7 => ?_)
  have hR5 : ∀ S' : St, (∀ k, k ≠ 18 → k ≠ 3 → k ≠ 15 → S'.2 k = S3.2 k) → RowsX S' (AX d T) (bX d T) := fun S' g => ⟨fun r c hr hc => by rw [g (55 + r) (by omega) (by omega) (by omega)]; exact hR.1 r c hr hc, fun r hr => by rw [g 17 (by omega) (by omega) (by omega)]; exact hR.2 r hr⟩
  have key : ∀ n i (S1 : St), i + n = 6 → S1.1 = S.1 → (∀ k, k ≠ 18 → k ≠ 3 → k ≠ 15 → S1.2 k = S3.2 k) → S1.2 3 1 = zL (denX d T) → (∀ c, c < i → S1.2 15 c = zL (numX d T c)) → wL_X1_solve_67 (fun (_ : Int32) (S8 : St) => post S8) (n + 1) (nI i) S1 := by
    intro n
    induction n with
    | zero =>
      intro i S1 hi g1 g2 g3 g4
      have e : i = 6 := by omega
      subst e
      exact ⟨fun _ => h S1 ⟨g1, fun k b1 b2 b3 b4 b5 => (g2 k b4 b1 b2).trans (hf.2 k b1 b2 b3 b4 b5)⟩ g3 g4, fun q => absurd (by decide) q⟩
    | succ n ih =>
      intro i S1 hi g1 g2 g3 g4
      refine ⟨fun q => absurd q (nI_ge (a := i) (b := 6) (by omega) (by decide)), fun _ => ?_⟩
      refine sp_detX (hR5 S1 g2) (fun S2 c1 c2 => ⟨vp_in_nI (by omega) (by decide), fun S4 e4 => ?_⟩)
      rw [nI_clamp (by omega)] at e4
      rw [nI_1]
      refine ih (i + 1) S4 (by omega) (by rw [e4]; exact c1.trans g1) (fun k b1 b2 b3 => ?_) ?_ (fun c hc => ?_)
      · rw [e4, uJ_row b3, c2 k b1]; exact g2 k b1 b2 b3
      · rw [e4, uJ_row (by decide), c2 3 (by decide)]; exact g3
      · rw [e4]
        by_cases e : c = i
        · subst e; rw [uJ_at]; rfl
        · rw [uJ_ne (fun z => e z.2), c2 15 (by decide)]; exact g4 c (by omega)
  refine ⟨7, key 6 0 S7 rfl ?_ (fun k b1 b2 b3 => ?_) ?_ (fun c hc => absurd hc (Nat.not_lt_zero c))⟩
  · rw [e7]; exact a1.trans hf.1
  · rw [e7, uJ_row b2]; exact a2 k b1
  · rw [e7, uJ_at]; rfl
