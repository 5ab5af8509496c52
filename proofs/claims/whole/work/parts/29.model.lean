/-! ===== pure: the reference's works and users ===== -/
def MW (S : St) (d : Dw) (m : Nat) : Prop := S.1 25 8 = nI (dn d) ∧ S.1 25 9 = nI m ∧ (∀ w, w < 6 → S.1 26 w = nI (dfx d w)) ∧ (∀ w, w < 6 → S.1 27 w = nI (dst d w)) ∧ (∀ w u, w < 6 → u < 8 → S.1 28 (8 * w + u) = nI (dus d w u)) ∧ ∀ w v, w < 6 → v < 6 → S.1 29 (6 * w + v) = nI (dfd d w v)
def Okm (d : Dw) (m : Nat) : Prop := m ≤ 8 ∧ ∀ w u, m ≤ u → dus d w u = 0
def MT (S : St) (T m : Nat) : Prop := T < 2 ^ m ∧ ∀ u, u < 8 → S.1 32 u = nI (if T.testBit u then 1 else 0)
theorem ix8 (w u : Nat) : ((8 : Int32) * nI w) + nI u = nI (8 * w + u) := by rw [show (8 : Int32) = nI 8 from rfl, pk_mul, nI_add]
theorem ix6 (w u : Nat) : ((6 : Int32) * nI w) + nI u = nI (6 * w + u) := by rw [show (6 : Int32) = nI 6 from rfl, pk_mul, nI_add]
theorem msk_self {T m : Nat} (h : T < 2 ^ m) : msk (fun i => T.testBit i) m = T := eq_bits fun i => by
  rw [msk_bit]
  by_cases q : i < m
  · simp [q]
  · rw [Nat.testBit_lt_two_pow (Nat.lt_of_lt_of_le h (Nat.pow_le_pow_right (by decide) (by omega)))]; simp
theorem bit_01 (b : Bool) : nI (if b then 1 else 0) = 0 ↔ b = false := by cases b <;> decide
theorem or_0 (x : Nat) : nI x ||| 0 = nI x := by rw [show (0 : Int32) = nI 0 from rfl, fa_or, Nat.or_zero]
theorem sp_thereM {S : St} {T m : Nat} (hm : m ≤ 8) (hU : S.1 25 9 = nI m) (hT : MT S T m) {post : Int32 → St → Prop} (h : post (nI T) S) : wp_X6_thereSet S post := by
  rw [← msk_self hT.1] at h
  refine lp_up (X := fun f i => wL_X6_thereSet_4 (fun z2 _ S1 => post z2 S1) f (nI (msk (fun i => T.testBit i) i)) (nI i) S) (Nat.zero_le m) (fun f => ?_) (fun f i _ hi hrec => ?_)
  · refine ⟨fun _ => h, fun q => ?_⟩
    rw [hU] at q
    exact absurd (nI_le (Nat.le_refl m) (by omega)) q
  · refine ⟨fun q => ?_, fun _ => ⟨vp_in_nI (by omega) (by decide), ?_⟩⟩
    · rw [hU] at q
      exact absurd q (nI_ge hi (by omega))
    rw [nI_clamp (by omega), hT.2 i (by omega), nI_1]
    refine ⟨fun q x2 e => ?_, fun q x3 e => ?_⟩
    · have hb := (bit_01 _).mp q
      have e2 : msk (fun i => T.testBit i) (i + 1) = msk (fun i => T.testBit i) i := by
        show (if T.testBit i then _ else _) = _
        rw [hb]; rfl
      rw [or_0, ← e2] at e
      rw [e]
      exact hrec
    · have hb : T.testBit i = true := by
        cases h9 : T.testBit i with
        | true => rfl
        | false => exact absurd ((bit_01 _).mpr h9) q
      have e2 : msk (fun i => T.testBit i) (i + 1) = msk (fun i => T.testBit i) i ||| 2 ^ i := by
        show (if T.testBit i then _ else _) = _
        rw [hb]; rfl
      rw [nI_or_pow (by omega), ← e2] at e
      rw [e]
      exact hrec
/-- a branch over one bit of a mask -/
theorem br_bit {g i : Nat} {A B : Prop} (hg : g < 2 ^ 31) (hi : i < 32) (hf : g.testBit i = false → A) (ht : g.testBit i = true → B) : (¬ ((nI g >>> (nI i &&& 31)) &&& 1) = 1 → A) ∧ (((nI g >>> (nI i &&& 31)) &&& 1) = 1 → B) := by
  refine ⟨fun q => hf ?_, fun q => ht ((bit_ask1 hg hi).mp q)⟩
  cases h : g.testBit i with
  | false => rfl
  | true => exact absurd ((bit_ask1 hg hi).mpr h) q
theorem br_pos {n : Nat} {A B : Prop} (hn : n < 2 ^ 31) (h0 : n = 0 → A) (h1 : 0 < n → B) : (nI n ≤ 0 → A) ∧ (¬ (nI n ≤ 0) → B) :=
  ⟨fun q => h0 ((pos_ask hn).mp q), fun q => h1 (Nat.pos_of_ne_zero (fun z => q ((pos_ask hn).mpr z)))⟩
def anyU (d : Dw) (g w i : Nat) : Bool := (List.range i).any (fun u => g.testBit u && decide (0 < dus d w u))
theorem anyU_succ (d : Dw) (g w i : Nat) : anyU d g w (i + 1) = (anyU d g w i || (g.testBit i && decide (0 < dus d w i))) := by
  unfold anyU
  rw [List.range_succ, List.any_append]
  simp
theorem anyU_more {d : Dw} {m : Nat} (hm : Okm d m) (g w : Nat) : ∀ i, m ≤ i → anyU d g w i = anyU d g w m
  | 0, h => by rw [show m = 0 by omega]
  | i + 1, h => by
    by_cases e : m = i + 1
    · rw [e]
    · rw [anyU_succ, anyU_more hm g w i (by omega), hm.2 w i (by omega)]; simp
theorem or_twice (x y : Nat) : x ||| y ||| y = x ||| y := by rw [Nat.or_assoc, Nat.or_self]
theorem needU_loop {S : St} {d : Dw} {m : Nat} (hd : Okd d) (hm : Okm d m) (hW : MW S d m) {g w x : Nat} (hg : g < 256) (hw : w < 6) {k : Int32 → Int32 → St → Prop} (h : k (nI (if anyU d g w 8 then x ||| 2 ^ w else x)) (nI m) S) : ∃ f, wL_X6_neededBy_15 (nI g) (nI w) k f (nI x) 0 S := by
  have hm8 := hm.1
  rw [anyU_more hm g w 8 hm8] at h
  refine lp_up (X := fun f i => wL_X6_neededBy_15 (nI g) (nI w) k f (nI (if anyU d g w i then x ||| 2 ^ w else x)) (nI i) S) (Nat.zero_le m) (fun f => ?_) (fun f i _ hi hrec => ?_)
  · refine ⟨fun _ => h, fun q => ?_⟩
    rw [hW.2.1] at q
    exact absurd (nI_le (Nat.le_refl m) (by omega)) q
  · refine ⟨fun q => ?_, fun _ => br_bit (by omega) (by omega) (fun hb => ?_) (fun hb => ⟨?_, ?_⟩)⟩
    · rw [hW.2.1] at q
      exact absurd q (nI_ge hi (by omega))
    · rw [anyU_succ, hb] at hrec
      rw [nI_1]
      simpa using hrec
    · rw [ix8]; exact vp_in_nI (by omega) (by decide)
    · rw [ix8, nI_clamp (by omega), hW.2.2.2.2.1 w i hw (by omega), nI_1]
      have h9 := hd.2.2.2.1 w i
      refine br_pos (by omega) (fun h0 => ?_) (fun h0 x2 e => ?_)
      · rw [anyU_succ, h0] at hrec
        simpa using hrec
      · rw [nI_or_pow (by omega)] at e
        rw [anyU_succ, hb] at hrec
        simp only [h0, decide_true, Bool.and_self, Bool.or_true, if_true] at hrec
        rw [e]
        split
        · rw [or_twice]; exact hrec
        · exact hrec
theorem need0_loop {S : St} {d : Dw} {m : Nat} (hd : Okd d) (hm : Okm d m) (hW : MW S d m) {g : Nat} (hg : g < 256) {k : Int32 → Int32 → St → Prop} (h : k (nI (st0 d g)) (nI (dn d)) S) : ∃ f, wL_X6_neededBy_4 (nI g) k f 0 0 S := by
  have hn := hd.1
  refine lp_up (X := fun f i => wL_X6_neededBy_4 (nI g) k f (nI (msk (fun w => anyU d g w 8) i)) (nI i) S) (Nat.zero_le (dn d)) (fun f => ?_) (fun f i _ hi hrec => ?_)
  · refine ⟨fun _ => h, fun q => ?_⟩
    rw [hW.1] at q
    exact absurd (nI_le (Nat.le_refl _) (by omega)) q
  · refine ⟨fun q => ?_, fun _ => needU_loop hd hm hW hg (by omega) ?_⟩
    · rw [hW.1] at q
      exact absurd q (nI_ge hi (by omega))
    · rw [nI_1]
      exact hrec
theorem rw_loop {S : St} {d : Dw} {m : Nat} (hd : Okd d) (hW : MW S d m) {w x : Nat} (hw : w < 6) (hx : x < 64) {p3 : Int32} {k : Int32 → Int32 → St → Prop} (h : k (nI (rwM d w (dn d) x)) (nI (dn d)) S) : ∃ f, wL_X6_neededBy_92 p3 (nI w) k f (nI x) 0 S := by
  have hn := hd.1
  refine lp_up (X := fun f i => wL_X6_neededBy_92 p3 (nI w) k f (nI (rwM d w i x)) (nI i) S) (Nat.zero_le (dn d)) (fun f => ?_) (fun f i _ hi hrec => ?_)
  · refine ⟨fun _ => h, fun q => ?_⟩
    rw [hW.1] at q
    exact absurd (nI_le (Nat.le_refl _) (by omega)) q
  · have hlt := rwM_lt (d := d) hw hx i
    have e0 : rwM d w (i + 1) x = if (rwM d w i x).testBit i && decide (0 < dfd d w i) then rwM d w i x ||| 2 ^ w else rwM d w i x := rfl
    refine ⟨fun q => ?_, fun _ => br_bit (by omega) (by omega) (fun hb => ?_) (fun hb => ⟨?_, ?_⟩)⟩
    · rw [hW.1] at q
      exact absurd q (nI_ge hi (by omega))
    · rw [hb] at e0
      rw [nI_1]
      rw [e0] at hrec
      exact hrec
    · rw [ix6]; exact vp_in_nI (by omega) (by decide)
    · rw [ix6, nI_clamp (by omega), hW.2.2.2.2.2 w i hw (by omega), nI_1]
      have h9 := hd.2.2.2.2.1 w i
      refine br_pos (by omega) (fun h0 => ?_) (fun h0 x2 e => ?_)
      · rw [h0, hb] at e0
        rw [e0] at hrec
        exact hrec
      · rw [nI_or_pow (by omega)] at e
        rw [hb] at e0
        simp only [h0, decide_true, Bool.and_self, if_true] at e0
        rw [e0] at hrec
        rw [e]
        exact hrec
theorem sw_loop {S : St} {d : Dw} {m : Nat} (hd : Okd d) (hW : MW S d m) {x : Nat} (hx : x < 64) {p3 : Int32} {k : Int32 → Int32 → St → Prop} (h : k (nI (swM d (dn d) x)) (nI (dn d)) S) : ∃ f, wL_X6_neededBy_80 p3 k f (nI x) 0 S := by
  have hn := hd.1
  refine lp_up (X := fun f i => wL_X6_neededBy_80 p3 k f (nI (swM d i x)) (nI i) S) (Nat.zero_le (dn d)) (fun f => ?_) (fun f i _ hi hrec => ?_)
  · refine ⟨fun _ => h, fun q => ?_⟩
    rw [hW.1] at q
    exact absurd (nI_le (Nat.le_refl _) (by omega)) q
  · refine ⟨fun q => ?_, fun _ => rw_loop hd hW (by omega) (swM_lt hx i (by omega)) ?_⟩
    · rw [hW.1] at q
      exact absurd q (nI_ge hi (by omega))
    · rw [nI_1]
      exact hrec
theorem sp_neededM {S : St} {d : Dw} {m : Nat} (hd : Okd d) (hm : Okm d m) (hW : MW S d m) {g : Nat} (hg : g < 256) {post : Int32 → St → Prop} (h : post (nI (need d g)) S) : wp_X6_neededBy S (nI g) post := by
  have hn := hd.1
  have h0 : st0 d g < 64 := Nat.lt_of_lt_of_le (msk_lt _ _) (Nat.pow_le_pow_right (by decide) hn)
  refine need0_loop hd hm hW hg ?_
  refine lp_up (X := fun f i => wL_X6_neededBy_69 (fun z5 _ S4 => post z5 S4) f (nI (itr (swM d (dn d)) i (st0 d g))) (nI i) S) (Nat.zero_le (dn d)) (fun f => ?_) (fun f i _ hi hrec => ?_)
  · refine ⟨fun _ => h, fun q => ?_⟩
    rw [hW.1] at q
    exact absurd (nI_le (Nat.le_refl _) (by omega)) q
  · refine ⟨fun q => ?_, fun _ => sw_loop hd hW (itr_lt (fun y hy => swM_lt hy _ hn) h0 i) ?_⟩
    · rw [hW.1] at q
      exact absurd q (nI_ge hi (by omega))
    · rw [nI_1]
      exact hrec
theorem add_0 (x : Nat) : nI x + 0 = nI x := by rw [show (0 : Int32) = nI 0 from rfl, nI_add, Nat.add_zero]
theorem totU_more {d : Dw} {m : Nat} (hm : Okm d m) (w g : Nat) : ∀ i, m ≤ i → totU d w g i = totU d w g m
  | 0, h => by rw [show m = 0 by omega]
  | i + 1, h => by
    by_cases e : m = i + 1
    · rw [e]
    · have e0 : totU d w g (i + 1) = totU d w g i + (if g.testBit i then dus d w i else 0) := fb_sm_succ _ _
      rw [e0, totU_more hm w g i (by omega), hm.2 w i (by omega)]; simp
theorem totUM_loop {S : St} {d : Dw} {m : Nat} (hm : Okm d m) (hW : MW S d m) {w g : Nat} (hw : w < 6) (hg : g < 256) {p3 : Int32} {k : Int32 → Int32 → St → Prop} (h : k (nI (totU d w g 8)) (nI m) S) : ∃ f, wL_X6_totalOf_6 (nI w) (nI g) p3 k f 0 0 S := by
  have hm8 := hm.1
  rw [totU_more hm w g 8 hm8] at h
  refine lp_up (X := fun f i => wL_X6_totalOf_6 (nI w) (nI g) p3 k f (nI (totU d w g i)) (nI i) S) (Nat.zero_le m) (fun f => ?_) (fun f i _ hi hrec => ?_)
  · refine ⟨fun _ => h, fun q => ?_⟩
    rw [hW.2.1] at q
    exact absurd (nI_le (Nat.le_refl _) (by omega)) q
  · have e0 : totU d w g (i + 1) = totU d w g i + (if g.testBit i then dus d w i else 0) := fb_sm_succ _ _
    refine ⟨fun q => ?_, fun _ => br_bit (by omega) (by omega) (fun hb x1 e => ?_) (fun hb => ⟨?_, fun x3 e => ?_⟩)⟩
    · rw [hW.2.1] at q
      exact absurd q (nI_ge hi (by omega))
    · rw [hb] at e0
      rw [add_0] at e
      rw [e, nI_1]
      rw [e0] at hrec
      exact hrec
    · rw [ix8]; exact vp_in_nI (by omega) (by decide)
    · rw [hb, if_pos rfl] at e0
      rw [ix8, nI_clamp (by omega), hW.2.2.2.2.1 w i hw (by omega), nI_add, ← e0] at e
      rw [e, nI_1]
      exact hrec
theorem totWM_loop {S : St} {d : Dw} {m : Nat} (hd : Okd d) (hW : MW S d m) {w N a : Nat} (hw : w < 6) (hN : N < 64) {k : Int32 → Int32 → St → Prop} (h : k (nI (a + totW d w N (dn d))) (nI (dn d)) S) : ∃ f, wL_X6_totalOf_55 (nI w) (nI N) k f (nI a) 0 S := by
  have hn := hd.1
  refine lp_up (X := fun f i => wL_X6_totalOf_55 (nI w) (nI N) k f (nI (a + totW d w N i)) (nI i) S) (Nat.zero_le (dn d)) (fun f => ?_) (fun f i _ hi hrec => ?_)
  · refine ⟨fun _ => h, fun q => ?_⟩
    rw [hW.1] at q
    exact absurd (nI_le (Nat.le_refl _) (by omega)) q
  · have e0 : totW d w N (i + 1) = totW d w N i + (if N.testBit i then dfd d w i else 0) := fb_sm_succ _ _
    refine ⟨fun q => ?_, fun _ => br_bit (by omega) (by omega) (fun hb x1 e => ?_) (fun hb => ⟨?_, fun x3 e => ?_⟩)⟩
    · rw [hW.1] at q
      exact absurd q (nI_ge hi (by omega))
    · rw [hb] at e0
      rw [add_0] at e
      rw [e, nI_1]
      rw [e0] at hrec
      exact hrec
    · rw [ix6]; exact vp_in_nI (by omega) (by decide)
    · rw [hb, if_pos rfl] at e0
      rw [ix6, nI_clamp (by omega), hW.2.2.2.2.2 w i hw (by omega), nI_add, Nat.add_assoc, ← e0] at e
      rw [e, nI_1]
      exact hrec
theorem sp_totalM {S : St} {d : Dw} {m : Nat} (hd : Okd d) (hm : Okm d m) (hW : MW S d m) {w g N : Nat} (hw : w < 6) (hg : g < 256) (hN : N < 64) {post : Int32 → St → Prop} (h : post (nI (tot d w g N)) S) : wp_X6_totalOf S (nI w) (nI g) (nI N) post :=
  totUM_loop hm hW hw hg (totWM_loop hd hW hw hN h)
theorem sp_workCost {S : St} {d : Dw} {m : Nat} (hW : MW S d m) {w t : Nat} (hw : w < 6) (ht : t ≤ 126) {post : Int32 → St → Prop} (h : post (nI (wcost d w t)) S) : wp_X6_workCost S (nI w) (nI t) post := by
  have e : (nI t + 9) / 10 = nI ((t + 9) / 10) := by
    rw [show (10 : Int32) = nI 10 from rfl, show (9 : Int32) = nI 9 from rfl, nI_add, pk_div (by omega) (by decide) (by decide)]
  unfold wp_X6_workCost
  rw [e]
  refine ⟨vp_in_nI hw (by decide), vp_in_nI hw (by decide), ?_⟩
  rw [nI_clamp (by omega), hW.2.2.1 w hw, hW.2.2.2.1 w hw, pk_mul, nI_add]
  exact h
theorem sp_costM {S : St} {d : Dw} {m : Nat} (hd : Okd d) (hm : Okm d m) (hW : MW S d m) {g : Nat} (hg : g < 256) {post : Int32 → St → Prop} (h : post (nI (cst d g)) S) : wp_X6_costOf S (nI g) post := by
  have hn := hd.1
  have hN := need_lt hd g
  refine sp_neededM hd hm hW hg ?_
  refine lp_up (X := fun f i => wL_X6_costOf_11 (nI g) (nI (need d g)) (fun z4 _ S3 => post z4 S3) f (nI (cstN d g (need d g) i)) (nI i) S) (Nat.zero_le (dn d)) (fun f => ?_) (fun f i _ hi hrec => ?_)
  · refine ⟨fun _ => h, fun q => ?_⟩
    rw [hW.1] at q
    exact absurd (nI_le (Nat.le_refl _) (by omega)) q
  · have e0 : cstN d g (need d g) (i + 1) = cstN d g (need d g) i + (if (need d g).testBit i then wcost d i (tot d i g (need d g)) else 0) := fb_sm_succ _ _
    refine ⟨fun q => ?_, fun _ => br_bit (by omega) (by omega) (fun hb => ?_) (fun hb => ?_)⟩
    · rw [hW.1] at q
      exact absurd q (nI_ge hi (by omega))
    · rw [hb] at e0
      rw [nI_1]
      rw [e0] at hrec
      exact hrec
    · refine sp_totalM hd hm hW (by omega) hg hN (sp_workCost hW (by omega) (tot_le hd _ _ _) (fun x5 e => ?_))
      rw [hb, if_pos rfl] at e0
      rw [nI_add, ← e0] at e
      rw [e, nI_1]
      exact hrec
