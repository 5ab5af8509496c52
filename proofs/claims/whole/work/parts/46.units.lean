/-! ===== pure: use, feed, user, set, mark ===== -/
theorem sp_areUnits {S : St} {a : Int32} {post : Int32 → St → Prop} (h0 : (∀ r, r ≤ 9 → a ≠ nI r) → post 0 S) (h1 : ∀ r, r ≤ 9 → a = nI r → post 1 S) : wp_X5_areUnits S a post := rgc (hi := 9) (by decide) h0 h1
section Q6
variable {S : St} {d : Dw} {m T : Nat} {P : Int32 → St → Prop}
theorem p_use (h : IV S d m T) {a a2 a3 : Int32} (hP : ∀ r S1, (∀ {K : Int32 → St → Prop}, (∀ S2, IVx S2 → K r S2) → wp_X6_use S1 a a2 a3 K) → P r S1) : wp_X5_use S a a2 a3 P := by
  have hn := h.d.1
  have hm := h.om.1
  refine sp_has4 h.xi.2.1.1 (by omega) (fun hno => ⟨fun _ => hP _ S (fun hK S1 e1 => ?_), fun q => absurd rfl q⟩) (fun w hw e => ⟨fun q => absurd q (by decide), fun _ => sp_has3 h.xu.1 (by omega) (fun hno => ⟨fun _ => hP _ S (fun hK S1 e1 => ?_), fun q => absurd rfl q⟩) (fun u hu e2 => ⟨fun q => absurd q (by decide), fun _ => sp_areUnits (fun hno => ⟨fun z => absurd rfl z, fun _ => hP _ S (fun hK S1 e1 => ?_)⟩) (fun c q1 g1 => ⟨fun _ => ?_, fun z => absurd z (by decide)⟩)⟩)⟩)
  · have h1 := h.m0 e1
    exact sp_isWork h1.mw.1 (by omega) (fun _ => ⟨fun _ => hK S1 h1.ex, fun q => absurd rfl q⟩) (fun w hw e => absurd e (hno w hw))
  · have h1 := h.m0 e1
    exact sp_isWork h1.mw.1 (by omega) (fun _ => ⟨fun _ => hK S1 h1.ex, fun q => absurd rfl q⟩) (fun w hw e => ⟨fun z => absurd z (by decide), fun _ => sp_isUser h1.mw.2.1 (by omega) (fun _ => ⟨fun _ => hK S1 h1.ex, fun q => absurd rfl q⟩) (fun u hu e => absurd e (hno u hu))⟩)
  · have h1 := h.m0 e1
    exact sp_isWork h1.mw.1 (by omega) (fun _ => ⟨fun _ => hK S1 h1.ex, fun q => absurd rfl q⟩) (fun w hw e => ⟨fun z => absurd z (by decide), fun _ => sp_isUser h1.mw.2.1 (by omega) (fun _ => ⟨fun _ => hK S1 h1.ex, fun q => absurd rfl q⟩) (fun u hu e => ⟨fun z => absurd z (by decide), fun _ => sp_isInM (hi := 9) (by decide) (fun _ => ⟨fun z => absurd rfl z, fun _ => hK S1 h1.ex⟩) (fun c q1 g1 => absurd g1 (hno c q1))⟩)⟩)
  · subst e
    subst e2
    subst g1
    let d' : Dw := (dn d, dfx d, dst d, upN2 (dus d) w u c, dfd d)
    have hd' : Okd d' := by
      obtain ⟨a1, a2, a3, a4, a5, a6, a7, a8⟩ := h.d
      refine ⟨a1, a2, a3, fun k v => ?_, a5, fun k v q => ?_, a7, a8⟩
      · show upN2 (dus d) w u c k v ≤ 9
        unfold upN2
        split
        · exact q1
        · exact a4 k v
      · show upN2 (dus d) w u c k v = 0
        replace q : dn d ≤ k ∨ 8 ≤ v := q
        unfold upN2
        rw [if_neg (by omega)]
        exact a6 k v q
    refine ⟨vp_in_nI (by omega) (by decide), vp_in_nI (by omega) (by decide), fun S3 e3 => ?_⟩
    rw [nI_clamp (by omega), nI_clamp (by omega)] at e3
    have hW3 : XW S3 d' := by
      obtain ⟨b1, b2, b3, b4, b5⟩ := h.xi.2.1
      refine ⟨?_, fun k hk => ?_, fun k hk => ?_, fun k v hk hv => ?_, fun k v hk hv => ?_⟩
      · rw [e3, uI_row (by omega)]; exact b1
      · rw [e3, uI_row (by omega)]; exact b2 k hk
      · rw [e3, uI_row (by omega)]; exact b3 k hk
      · rw [e3]
        show _ = nI (upN2 (dus d) w u c k v)
        unfold upN2
        by_cases q : k = w ∧ v = u
        · rw [q.1, q.2, uI_at, if_pos ⟨rfl, rfl⟩]
        · rw [uI_ne (fun z => q ⟨by have := z.1; omega, z.2⟩), if_neg q]; exact b4 k v hk hv
      · rw [e3, uI_row (by omega)]; exact b5 k v hk hv
    refine sp_learn hd' hW3 (fun S4 f4 i4 => hP _ S4 (fun hK S1 e1 => ?_))
    have r4 : ∀ k, k ≠ 12 → k ≠ 13 → k ≠ 43 + w → S4.1 k = S.1 k := fun k p1 p2 p3 => (f4.2 k p1 p2).trans (by rw [e3, uI_row p3])
    have hW4 : MW S4 d m := by
      have := h.mw
      unfold MW at this ⊢
      rw [r4 25 (by decide) (by decide) (by omega), r4 26 (by decide) (by decide) (by omega), r4 27 (by decide) (by decide) (by omega), r4 28 (by decide) (by decide) (by omega), r4 29 (by decide) (by decide) (by omega)]
      exact this
    have hW1 : MW S1 d m := hW4.mF (by rw [e1]; exact MF.uI (by omega))
    refine sp_isWork hW1.1 (by omega) (fun hno => absurd rfl (hno w hw)) (fun _ _ _ => ⟨fun z => absurd z (by decide), fun _ => sp_isUser hW1.2.1 (by omega) (fun hno => absurd rfl (hno u hu)) (fun _ _ _ => ⟨fun z => absurd z (by decide), fun _ => sp_isInM (hi := 9) (by decide) (fun hno => absurd rfl (hno c q1)) (fun _ _ _ => ⟨fun _ => ?_, fun z => absurd z (by decide)⟩)⟩)⟩)
    rw [ix8]
    refine ⟨vp_in_nI (by omega) (by decide), fun S9 e9 => ?_⟩
    rw [nI_clamp (by omega)] at e9
    have ry : ∀ k, k ≠ 25 → k ≠ 28 → S9.1 k = S4.1 k := fun k p1 p2 => by rw [e9, uI_row p2, e1, uI_row p1]
    have r25 : ∀ j, j ≠ 0 → S9.1 25 j = S.1 25 j := fun j b => by
      rw [e9, uI_row (by decide), e1, uI_ne (fun z => b z.2), r4 25 (by decide) (by decide) (by omega)]
    refine hK S9 (IV.ex (h.re (d' := d') (i4.rows (fun k hk => ry k (by omega) (by omega))) ⟨hm, fun k v q => ?_⟩ ?_ (fun k hk => (ry k (by omega) (by omega)).trans (r4 k (by omega) (by omega) (by omega))) (r25 10 (by decide)) (r25 11 (by decide))))
    · show upN2 (dus d) w u c k v = 0
      unfold upN2
      rw [if_neg (by omega)]
      exact h.om.2 k v q
    · refine ⟨(r25 8 (by decide)).trans h.mw.1, (r25 9 (by decide)).trans h.mw.2.1, fun k hk => ?_, fun k hk => ?_, fun k v hk hv => ?_, fun k v hk hv => ?_⟩
      · rw [ry 26 (by decide) (by decide)]; exact hW4.2.2.1 k hk
      · rw [ry 27 (by decide) (by decide)]; exact hW4.2.2.2.1 k hk
      · rw [e9]
        show _ = nI (upN2 (dus d) w u c k v)
        unfold upN2
        by_cases q : k = w ∧ v = u
        · rw [q.1, q.2, uI_at, if_pos ⟨rfl, rfl⟩]
        · rw [uI_ne (fun z => q (by have := z.2; omega)), if_neg q]; exact hW1.2.2.2.2.1 k v hk hv
      · rw [ry 29 (by decide) (by decide)]; exact hW4.2.2.2.2.2 k v hk hv
theorem p_feed (h : IV S d m T) {a a2 a3 : Int32} (hP : ∀ r S1, (∀ {K : Int32 → St → Prop}, (∀ S2, IVx S2 → K r S2) → wp_X6_feed S1 a a2 a3 K) → P r S1) : wp_X5_feed S a a2 a3 P := by
  have hn := h.d.1
  have hm := h.om.1
  refine sp_has4 h.xi.2.1.1 (by omega) (fun hno => ⟨fun _ => hP _ S (fun hK S1 e1 => ?_), fun q => absurd rfl q⟩) (fun w hw e => ⟨fun q => absurd q (by decide), fun _ => sp_has4 h.xi.2.1.1 (by omega) (fun hno => ⟨fun _ => hP _ S (fun hK S1 e1 => ?_), fun q => absurd rfl q⟩) (fun u hu e2 => ⟨fun q => absurd q (by decide), fun _ => ⟨fun eq => hP _ S (fun hK S1 e1 => ?_), fun neq => sp_areUnits (fun hno => ⟨fun z => absurd rfl z, fun _ => hP _ S (fun hK S1 e1 => ?_)⟩) (fun c q1 g1 => ⟨fun _ => ?_, fun z => absurd z (by decide)⟩)⟩⟩)⟩)
  · have h1 := h.m0 e1
    exact sp_isWork h1.mw.1 (by omega) (fun _ => ⟨fun _ => hK S1 h1.ex, fun q => absurd rfl q⟩) (fun w hw e => absurd e (hno w hw))
  · have h1 := h.m0 e1
    exact sp_isWork h1.mw.1 (by omega) (fun _ => ⟨fun _ => hK S1 h1.ex, fun q => absurd rfl q⟩) (fun w hw e => ⟨fun z => absurd z (by decide), fun _ => sp_isWork h1.mw.1 (by omega) (fun _ => ⟨fun _ => hK S1 h1.ex, fun q => absurd rfl q⟩) (fun u hu e => absurd e (hno u hu))⟩)
  · have h1 := h.m0 e1
    exact sp_isWork h1.mw.1 (by omega) (fun _ => ⟨fun _ => hK S1 h1.ex, fun q => absurd rfl q⟩) (fun w hw e => ⟨fun z => absurd z (by decide), fun _ => sp_isWork h1.mw.1 (by omega) (fun _ => ⟨fun _ => hK S1 h1.ex, fun q => absurd rfl q⟩) (fun u hu e => ⟨fun z => absurd z (by decide), fun _ => ⟨fun _ => hK S1 h1.ex, fun z => absurd eq z⟩⟩)⟩)
  · have h1 := h.m0 e1
    exact sp_isWork h1.mw.1 (by omega) (fun _ => ⟨fun _ => hK S1 h1.ex, fun q => absurd rfl q⟩) (fun w hw e => ⟨fun z => absurd z (by decide), fun _ => sp_isWork h1.mw.1 (by omega) (fun _ => ⟨fun _ => hK S1 h1.ex, fun q => absurd rfl q⟩) (fun u hu e => ⟨fun z => absurd z (by decide), fun _ => ⟨fun z => absurd z neq, fun _ => sp_isInM (hi := 9) (by decide) (fun _ => ⟨fun z => absurd rfl z, fun _ => hK S1 h1.ex⟩) (fun c q1 g1 => absurd g1 (hno c q1))⟩⟩)⟩)
  · subst e
    subst e2
    subst g1
    have hwu : w ≠ u := fun z => neq (by rw [z])
    let d' : Dw := (dn d, dfx d, dst d, dus d, upN2 (dfd d) w u c)
    have hd' : Okd d' := by
      obtain ⟨a1, a2, a3, a4, a5, a6, a7, a8⟩ := h.d
      refine ⟨a1, a2, a3, a4, fun k v => ?_, a6, fun k v q => ?_, fun k => ?_⟩
      · show upN2 (dfd d) w u c k v ≤ 9
        unfold upN2
        split
        · exact q1
        · exact a5 k v
      · show upN2 (dfd d) w u c k v = 0
        replace q : dn d ≤ k ∨ dn d ≤ v := q
        unfold upN2
        rw [if_neg (by omega)]
        exact a7 k v q
      · show upN2 (dfd d) w u c k k = 0
        unfold upN2
        rw [if_neg (by omega)]
        exact a8 k
    refine ⟨vp_in_nI (by omega) (by decide), vp_in_nI (by omega) (by decide), fun S3 e3 => ?_⟩
    rw [nI_clamp (by omega), nI_clamp (by omega)] at e3
    have hW3 : XW S3 d' := by
      obtain ⟨b1, b2, b3, b4, b5⟩ := h.xi.2.1
      refine ⟨?_, fun k hk => ?_, fun k hk => ?_, fun k v hk hv => ?_, fun k v hk hv => ?_⟩
      · rw [e3, uI_row (by omega)]; exact b1
      · rw [e3, uI_row (by omega)]; exact b2 k hk
      · rw [e3, uI_row (by omega)]; exact b3 k hk
      · rw [e3, uI_row (by omega)]; exact b4 k v hk hv
      · rw [e3]
        show _ = nI (upN2 (dfd d) w u c k v)
        unfold upN2
        by_cases q : k = w ∧ v = u
        · rw [q.1, q.2, uI_at, if_pos ⟨rfl, rfl⟩]
        · rw [uI_ne (fun z => q ⟨by have := z.1; omega, z.2⟩), if_neg q]; exact b5 k v hk hv
    refine sp_learn hd' hW3 (fun S4 f4 i4 => hP _ S4 (fun hK S1 e1 => ?_))
    have r4 : ∀ k, k ≠ 12 → k ≠ 13 → k ≠ 49 + w → S4.1 k = S.1 k := fun k p1 p2 p3 => (f4.2 k p1 p2).trans (by rw [e3, uI_row p3])
    have hW4 : MW S4 d m := by
      have := h.mw
      unfold MW at this ⊢
      rw [r4 25 (by decide) (by decide) (by omega), r4 26 (by decide) (by decide) (by omega), r4 27 (by decide) (by decide) (by omega), r4 28 (by decide) (by decide) (by omega), r4 29 (by decide) (by decide) (by omega)]
      exact this
    have hW1 : MW S1 d m := hW4.mF (by rw [e1]; exact MF.uI (by omega))
    refine sp_isWork hW1.1 (by omega) (fun hno => absurd rfl (hno w hw)) (fun _ _ _ => ⟨fun z => absurd z (by decide), fun _ => sp_isWork hW1.1 (by omega) (fun hno => absurd rfl (hno u hu)) (fun _ _ _ => ⟨fun z => absurd z (by decide), fun _ => ⟨fun z => absurd z neq, fun _ => sp_isInM (hi := 9) (by decide) (fun hno => absurd rfl (hno c q1)) (fun _ _ _ => ⟨fun _ => ?_, fun z => absurd z (by decide)⟩)⟩⟩)⟩)
    rw [ix6]
    refine ⟨vp_in_nI (by omega) (by decide), fun S9 e9 => ?_⟩
    rw [nI_clamp (by omega)] at e9
    have ry : ∀ k, k ≠ 25 → k ≠ 29 → S9.1 k = S4.1 k := fun k p1 p2 => by rw [e9, uI_row p2, e1, uI_row p1]
    have r25 : ∀ j, j ≠ 0 → S9.1 25 j = S.1 25 j := fun j b => by
      rw [e9, uI_row (by decide), e1, uI_ne (fun z => b z.2), r4 25 (by decide) (by decide) (by omega)]
    refine hK S9 (IV.ex (h.re (d' := d') (i4.rows (fun k hk => ry k (by omega) (by omega))) ⟨hm, h.om.2⟩ ?_ (fun k hk => (ry k (by omega) (by omega)).trans (r4 k (by omega) (by omega) (by omega))) (r25 10 (by decide)) (r25 11 (by decide))))
    refine ⟨(r25 8 (by decide)).trans h.mw.1, (r25 9 (by decide)).trans h.mw.2.1, fun k hk => ?_, fun k hk => ?_, fun k v hk hv => ?_, fun k v hk hv => ?_⟩
    · rw [ry 26 (by decide) (by decide)]; exact hW4.2.2.1 k hk
    · rw [ry 27 (by decide) (by decide)]; exact hW4.2.2.2.1 k hk
    · rw [ry 28 (by decide) (by decide)]; exact hW4.2.2.2.2.1 k v hk hv
    · rw [e9]
      show _ = nI (upN2 (dfd d) w u c k v)
      unfold upN2
      by_cases q : k = w ∧ v = u
      · rw [q.1, q.2, uI_at, if_pos ⟨rfl, rfl⟩]
      · rw [uI_ne (fun z => q (by have := z.2; omega)), if_neg q]; exact hW1.2.2.2.2.2 k v hk hv
/-- another set of users there -/
theorem IV.ru {S S' : St} {d : Dw} {m m' T T' : Nat} (h : IV S d m T) (hU : XU S' T' m') (hmm : m ≤ m') (hM8 : S'.1 25 9 = nI m') (h32 : ∀ u, u < 8 → S'.1 32 u = nI (if T'.testBit u then 1 else 0)) (e : ∀ k, k ≠ 2 → k ≠ 25 → k ≠ 32 → S'.1 k = S.1 k) (e25 : ∀ j, j ≠ 0 → j ≠ 9 → S'.1 25 j = S.1 25 j) : IV S' d m' T' := by
  refine ⟨h.xi.rows (fun k hk => e k (by omega) (by omega) (by omega)), hU, ⟨hU.2.2.2, fun w u q => h.om.2 w u (by omega)⟩, ⟨(e25 8 (by decide) (by decide)).trans h.mw.1, hM8, fun w hw => ?_, fun w hw => ?_, fun w u hw hu => ?_, fun w v hw hv => ?_⟩, ⟨hU.2.2.1, h32⟩, fun u hu => ?_, fun u hu => ?_, ?_, ?_, fun j => ?_⟩
  · rw [e 26 (by decide) (by decide) (by decide)]; exact h.mw.2.2.1 w hw
  · rw [e 27 (by decide) (by decide) (by decide)]; exact h.mw.2.2.2.1 w hw
  · rw [e 28 (by decide) (by decide) (by decide)]; exact h.mw.2.2.2.2.1 w u hw hu
  · rw [e 29 (by decide) (by decide) (by decide)]; exact h.mw.2.2.2.2.2 w v hw hv
  · rw [e 14 (by decide) (by decide) (by decide), e 30 (by decide) (by decide) (by decide)]; exact h.mk u hu
  · rw [e 21 (by decide) (by decide) (by decide), e 31 (by decide) (by decide) (by decide)]
    exact ⟨(h.bk u hu).1, fun q => (h.bk u hu).2 (by omega)⟩
  · rw [e 5 (by decide) (by decide) (by decide), e25 10 (by decide) (by decide)]; exact h.ln
  · rw [e 5 (by decide) (by decide) (by decide), e25 11 (by decide) (by decide)]; exact h.bs
  · rw [e 22 (by decide) (by decide) (by decide), e 23 (by decide) (by decide) (by decide), e 24 (by decide) (by decide) (by decide), e 33 (by decide) (by decide) (by decide), e 34 (by decide) (by decide) (by decide), e 35 (by decide) (by decide) (by decide)]; exact h.li j
theorem xor_lt {T m u : Nat} (hT : T < 2 ^ m) (hu : u < m) : T ^^^ 2 ^ u < 2 ^ m := Nat.xor_lt_two_pow hT (Nat.pow_lt_pow_right (by decide) hu)
theorem p_user (h : IV S d m T) (hP : ∀ r S1, (∀ {K : Int32 → St → Prop}, (∀ S2, IVx S2 → K r S2) → wp_X6_user S1 K) → P r S1) : wp_X5_user S P := by
  have hm := h.om.1
  unfold wp_X5_user
  rw [h.xu.1]
  refine ⟨fun q => ?_, fun q => ?_⟩
  · have hlt : m < 8 := by
      rw [show (8 : Int32) = nI 8 from rfl, Int32.lt_iff_toInt_lt, nI_toInt (by omega), nI_toInt (by omega)] at q
      omega
    intro x1 ex1 S2 e2 S3 e3
    rw [h.xu.1] at ex1 e2
    subst ex1
    rw [nI_1] at e2
    rw [show S2.1 2 1 = nI T by rw [e2, uI_ne (by decide)]; exact h.xu.2.1, nI_pow (by omega), fb_xorI] at e3
    have r3 : ∀ k, k ≠ 2 → S3.1 k = S.1 k := fun k hk => by rw [e3, uI_row hk, e2, uI_row hk]
    refine hP _ S3 (fun hK S1 e1 => ?_)
    have e9 : S1.1 25 9 = nI m := by rw [e1, uI_ne (by decide), r3 25 (by decide)]; exact h.mw.2.1
    rw [e9]
    refine ⟨fun _ => ⟨vp_in_nI hlt (by decide), fun S4 e4 S5 e5 => ?_⟩, fun z => ?_⟩
    · rw [nI_clamp (by omega), nar1] at e4
      rw [show S4.1 25 9 = nI m by rw [e4, uI_row (by decide)]; exact e9, nI_1] at e5
      rw [show S5.1 25 9 - 1 = nI m by rw [e5, uI_at, show (1 : Int32) = nI 1 from rfl, pk_sub (by omega)]; rfl]
      have hTm : T.testBit m = false := by
        cases hb : T.testBit m with
        | false => rfl
        | true => have := bit_lt h.mt.1 hb; omega
      refine hK S5 (IV.ex (h.ru (m' := m + 1) (T' := T ^^^ 2 ^ m) ⟨?_, ?_, xor_lt (Nat.lt_of_lt_of_le h.mt.1 (Nat.pow_le_pow_right (by decide) (by omega))) (by omega), by omega⟩ (by omega) (by rw [e5, uI_at]) (fun u hu => ?_) (fun k a b c => ?_) (fun j a b => ?_)))
      · rw [e5, uI_row (by decide), e4, uI_row (by decide), e1, uI_row (by decide), e3, uI_ne (by decide), e2, uI_at]
      · rw [e5, uI_row (by decide), e4, uI_row (by decide), e1, uI_row (by decide), e3, uI_at]
      · rw [e5, uI_row (by decide), e4, fb_bit_flip]
        by_cases e : u = m
        · subst e; rw [uI_at, hTm]; simp; rfl
        · rw [uI_ne (fun z => e z.2), e1, uI_row (by decide), r3 32 (by decide), h.mt.2 u hu, decide_eq_false e, Bool.xor_false]
      · rw [e5, uI_row b, e4, uI_row c, e1, uI_row b]; exact r3 k a
      · rw [e5, uI_ne (fun z => b z.2), e4, uI_row (by decide), e1, uI_ne (fun z => a z.2), r3 25 (by decide)]
    · have := (nI_eq (a := m) (b := 8) (by omega) (by decide)).mp z
      omega
  · have hm8 : m = 8 := by
      rcases Nat.lt_or_ge m 8 with z | z
      · exfalso
        apply q
        rw [show (8 : Int32) = nI 8 from rfl, Int32.lt_iff_toInt_lt, nI_toInt (by omega), nI_toInt (by omega)]
        omega
      · omega
    refine hP _ S (fun hK S1 e1 => ?_)
    have h1 := h.m0 e1
    rw [h1.mw.2.1, hm8]
    exact ⟨fun z => absurd rfl z, fun _ => hK S1 h1.ex⟩
theorem p_set (h : IV S d m T) {a : Int32} (b : Bool) {a2 : Int32} (hb2 : a2 = if b then 1 else 0) (hP : ∀ r S1, (∀ {K : Int32 → St → Prop}, (∀ S2, IVx S2 → K r S2) → wp_X6_set S1 a a2 K) → P r S1) : wp_X5_set S a a2 P := by
  have hm := h.om.1
  refine sp_has3 h.xu.1 (by omega) (fun hno => ⟨fun _ => hP _ S (fun hK S1 e1 => ?_), fun q => absurd rfl q⟩) (fun u hu e => ⟨fun q => absurd q (by decide), fun _ => ?_⟩)
  · have h1 := h.m0 e1
    exact sp_isUser h1.mw.2.1 (by omega) (fun _ => ⟨fun _ => hK S1 h1.ex, fun q => absurd rfl q⟩) (fun u hu e => absurd e (hno u hu))
  · subst e
    have hu8 : u < 8 := by omega
    have ebt : ∀ x : Bool, nI (if x then 1 else 0) = (if x then (1 : Int32) else 0) := fun x => by cases x <;> rfl
    have ecmp : ((if T.testBit u then (1 : Int32) else 0) = a2) ↔ T.testBit u = b := by
      rw [hb2]
      cases T.testBit u <;> cases b <;> decide
    refine sp_thereI h.xu hu8 ⟨fun hne => ?_, fun heq => hP _ S (fun hK S1 e1 => ?_)⟩
    · intro S3 e3
      have hbb : ¬ T.testBit u = b := fun z => hne (ecmp.mpr z)
      rw [h.xu.2.1, nI_pow (by omega), fb_xorI] at e3
      have r3 : ∀ k, k ≠ 2 → S3.1 k = S.1 k := fun k hk => by rw [e3, uI_row hk]
      refine hP _ S3 (fun hK S1 e1 => ?_)
      have e9 : S1.1 25 9 = nI m := by rw [e1, uI_ne (by decide), r3 25 (by decide)]; exact h.mw.2.1
      refine sp_isUser e9 (by omega) (fun hno => absurd rfl (hno u hu)) (fun _ _ _ => ⟨fun q => absurd q (by decide), fun _ => ⟨vp_in_nI hu8 (by decide), ?_⟩⟩)
      have e32 : S1.1 32 u = if T.testBit u then (1 : Int32) else 0 := by rw [e1, uI_row (by decide), r3 32 (by decide), h.mt.2 u hu8, ebt]
      rw [nI_clamp (by omega), e32]
      refine ⟨fun _ => ⟨vp_in_nI hu8 (by decide), fun S6 e6 => ?_⟩, fun z => absurd z hne⟩
      have enar : vp_nar .boolean a2 = a2 := by
        rw [hb2]
        cases b <;> decide
      rw [enar] at e6
      refine hK S6 (IV.ex (h.ru (m' := m) (T' := T ^^^ 2 ^ u) ⟨?_, ?_, xor_lt h.mt.1 hu, hm⟩ (Nat.le_refl _) ?_ (fun v hv => ?_) (fun k x y c => ?_) (fun j x y => ?_)))
      · rw [e6, uI_row (by decide), e1, uI_row (by decide), e3, uI_ne (by decide)]; exact h.xu.1
      · rw [e6, uI_row (by decide), e1, uI_row (by decide), e3, uI_at]
      · rw [e6, uI_row (by decide)]; exact e9
      · rw [e6, fb_bit_flip]
        by_cases ev : v = u
        · subst ev
          rw [uI_at, hb2]
          revert hbb
          cases T.testBit v <;> cases b <;> simp <;> rfl
        · rw [uI_ne (fun z => ev z.2), e1, uI_row (by decide), r3 32 (by decide), h.mt.2 v hv, decide_eq_false ev, Bool.xor_false]
      · rw [e6, uI_row c, e1, uI_row y]; exact r3 k x
      · rw [e6, uI_row (by decide), e1, uI_ne (fun z => x z.2), r3 25 (by decide)]
    · have h1 := h.m0 e1
      refine sp_isUser h1.mw.2.1 (by omega) (fun hno => absurd rfl (hno u hu)) (fun _ _ _ => ⟨fun q => absurd q (by decide), fun _ => ⟨vp_in_nI hu8 (by decide), ?_⟩⟩)
      rw [nI_clamp (by omega), h1.mt.2 u hu8, ebt]
      exact ⟨fun z => absurd heq z, fun _ => hK S1 h1.ex⟩
theorem p_mark (h : IV S d m T) {a a2 : Int32} (hP : ∀ r S1, (∀ {K : Int32 → St → Prop}, (∀ S2, IVx S2 → K r S2) → wp_X6_mark S1 a a2 K) → P r S1) : wp_X5_mark S a a2 P := by
  have hm := h.om.1
  refine sp_has3 h.xu.1 (by omega) (fun hno => ⟨fun q => absurd rfl q, fun _ => hP _ S (fun hK S1 e1 => ?_)⟩) (fun u hu e => ⟨fun _ => ?_, fun q => absurd q (by decide)⟩)
  · have h1 := h.m0 e1
    exact sp_isUser h1.mw.2.1 (by omega) (fun _ => ⟨fun q => absurd rfl q, fun _ => hK S1 h1.ex⟩) (fun u hu e => absurd e (hno u hu))
  · subst e
    have hu8 : u < 8 := by omega
    have hmk := h.mk u hu8
    refine ⟨vp_in_nI hu8 (by decide), fun x4 e4 => ?_⟩
    rw [nI_clamp (by omega)] at e4 ⊢
    -- the reference in a state that has the same marks, and the class's mark put
    have mM : ∀ (S3 : St), (∀ k, k ≠ 14 → S3.1 k = S.1 k) → ∀ {K : Int32 → St → Prop}, ((x4 < -10000 ∨ ¬ x4 ≤ 10000) → ∀ S1, S1 = uI S3 25 0 0 → K (-20000) S1) → (¬ x4 < -10000 → x4 ≤ 10000 → ∀ S1, S1 = uI S3 25 0 0 → ∀ S7, S7 = uI S1 30 u x4.toInt32 → K x4.toInt32 S7) → wp_X6_mark S3 (nI u) a2 K := fun S3 r3 K k0 k1 => by
      intro S1 e1
      have e9 : S1.1 25 9 = nI m := by rw [e1, uI_ne (by decide), r3 25 (by decide)]; exact h.mw.2.1
      refine sp_isUser e9 (by omega) (fun hno => absurd rfl (hno u hu)) (fun _ _ _ => ⟨fun _ => ⟨vp_in_nI hu8 (by decide), fun x5 e5 => ?_⟩, fun q => absurd q (by decide)⟩)
      rw [nI_clamp (by omega), show S1.1 30 u = S.1 14 u by rw [e1, uI_row (by decide), r3 30 (by decide)]; exact hmk.1.symm, ← e4] at e5
      subst e5
      refine ⟨fun q => k0 (Or.inl q) S1 e1, fun q => ⟨fun q2 => ⟨vp_in_nI hu8 (by decide), fun S7 e7 => ⟨vp_in_nI hu8 (by decide), ?_⟩⟩, fun q2 => k0 (Or.inr q2) S1 e1⟩⟩
      rw [nI_clamp (by omega)] at e7 ⊢
      rw [show S7.1 30 u = x5.toInt32 by rw [e7, uI_at]]
      exact k1 q q2 S1 e1 S7 e7
    have fail : (x4 < -10000 ∨ ¬ x4 ≤ 10000) → P (-20000) S := fun hf => hP _ S (fun hK => mM S (fun _ _ => rfl) (fun _ S1 e1 => hK S1 (h.m0 e1).ex) (fun q1 q2 => by
      rcases hf with z | z
      · exact absurd z q1
      · exact absurd q2 z))
    refine ⟨fun q => fail (Or.inl q), fun q => ⟨fun q2 => ⟨vp_in_nI hu8 (by decide), fun S6 e6 => ⟨vp_in_nI hu8 (by decide), ?_⟩⟩, fun q2 => fail (Or.inr q2)⟩⟩
    rw [show S6.1 14 u = x4.toInt32 by rw [e6, uI_at]]
    have r6 : ∀ k, k ≠ 14 → S6.1 k = S.1 k := fun k hk => by rw [e6, uI_row hk]
    refine hP _ S6 (fun hK => mM S6 r6 (fun hf => ?_) (fun _ _ S1 e1 S7 e7 => ?_))
    · rcases hf with z | z
      · exact absurd z q
      · exact absurd q2 z
    · have hb1 : -10000 ≤ x4.toInt := by
        have := Int64.not_lt.mp q
        rw [Int64.le_iff_toInt_le, show (-10000 : Int64).toInt = -10000 by decide] at this
        exact this
      have hb2 : x4.toInt ≤ 10000 := by
        rw [Int64.le_iff_toInt_le, show (10000 : Int64).toInt = 10000 by decide] at q2
        exact q2
      have hbi : x4.toInt32.toInt = x4.toInt := by
        rw [Int64.toInt_toInt32, fb_bmod (by omega) (by omega)]
      have r7 : ∀ k, k ≠ 14 → k ≠ 25 → k ≠ 30 → S7.1 k = S.1 k := fun k p1 p2 p3 => by rw [e7, uI_row p3, e1, uI_row p2]; exact r6 k p1
      have r25 : ∀ j, j ≠ 0 → S7.1 25 j = S.1 25 j := fun j p1 => by rw [e7, uI_row (by decide), e1, uI_ne (fun z => p1 z.2), r6 25 (by decide)]
      refine hK S7 ⟨d, m, T, h.xi.rows (fun k hk => r7 k (by omega) (by omega) (by omega)), h.xu.keep (r7 2 (by decide) (by decide) (by decide)), h.om, ⟨(r25 8 (by decide)).trans h.mw.1, (r25 9 (by decide)).trans h.mw.2.1, fun w hw => ?_, fun w hw => ?_, fun w v hw hv => ?_, fun w v hw hv => ?_⟩, ⟨h.mt.1, fun v hv => ?_⟩, fun v hv => ?_, fun v hv => ?_, ?_, ?_, fun j => ?_⟩
      · rw [r7 26 (by decide) (by decide) (by decide)]; exact h.mw.2.2.1 w hw
      · rw [r7 27 (by decide) (by decide) (by decide)]; exact h.mw.2.2.2.1 w hw
      · rw [r7 28 (by decide) (by decide) (by decide)]; exact h.mw.2.2.2.2.1 w v hw hv
      · rw [r7 29 (by decide) (by decide) (by decide)]; exact h.mw.2.2.2.2.2 w v hw hv
      · rw [r7 32 (by decide) (by decide) (by decide)]; exact h.mt.2 v hv
      · have e14 : S7.1 14 = S6.1 14 := by rw [e7, uI_row (by decide), e1, uI_row (by decide)]
        rw [e14, e7, e6]
        by_cases ev : v = u
        · subst ev
          rw [uI_at, uI_at, hbi]
          exact ⟨rfl, hb1, hb2⟩
        · rw [uI_ne (fun z => ev z.2), uI_ne (fun z => ev z.2), e1, uI_row (by decide), r6 30 (by decide)]
          exact h.mk v hv
      · rw [r7 21 (by decide) (by decide) (by decide), r7 31 (by decide) (by decide) (by decide)]; exact h.bk v hv
      · rw [r7 5 (by decide) (by decide) (by decide), r25 10 (by decide)]; exact h.ln
      · rw [r7 5 (by decide) (by decide) (by decide), r25 11 (by decide)]; exact h.bs
      · rw [r7 22 (by decide) (by decide) (by decide), r7 23 (by decide) (by decide) (by decide), r7 24 (by decide) (by decide) (by decide), r7 33 (by decide) (by decide) (by decide), r7 34 (by decide) (by decide) (by decide), r7 35 (by decide) (by decide) (by decide)]; exact h.li j
end Q6
