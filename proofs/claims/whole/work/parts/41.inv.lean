/-! ===== pure: what holds between two calls ===== -/
def IV (S : St) (d : Dw) (m T : Nat) : Prop := XI S d ∧ XU S T m ∧ Okm d m ∧ MW S d m ∧ MT S T m ∧ (∀ u, u < 8 → S.1 14 u = S.1 30 u ∧ -10000 ≤ (S.1 14 u).toInt ∧ (S.1 14 u).toInt ≤ 10000) ∧ (∀ u, u < 8 → S.1 21 u = S.1 31 u ∧ (m ≤ u → S.1 21 u = 0)) ∧ (∃ n, n ≤ 400 ∧ S.1 5 1 = nI n ∧ S.1 25 10 = nI n) ∧ S.1 5 0 = S.1 25 11 ∧ ∀ j, S.1 22 j = S.1 33 j ∧ S.1 23 j = S.1 34 j ∧ S.1 24 j = S.1 35 j
def IVx (S : St) : Prop := ∃ d m T, IV S d m T
theorem IV.ex {S : St} {d : Dw} {m T : Nat} (h : IV S d m T) : IVx S := ⟨d, m, T, h⟩
theorem IV.xi {S : St} {d : Dw} {m T : Nat} (h : IV S d m T) : XI S d := h.1
theorem IV.d {S : St} {d : Dw} {m T : Nat} (h : IV S d m T) : Okd d := h.1.1
theorem IV.xu {S : St} {d : Dw} {m T : Nat} (h : IV S d m T) : XU S T m := h.2.1
theorem IV.om {S : St} {d : Dw} {m T : Nat} (h : IV S d m T) : Okm d m := h.2.2.1
theorem IV.mw {S : St} {d : Dw} {m T : Nat} (h : IV S d m T) : MW S d m := h.2.2.2.1
theorem IV.mt {S : St} {d : Dw} {m T : Nat} (h : IV S d m T) : MT S T m := h.2.2.2.2.1
theorem IV.mk {S : St} {d : Dw} {m T : Nat} (h : IV S d m T) : ∀ u, u < 8 → S.1 14 u = S.1 30 u ∧ -10000 ≤ (S.1 14 u).toInt ∧ (S.1 14 u).toInt ≤ 10000 := h.2.2.2.2.2.1
theorem IV.bk {S : St} {d : Dw} {m T : Nat} (h : IV S d m T) : ∀ u, u < 8 → S.1 21 u = S.1 31 u ∧ (m ≤ u → S.1 21 u = 0) := h.2.2.2.2.2.2.1
theorem IV.ln {S : St} {d : Dw} {m T : Nat} (h : IV S d m T) : ∃ n, n ≤ 400 ∧ S.1 5 1 = nI n ∧ S.1 25 10 = nI n := h.2.2.2.2.2.2.2.1
theorem IV.bs {S : St} {d : Dw} {m T : Nat} (h : IV S d m T) : S.1 5 0 = S.1 25 11 := h.2.2.2.2.2.2.2.2.1
theorem IV.li {S : St} {d : Dw} {m T : Nat} (h : IV S d m T) : ∀ j, S.1 22 j = S.1 33 j ∧ S.1 23 j = S.1 34 j ∧ S.1 24 j = S.1 35 j := h.2.2.2.2.2.2.2.2.2
theorem IV.lt {S : St} {d : Dw} {m T : Nat} (h : IV S d m T) : T < 256 := h.xu.lt
theorem IV.x {S S' : St} {d : Dw} {m T : Nat} (h : IV S d m T) (hk : ∀ k, k ≠ 6 → k ≠ 7 → k ≠ 13 → S'.1 k = S.1 k) (hI : XI S' d) : IV S' d m T := by
  have e : ∀ k, k ≠ 6 ∧ k ≠ 7 ∧ k ≠ 13 → S'.1 k = S.1 k := fun k q => hk k q.1 q.2.1 q.2.2
  refine ⟨hI, h.xu.keep (e 2 (by decide)), h.om, ?_, ⟨h.mt.1, fun u hu => by rw [e 32 (by decide)]; exact h.mt.2 u hu⟩, fun u hu => ?_, fun u hu => ?_, ?_, ?_, fun j => ?_⟩
  · have := h.mw
    unfold MW at this ⊢
    rw [e 25 (by decide), e 26 (by decide), e 27 (by decide), e 28 (by decide), e 29 (by decide)]
    exact this
  · rw [e 14 (by decide), e 30 (by decide)]; exact h.mk u hu
  · rw [e 21 (by decide), e 31 (by decide)]; exact h.bk u hu
  · rw [e 5 (by decide), e 25 (by decide)]; exact h.ln
  · rw [e 5 (by decide), e 25 (by decide)]; exact h.bs
  · rw [e 22 (by decide), e 23 (by decide), e 24 (by decide), e 33 (by decide), e 34 (by decide), e 35 (by decide)]; exact h.li j
theorem IV.xf {S S' : St} {d : Dw} {m T : Nat} (h : IV S d m T) (hf : Xf S S') (hI : XI S' d) : IV S' d m T := h.x (fun k _ _ c => hf k c) hI
theorem IV.m {S S' : St} {d : Dw} {m T : Nat} (h : IV S d m T) (hf : MG 61 S S') : IV S' d m T := by
  have e : ∀ k, k ≠ 25 ∧ k ≠ 36 ∧ k ≠ 41 ∧ k ≠ 42 ∧ k < 61 → S'.1 k = S.1 k := fun k q => hf.1 k q.1 q.2.1 q.2.2.1 q.2.2.2.1 q.2.2.2.2
  have e25 : ∀ j, j ≠ 0 ∧ j ≠ 19 ∧ j ≠ 24 → S'.1 25 j = S.1 25 j := fun j q => hf.2 j q.1 q.2.1 q.2.2
  refine ⟨⟨h.d, h.xi.2.1.keep (fun k hk => e k (by omega)), fun u hu => ?_, fun g hg => ?_⟩, h.xu.keep (e 2 (by decide)), h.om, h.mw.mG (by decide) hf, h.mt.mG (by decide) hf, fun u hu => ?_, fun u hu => ?_, ?_, ?_, fun j => ?_⟩
  · rw [e 12 (by decide)]; exact h.xi.2.2.1 u hu
  · rw [e 13 (by decide)]; exact h.xi.2.2.2 g hg
  · rw [e 14 (by decide), e 30 (by decide)]; exact h.mk u hu
  · rw [e 21 (by decide), e 31 (by decide)]; exact h.bk u hu
  · rw [e 5 (by decide), e25 10 (by decide)]; exact h.ln
  · rw [e 5 (by decide), e25 11 (by decide)]; exact h.bs
  · rw [e 22 (by decide), e 23 (by decide), e 24 (by decide), e 33 (by decide), e 34 (by decide), e 35 (by decide)]; exact h.li j
theorem IV.m0 {S S' : St} {d : Dw} {m T : Nat} (h : IV S d m T) (e : S' = uI S 25 0 0) : IV S' d m T := h.m (by rw [e]; exact (MF.uI (by omega)).mg)
theorem IV.mf {S S' : St} {d : Dw} {m T : Nat} (h : IV S d m T) (hf : MF S S') : IV S' d m T := h.m hf.mg
/-! ranges -/
theorem rgc {a : Int32} {hi : Nat} {P0 P1 : Prop} (hh : hi < 2147483647) (h0 : (∀ r, r ≤ hi → a ≠ nI r) → P0) (h1 : ∀ r, r ≤ hi → a = nI r → P1) : (a < 0 → P0) ∧ (¬ (a < 0) → (nI hi < a → P0) ∧ (¬ (nI hi < a) → P1)) := by
  refine ⟨fun q => h0 (fun r hr e => ?_), fun q => ⟨fun q2 => h0 (fun r hr e => ?_), fun q2 => ?_⟩⟩
  · rw [e] at q; exact nI_pos (by omega) q
  · rw [e, Int32.lt_iff_toInt_lt, nI_toInt (by omega), nI_toInt (by omega)] at q2; omega
  · rcases pk_ix a (show hi + 1 < 2 ^ 31 by omega) with z | z | ⟨j, hj, e⟩
    · exact absurd z q
    · refine absurd ?_ q2
      rw [Int32.lt_iff_toInt_lt, nI_toInt (by omega)]
      rw [Int32.le_iff_toInt_le, nI_toInt (by omega)] at z
      omega
    · exact h1 j (by omega) e
theorem sp_ruleX {S : St} {a : Int32} {post : Int32 → St → Prop} (h0 : (∀ r, r ≤ 2 → a ≠ nI r) → post 0 S) (h1 : ∀ r, r ≤ 2 → a = nI r → post 1 S) : wp_X5_isRule S a post := rgc (hi := 2) (by decide) h0 h1
theorem sp_isInM {S : St} {a : Int32} {hi : Nat} (hh : hi < 2147483647) {post : Int32 → St → Prop} (h0 : (∀ r, r ≤ hi → a ≠ nI r) → post 0 S) (h1 : ∀ r, r ≤ hi → a = nI r → post 1 S) : wp_X6_isIn S a 0 (nI hi) post := rgc hh h0 h1
theorem sp_ruleM {S : St} {a : Int32} {post : Int32 → St → Prop} (h0 : (∀ r, r ≤ 2 → a ≠ nI r) → post 0 S) (h1 : ∀ r, r ≤ 2 → a = nI r → post 1 S) : wp_X6_isRule S a post := sp_isInM (hi := 2) (by decide) (fun q => ⟨rfl, h0 q⟩) (fun r hr e => ⟨rfl, h1 r hr e⟩)
theorem sp_partOk {S : St} {a : Int32} {post : Int32 → St → Prop} (h0 : (∀ r, r ≤ 1 → a ≠ nI r) → post 0 S) (h1 : ∀ r, r ≤ 1 → a = nI r → post 1 S) : wp_X5_isPart S a post := by
  refine ⟨fun q => h1 0 (by decide) q, fun q => ⟨fun q2 => h0 (fun r hr e => ?_), fun q2 => h1 1 (by decide) q2⟩⟩
  have : r = 0 ∨ r = 1 := by omega
  rcases this with z | z
  · rw [z] at e; exact q e
  · rw [z] at e; exact q2 e
theorem sp_isWork {S : St} {n : Nat} (hS : S.1 25 8 = nI n) (hn : n < 2 ^ 31) {a : Int32} {post : Int32 → St → Prop} (h0 : (∀ w, w < n → a ≠ nI w) → post 0 S) (h1 : ∀ w, w < n → a = nI w → post 1 S) : wp_X6_isWork S a post := by
  unfold wp_X6_isWork
  rw [hS]
  refine ⟨fun q => h0 (fun w hw e => ?_), fun q => ⟨fun q2 => h0 (fun w hw e => ?_), fun q2 => ?_⟩⟩
  · rw [e] at q; exact nI_pos (by omega) q
  · rw [e] at q2; exact nI_ge hw hn q2
  · rcases pk_ix a hn with z | z | ⟨j, hj, e⟩
    · exact absurd z q
    · exact absurd z q2
    · exact h1 j hj e
theorem sp_isUser {S : St} {n : Nat} (hS : S.1 25 9 = nI n) (hn : n < 2 ^ 31) {a : Int32} {post : Int32 → St → Prop} (h0 : (∀ w, w < n → a ≠ nI w) → post 0 S) (h1 : ∀ w, w < n → a = nI w → post 1 S) : wp_X6_isUser S a post := by
  unfold wp_X6_isUser
  rw [hS]
  refine ⟨fun q => h0 (fun w hw e => ?_), fun q => ⟨fun q2 => h0 (fun w hw e => ?_), fun q2 => ?_⟩⟩
  · rw [e] at q; exact nI_pos (by omega) q
  · rw [e] at q2; exact nI_ge hw hn q2
  · rcases pk_ix a hn with z | z | ⟨j, hj, e⟩
    · exact absurd z q
    · exact absurd z q2
    · exact h1 j hj e
theorem sp_thereMu {S : St} {T m : Nat} (hm : m ≤ 8) (h9 : S.1 25 9 = nI m) (hT : MT S T m) {a : Int32} {post : Int32 → St → Prop} (h0 : (∀ u, T.testBit u = true → a ≠ nI u) → post 0 S) (h1 : ∀ u, u < m → T.testBit u = true → a = nI u → post 1 S) : wp_X6_isThere S a post := by
  refine sp_isUser h9 (by omega) (fun hno => ⟨fun _ => h0 (fun u hu => hno u (bit_lt hT.1 hu)), fun q => absurd rfl q⟩) (fun w hw e => ⟨fun q => absurd q (by decide), fun _ => ?_⟩)
  subst e
  refine ⟨vp_in_nI (by omega) (by decide), br_there hT (by omega) (fun hb => h0 (fun u hu e2 => ?_)) (fun hb => h1 w hw hb rfl)⟩
  have hu8 := bit_lt hT.1 hu
  rw [(nI_eq (by omega) (by omega)).mp e2, hu] at hb
  cases hb
/-! the queries -/
section Q
variable {S : St} {d : Dw} {m T : Nat} {P : Int32 → St → Prop} {PL : Int64 → St → Prop}
theorem p_needed (h : IV S d m T) (hP : ∀ r S1, (∀ {K : Int32 → St → Prop}, (∀ S2, IVx S2 → K r S2) → wp_X6_needed S1 K) → P r S1) : wp_X5_needed S P := by
  unfold wp_X5_needed
  rw [h.xu.2.1]
  refine sp_neededX h.xi.2.2.1 h.d h.lt (hP _ S (fun hK S1 e1 => ?_))
  have h1 := h.m0 e1
  exact sp_thereM h.om.1 h1.mw.2.1 h1.mt (sp_neededM h.d h.om h1.mw h.lt (hK S1 h1.ex))
theorem sp_neededNow (h : IV S d m T) {a : Int32} {post : Int32 → St → Prop} (h0 : (∀ w, (need d T).testBit w = true → a ≠ nI w) → post 0 S) (h1 : ∀ w, (need d T).testBit w = true → a = nI w → post 1 S) : wp_X5_isNeededNow S a post := by
  have hn := h.d.1
  refine sp_has4 h.xi.2.1.1 (by omega) (fun hno => ⟨fun _ => h0 (fun w hw => hno w (need_n h.d hw)), fun q => absurd rfl q⟩) (fun w hw e => ⟨fun q => absurd q (by decide), fun _ => ?_⟩)
  rw [h.xu.2.1]
  have hN := need_lt h.d T
  refine sp_neededX h.xi.2.2.1 h.d h.lt ?_
  rw [e]
  refine sp_isIn (by omega) (by omega) (br_b (fun hb => h0 (fun v hv e2 => ?_)) (fun hb => h1 w hb e))
  have hv6 := need_n h.d hv
  rw [(nI_eq (by omega) (by omega)).mp (e.symm.trans e2), hv] at hb
  cases hb
theorem p_total (h : IV S d m T) {a : Int32} (hP : ∀ r S1, (∀ {K : Int32 → St → Prop}, (∀ S2, IVx S2 → K r S2) → wp_X6_total S1 a K) → P r S1) : wp_X5_total S a P := by
  have hn := h.d.1
  have hN := need_lt h.d T
  refine sp_neededNow h (fun hno => ⟨fun q => absurd rfl q, fun _ => hP _ S (fun hK S1 e1 => ?_)⟩) (fun w hw e => ⟨fun _ => ?_, fun q => absurd q (by decide)⟩)
  · have h1 := h.m0 e1
    refine sp_thereM h.om.1 h1.mw.2.1 h1.mt (sp_neededM h.d h.om h1.mw h.lt (sp_isWork h1.mw.1 (by omega) (fun _ => ⟨fun _ => hK S1 h1.ex, fun q => absurd rfl q⟩) (fun w hw e => ⟨fun q => absurd q (by decide), fun _ => ?_⟩)))
    rw [e]
    exact br_bit (by omega) (by omega) (fun _ => hK S1 h1.ex) (fun hb => absurd e (hno w hb))
  · have hwn := need_n h.d hw
    rw [h.xu.2.1]
    refine sp_neededX h.xi.2.2.1 h.d h.lt ?_
    rw [e]
    refine sp_unitsOf h.xi.2.1 h.d (by omega) h.lt hN (hP _ S (fun hK S1 e1 => ?_))
    have h1 := h.m0 e1
    refine sp_thereM h.om.1 h1.mw.2.1 h1.mt (sp_neededM h.d h.om h1.mw h.lt (sp_isWork h1.mw.1 (by omega) (fun hno => absurd e (hno w hwn)) (fun v hv e2 => ⟨fun q => absurd q (by decide), fun _ => ?_⟩)))
    rw [e]
    exact br_bit (by omega) (by omega) (fun hb => by rw [hw] at hb; cases hb) (fun _ => sp_totalM h.d h.om h1.mw (by omega) h.lt hN (hK S1 h1.ex))
theorem ldf_in {g m : Nat} (hm : m ≤ 8) (hg : g < 2 ^ 31) : ldf g (2 ^ m - 1) = 0 ↔ g < 2 ^ m := by
  constructor
  · intro hz
    refine Nat.lt_pow_two_of_testBit g (fun i hi => ?_)
    have := ldf_bit (b := 2 ^ m - 1) (show g < 2 ^ 32 by omega) i
    rw [hz, Nat.zero_testBit, Nat.testBit_two_pow_sub_one, decide_eq_false (by omega)] at this
    simpa using this.symm
  · intro hlt
    refine eq_bits fun i => ?_
    rw [ldf_bit (by omega), Nat.zero_testBit, Nat.testBit_two_pow_sub_one]
    cases hb : g.testBit i with
    | false => rfl
    | true => rw [decide_eq_true (bit_lt hlt hb)]; rfl
end Q
