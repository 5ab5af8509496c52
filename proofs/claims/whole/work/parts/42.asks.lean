/-! ===== pure: the queries ===== -/
theorem i32_nat (a : Int32) : ∃ n, n < 2 ^ 32 ∧ a = nI n := ⟨a.toBitVec.toNat, a.toBitVec.isLt, by
  apply Int32.toBitVec_inj.mp
  show a.toBitVec = BitVec.ofNat 32 a.toBitVec.toNat
  rw [BitVec.ofNat_toNat, BitVec.setWidth_eq]⟩
theorem nI_z32 {k : Nat} (hk : k < 2 ^ 32) : nI k = 0 ↔ k = 0 := by
  constructor
  · intro h
    have h1 := congrArg (fun x : Int32 => x.toBitVec.toNat) h
    replace h1 : (BitVec.ofNat 32 k).toNat = 0 := h1
    rw [BitVec.toNat_ofNat, Nat.mod_eq_of_lt hk] at h1
    exact h1
  · intro h; rw [h]; rfl
theorem ldf_in2 {g m : Nat} (hm : m ≤ 8) (hg : g < 2 ^ 32) : ldf g (2 ^ m - 1) = 0 ↔ g < 2 ^ m := by
  constructor
  · intro hz
    refine Nat.lt_pow_two_of_testBit g (fun i hi => ?_)
    have := ldf_bit (b := 2 ^ m - 1) hg i
    rw [hz, Nat.zero_testBit, Nat.testBit_two_pow_sub_one, decide_eq_false (by omega)] at this
    simpa using this.symm
  · intro hlt
    refine eq_bits fun i => ?_
    rw [ldf_bit hg, Nat.zero_testBit, Nat.testBit_two_pow_sub_one]
    cases hb : g.testBit i with
    | false => rfl
    | true => rw [decide_eq_true (bit_lt hlt hb)]; rfl
theorem all_m {m : Nat} (hm : m ≤ 8) : ((1 : Int32) <<< (nI m &&& 31)) - 1 = nI (2 ^ m - 1) := by
  rw [nI_pow (by omega), show (1 : Int32) = nI 1 from rfl, pk_sub (Nat.one_le_two_pow)]
theorem pow8 {m : Nat} (hm : m ≤ 8) : 2 ^ m ≤ 256 := (Nat.pow_le_pow_right (by decide) hm : 2 ^ m ≤ 2 ^ 8)
theorem z32 (x : Int32) : x.toInt64 = zL x.toInt := (Int64.ofInt_int32ToInt x).symm
theorem cnv_eq {d : Dw} {T r u : Nat} {f g : Nat → Int32} (h : f u = g u) : cnv d T r f u = cnv d T r g u := by unfold cnv; rw [h]
theorem bill_lt {d : Dw} (hd : Okd d) {T r u : Nat} (hT : T < 256) (hu : u < 8) {k : Int} (h1 : -10000 ≤ k) (h2 : k ≤ 10000) : (bnR d T r u + k * DR d T r).natAbs < 2 ^ 63 := by
  have a1 := bnR_nn hd T r u
  have a2 := bnR_lt hd hT r hu
  have a3 := DR_ok hd T r
  have a4 : k * DR d T r ≤ 10000 * 34012224000000 := Int.le_trans (Int.mul_le_mul_of_nonneg_right h2 (by omega)) (Int.mul_le_mul_of_nonneg_left a3.2 (by omega))
  have a5 : (-k) * DR d T r ≤ 10000 * 34012224000000 := Int.le_trans (Int.mul_le_mul_of_nonneg_right (by omega : -k ≤ 10000) (by omega)) (Int.mul_le_mul_of_nonneg_left a3.2 (by omega))
  rw [Int.neg_mul] at a5
  omega
section Q2
variable {S : St} {d : Dw} {m T : Nat} {P : Int32 → St → Prop} {PL : Int64 → St → Prop}
theorem p_cost (h : IV S d m T) {a : Int32} (hP : ∀ r S1, (∀ {K : Int32 → St → Prop}, (∀ S2, IVx S2 → K r S2) → wp_X6_cost S1 a K) → P r S1) : wp_X5_cost S a P := by
  have hm := h.om.1
  have hp := pow8 hm
  have hp0 : 0 < 2 ^ m := Nat.two_pow_pos m
  unfold wp_X5_cost wp_X3_all
  rw [h.xu.1, all_m hm]
  show ((a &&& (nI (2 ^ m - 1) ^^^ (-1 : Int32))) = 0 → wp_X4_costOf S a (fun r4 S3 => P r4 S3)) ∧ (¬ ((a &&& (nI (2 ^ m - 1) ^^^ (-1 : Int32))) = 0) → P (-1) S)
  obtain ⟨n, hn, e⟩ := i32_nat a
  subst e
  rw [nI_ldf, nI_z32 (Nat.lt_of_le_of_lt (ldf_le _ _) hn), ldf_in2 hm hn]
  refine ⟨fun hlt => sp_costOf h.xi (by omega) (fun S3 f3 i3 => hP _ S3 (fun hK S1 e1 => ?_)), fun hge => hP _ S (fun hK S1 e1 => ?_)⟩
  · have h1 := (h.xf f3.xf i3).m0 e1
    rw [h1.mw.2.1, all_m hm]
    refine sp_isInM (by omega) (fun hno => absurd rfl (hno n (by omega))) (fun r _ e2 => ⟨fun q => absurd q (by decide), fun _ => sp_costM h.d h.om h1.mw (by omega) (hK S1 h1.ex)⟩)
  · have h1 := h.m0 e1
    rw [h1.mw.2.1, all_m hm]
    refine sp_isInM (by omega) (fun hno => ⟨fun _ => hK S1 h1.ex, fun q => absurd rfl q⟩) (fun r hr e2 => ?_)
    have hz : ldf n (2 ^ m - 1) = 0 := by
      have e3 : nI n &&& (nI (2 ^ m - 1) ^^^ (-1 : Int32)) = nI r &&& (nI (2 ^ m - 1) ^^^ (-1 : Int32)) := by rw [e2]
      rw [nI_ldf, nI_ldf, (ldf_in2 (g := r) hm (by omega)).mpr (by omega)] at e3
      exact (nI_z32 (Nat.lt_of_le_of_lt (ldf_le _ _) hn)).mp e3
    exact absurd ((ldf_in2 hm hn).mp hz) hge
theorem p_price (h : IV S d m T) {a a2 : Int32} (hP : ∀ r S1, (∀ {K : Int64 → St → Prop}, (∀ S2, IVx S2 → K r S2) → wp_X6_price S1 a a2 K) → PL r S1) : wp_X5_price S a a2 PL := by
  have hn := h.d.1
  have hN := need_lt h.d T
  have hm := h.om.1
  refine sp_neededNow h (fun hno => ⟨fun _ => hP _ S (fun hK S1 e1 => ?_), fun q => absurd rfl q⟩) (fun w hw e => ⟨fun q => absurd q (by decide), fun _ => sp_partOk (fun hno => ⟨fun q => absurd rfl q, fun _ => hP _ S (fun hK S1 e1 => ?_)⟩) (fun p hp e2 => ⟨fun _ => ?_, fun q => absurd q (by decide)⟩)⟩)
  · have h1 := h.m0 e1
    refine sp_isWork h1.mw.1 (by omega) (fun _ => ⟨fun _ => hK S1 h1.ex, fun q => absurd rfl q⟩) (fun w hw e => ⟨fun q => absurd q (by decide), fun _ => sp_isInM (hi := 1) (by decide) (fun _ => ⟨fun _ => hK S1 h1.ex, fun q => absurd rfl q⟩) (fun p _ _ => ⟨fun q => absurd q (by decide), fun _ => ?_⟩)⟩)
    refine sp_thereM hm h1.mw.2.1 h1.mt (sp_neededM h.d h.om h1.mw h.lt ?_)
    rw [e]
    exact br_bit0 (by omega) (by omega) (fun hb => absurd e (hno w hb)) (fun _ => hK S1 h1.ex)
  · have h1 := h.m0 e1
    exact sp_isWork h1.mw.1 (by omega) (fun _ => ⟨fun _ => hK S1 h1.ex, fun q => absurd rfl q⟩) (fun w hw e => ⟨fun q => absurd q (by decide), fun _ => sp_isInM (hi := 1) (by decide) (fun _ => ⟨fun _ => hK S1 h1.ex, fun q => absurd rfl q⟩) (fun p hp e2 => absurd e2 (hno p hp))⟩)
  · have hwn := need_n h.d hw
    have hD := den_pos h.d T
    have hD2 := den_lt h.d T
    have hx1 := num_nn h.d (T := T) (c := w) (by omega)
    have hx2 := num_lt h.d (T := T) (c := w) (by omega)
    rw [h.xu.2.1]
    refine sp_solve h.xi h.lt (fun S5 f5 g3 g15 => ?_)
    rw [e]
    refine ⟨vp_in_nI (by omega) (by decide), ?_⟩
    rw [nI_clamp (by omega), g15 w (by omega), g3]
    refine sp_partX hD hD2 (by omega) (hP _ S5 (fun hK S1 e1 => ?_))
    have h5 := h.xf (Xf.of1 f5.1) (h.xi.eq f5.1)
    have h1 := h5.m0 e1
    refine sp_isWork h1.mw.1 (by omega) (fun hno => absurd e (hno w hwn)) (fun v hv e3 => ⟨fun q => absurd q (by decide), fun _ => sp_isInM (hi := 1) (by decide) (fun hno => absurd e2 (hno p hp)) (fun p _ _ => ⟨fun q => absurd q (by decide), fun _ => ?_⟩)⟩)
    refine sp_thereM hm h1.mw.2.1 h1.mt (sp_neededM h.d h.om h1.mw h.lt ?_)
    rw [e]
    refine br_bit0 (by omega) (by omega) (fun hb => sp_pricesM h.d h.om h1.mw h1.mt (fun S10 f10 g20 g39 => ⟨vp_in_nI (by omega) (by decide), ?_⟩)) (fun hb => by rw [hw] at hb; cases hb)
    rw [nI_clamp (by omega), g39 w hwn, g20]
    exact sp_partM hD hD2 (by omega) (hK S10 (h1.mf f10.mF).ex)
theorem p_bill (h : IV S d m T) {a a2 a3 : Int32} (hP : ∀ r S1, (∀ {K : Int64 → St → Prop}, (∀ S2, IVx S2 → K r S2) → wp_X6_bill S1 a a2 a3 K) → PL r S1) : wp_X5_bill S a a2 a3 PL := by
  have hm := h.om.1
  refine sp_ruleX (fun hno => ⟨fun _ => hP _ S (fun hK S1 e1 => ?_), fun q => absurd rfl q⟩) (fun r hr e => ⟨fun q => absurd q (by decide), fun _ => sp_there3 h.xu (fun hno => ⟨fun _ => hP _ S (fun hK S1 e1 => ?_), fun q => absurd rfl q⟩) (fun u hum hu e2 => ⟨fun q => absurd q (by decide), fun _ => sp_partOk (fun hno => ⟨fun q => absurd rfl q, fun _ => hP _ S (fun hK S1 e1 => ?_)⟩) (fun p hp e3 => ⟨fun _ => ?_, fun q => absurd q (by decide)⟩)⟩)⟩)
  · have h1 := h.m0 e1
    exact sp_ruleM (fun _ => ⟨fun _ => hK S1 h1.ex, fun q => absurd rfl q⟩) (fun r hr e => absurd e (hno r hr))
  · have h1 := h.m0 e1
    exact sp_ruleM (fun _ => ⟨fun _ => hK S1 h1.ex, fun q => absurd rfl q⟩) (fun r hr e => ⟨fun q => absurd q (by decide), fun _ => sp_thereMu hm h1.mw.2.1 h1.mt (fun _ => ⟨fun _ => hK S1 h1.ex, fun q => absurd rfl q⟩) (fun u _ hu e2 => absurd e2 (hno u hu))⟩)
  · have h1 := h.m0 e1
    exact sp_ruleM (fun _ => ⟨fun _ => hK S1 h1.ex, fun q => absurd rfl q⟩) (fun r hr e => ⟨fun q => absurd q (by decide), fun _ => sp_thereMu hm h1.mw.2.1 h1.mt (fun _ => ⟨fun _ => hK S1 h1.ex, fun q => absurd rfl q⟩) (fun u _ hu e2 => ⟨fun q => absurd q (by decide), fun _ => sp_isInM (hi := 1) (by decide) (fun _ => ⟨fun q => absurd rfl q, fun _ => hK S1 h1.ex⟩) (fun p hp e3 => absurd e3 (hno p hp))⟩)⟩)
  · rw [e]
    have hu8 : u < 8 := by omega
    have hDR := DR_ok h.d T r
    have hmk := h.mk u hu8
    refine sp_shareOut h.xi h.lt h.xu.2.1 (by omega) (fun S7 f7 i7 g4 g19 => ?_)
    rw [e2]
    refine ⟨vp_in_nI hu8 (by decide), fun x10 e10 => ⟨vp_in_nI hu8 (by decide), ?_⟩⟩
    rw [nI_clamp (by omega), f7 14 (by decide), z32, g4, zL_mul] at e10
    rw [nI_clamp (by omega), g19 u hu8, e10, zL_add, g4]
    refine sp_partX hDR.1 hDR.2 (bill_lt h.d h.lt hu8 hmk.2.1 hmk.2.2) (hP _ S7 (fun hK S1 e1 => ?_))
    have h1 := (h.xf f7 i7).m0 e1
    refine sp_ruleM (fun hno => absurd e (hno r hr)) (fun r2 hr2 e4 => ⟨fun q => absurd q (by decide), fun _ => sp_thereMu hm h1.mw.2.1 h1.mt (fun hno => absurd e2 (hno u hu)) (fun u2 _ hu2 e5 => ⟨fun q => absurd q (by decide), fun _ => sp_isInM (hi := 1) (by decide) (fun hno => absurd e3 (hno p hp)) (fun p _ _ => ⟨fun _ => ?_, fun q => absurd q (by decide)⟩)⟩)⟩)
    rw [e]
    refine sp_bills h.d h.om h1.mw h1.mt (by omega) (fun S8 f8 g24 g22 g40 => ?_)
    rw [e2]
    refine ⟨vp_in_nI hu8 (by decide), vp_in_nI hu8 (by decide), ?_⟩
    have e30 : S8.1 30 u = S.1 14 u := by
      rw [f8.1 30 (by decide) (by decide) (by decide) (by decide), e1, uI_row (by decide), f7 30 (by decide)]
      exact hmk.1.symm
    rw [nI_clamp (by omega), g40 u hum, g22, e30, z32, zL_mul, zL_add]
    exact sp_partM hDR.1 hDR.2 (bill_lt h.d h.lt hu8 hmk.2.1 hmk.2.2) (hK S8 (h1.mf f8).ex)
theorem p_coins (h : IV S d m T) {a a2 : Int32} (hP : ∀ r S1, (∀ {K : Int32 → St → Prop}, (∀ S2, IVx S2 → K r S2) → wp_X6_coins S1 a a2 K) → P r S1) : wp_X5_coins S a a2 P := by
  have hm := h.om.1
  refine sp_ruleX (fun hno => ⟨fun _ => hP _ S (fun hK S1 e1 => ?_), fun q => absurd rfl q⟩) (fun r hr e => ⟨fun q => absurd q (by decide), fun _ => sp_there3 h.xu (fun hno => ⟨fun q => absurd rfl q, fun _ => hP _ S (fun hK S1 e1 => ?_)⟩) (fun u hum hu e2 => ⟨fun _ => ?_, fun q => absurd q (by decide)⟩)⟩)
  · have h1 := h.m0 e1
    exact sp_ruleM (fun _ => ⟨fun _ => hK S1 h1.ex, fun q => absurd rfl q⟩) (fun r hr e => absurd e (hno r hr))
  · have h1 := h.m0 e1
    exact sp_ruleM (fun _ => ⟨fun _ => hK S1 h1.ex, fun q => absurd rfl q⟩) (fun r hr e => ⟨fun q => absurd q (by decide), fun _ => sp_thereMu hm h1.mw.2.1 h1.mt (fun _ => ⟨fun q => absurd rfl q, fun _ => hK S1 h1.ex⟩) (fun u _ hu e2 => absurd e2 (hno u hu))⟩)
  · rw [e]
    have hu8 : u < 8 := by omega
    refine sp_fillCoins h.xi h.xu (by omega) (Or.inl rfl) (fun S5 f5 i5 g6 => ?_)
    rw [e2]
    refine ⟨vp_in_nI hu8 (by decide), ?_⟩
    rw [nI_clamp (by omega), g6 u hu8]
    have h5 := h.x (fun k q1 _ q3 => f5 k q1 q3) i5
    refine hP _ S5 (fun hK S1 e1 => ?_)
    have h1 := h5.m0 e1
    refine sp_ruleM (fun hno => absurd e (hno r hr)) (fun r2 hr2 e4 => ⟨fun q => absurd q (by decide), fun _ => sp_thereMu hm h1.mw.2.1 h1.mt (fun hno => absurd e2 (hno u hu)) (fun u2 _ hu2 e5 => ⟨fun _ => ?_, fun q => absurd q (by decide)⟩)⟩)
    rw [e]
    refine sp_coinsBy (by decide) h.d h.om h1.mw h1.mt (by omega) (fun S6 f6 g42 => ?_)
    rw [e2]
    refine ⟨vp_in_nI hu8 (by decide), ?_⟩
    rw [nI_clamp (by omega), g42 u hum, cnv_eq (g := S.1 14)]
    · exact hK S6 (h1.m f6).ex
    · rw [e1, uI_row (by decide), f5 30 (by decide) (by decide)]
      exact (h.mk u hu8).1.symm
theorem p_saved (h : IV S d m T) {a : Int32} (hP : ∀ r S1, (∀ {K : Int32 → St → Prop}, (∀ S2, IVx S2 → K r S2) → wp_X6_saved S1 a K) → P r S1) : wp_X5_saved S a P := by
  have hm := h.om.1
  refine sp_there3 h.xu (fun hno => ⟨fun q => absurd rfl q, fun _ => hP _ S (fun hK S1 e1 => ?_)⟩) (fun u hum hu e2 => ⟨fun _ => ?_, fun q => absurd q (by decide)⟩)
  · have h1 := h.m0 e1
    exact sp_thereMu hm h1.mw.2.1 h1.mt (fun _ => ⟨fun _ => hK S1 h1.ex, fun q => absurd rfl q⟩) (fun u _ hu e2 => absurd e2 (hno u hu))
  · subst e2
    rw [h.xu.2.1]
    have hl : ldf T (2 ^ u) < 256 := Nat.lt_of_le_of_lt (ldf_le _ _) h.lt
    refine sp_costOf h.xi h.lt (fun S3 f3 i3 => ?_)
    rw [show S3.1 2 1 = nI T by rw [f3.2 2 (by decide)]; exact h.xu.2.1, nI_pow (by omega), nI_ldf]
    refine sp_costOf i3 hl (fun S5 f5 i5 => hP _ S5 (fun hK S1 e1 => ?_))
    have h1 := (h.xf (f3.trans f5).xf i5).m0 e1
    refine sp_thereMu hm h1.mw.2.1 h1.mt (fun hno => absurd rfl (hno u hu)) (fun u2 _ hu2 e5 => ⟨fun q => absurd q (by decide), fun _ => ?_⟩)
    refine sp_thereM hm h1.mw.2.1 h1.mt (sp_costM h.d h.om h1.mw h.lt (sp_thereM hm h1.mw.2.1 h1.mt ?_))
    rw [nI_pow (by omega), nI_ldf]
    exact sp_costM h.d h.om h1.mw hl (hK S1 h1.ex)
theorem p_booked (h : IV S d m T) {a : Int32} (hP : ∀ r S1, (∀ {K : Int32 → St → Prop}, (∀ S2, IVx S2 → K r S2) → wp_X6_booked S1 a K) → P r S1) : wp_X5_booked S a P := by
  have hm := h.om.1
  refine sp_has3 h.xu.1 (by omega) (fun hno => ⟨fun _ => hP _ S (fun hK S1 e1 => ?_), fun q => absurd rfl q⟩) (fun u hu e => ⟨fun q => absurd q (by decide), fun _ => ?_⟩)
  · have h1 := h.m0 e1
    exact sp_isUser h1.mw.2.1 (by omega) (fun _ => ⟨fun _ => hK S1 h1.ex, fun q => absurd rfl q⟩) (fun u hu e => absurd e (hno u hu))
  · subst e
    refine ⟨vp_in_nI (by omega) (by decide), ?_⟩
    rw [nI_clamp (by omega)]
    refine hP _ S (fun hK S1 e1 => ?_)
    have h1 := h.m0 e1
    refine sp_isUser h1.mw.2.1 (by omega) (fun hno => absurd rfl (hno u hu)) (fun u2 hu2 e5 => ⟨fun q => absurd q (by decide), fun _ => ⟨vp_in_nI (by omega) (by decide), ?_⟩⟩)
    rw [nI_clamp (by omega), e1, uI_row (by decide), ← (h.bk u (by omega)).1, ← e1]
    exact hK S1 h1.ex
theorem p_line (h : IV S d m T) {a a2 : Int32} (hP : ∀ r S1, (∀ {K : Int32 → St → Prop}, (∀ S2, IVx S2 → K r S2) → wp_X6_line S1 a a2 K) → P r S1) : wp_X5_line S a a2 P := by
  obtain ⟨n, hn, hn1, hn2⟩ := h.ln
  have e25 : ∀ S1 : St, S1 = uI S 25 0 0 → S1.1 25 10 = nI n := fun S1 e1 => by rw [e1, uI_ne (by decide)]; exact hn2
  have i0 : ∀ x : Int32, x = 0 ↔ x.toInt = 0 := fun x => by rw [← Int32.toInt_inj]; rfl
  have i1 : ∀ x : Int32, x = 1 ↔ x.toInt = 1 := fun x => by rw [← Int32.toInt_inj]; rfl
  have i2 : ∀ x : Int32, x = 2 ↔ x.toInt = 2 := fun x => by rw [← Int32.toInt_inj]; rfl
  unfold wp_X5_line
  rw [hn1]
  refine ⟨fun q => hP _ S (fun hK S1 e1 => ⟨fun _ => hK S1 (h.m0 e1).ex, fun q2 => absurd q q2⟩), fun q => ⟨fun q2 => ?_, fun q2 => hP _ S (fun hK S1 e1 => ?_)⟩⟩
  · obtain ⟨j, hj, e⟩ : ∃ j, j < n ∧ a = nI j := by
      rcases pk_ix a (show n < 2 ^ 31 by omega) with z | z | z
      · exact absurd z q
      · exact absurd q2 (Int32.not_lt.mpr z)
      · exact z
    subst e
    have hin : vp_in (nI j) 400 := vp_in_nI (by omega) (by decide)
    have fin : ∀ (x : Int32) (hx : ∀ {K : Int32 → St → Prop} (S1 : St), S1 = uI S 25 0 0 → (K x S1) → ((¬ a2 = 0 → (¬ a2 = (1 : Int32) → (¬ a2 = (2 : Int32) → K (-1000000 : Int32) S1) ∧ (a2 = (2 : Int32) → (vp_in (nI j) 400) ∧ (K (S1.1 35 (nI j).toNatClampNeg) S1))) ∧ (a2 = (1 : Int32) → (vp_in (nI j) 400) ∧ (K (S1.1 34 (nI j).toNatClampNeg) S1))) ∧ (a2 = 0 → (vp_in (nI j) 400) ∧ (K (S1.1 33 (nI j).toNatClampNeg) S1)))), P x S := fun x hx => by
      refine hP _ S (fun hK S1 e1 => ⟨fun z => absurd z q, fun _ => ⟨fun _ => hx S1 e1 (hK S1 (h.m0 e1).ex), fun z => ?_⟩⟩)
      rw [e25 S1 e1] at z
      exact absurd q2 z
    have hli := h.li j
    refine ⟨fun z => fin _ (fun S1 e1 k => ⟨fun n0 => ⟨fun n1 => ⟨fun _ => k, fun n2 => ?_⟩, fun n1 => ?_⟩, fun n0 => ?_⟩), fun z => ⟨hin, fin _ (fun S1 e1 k => ⟨fun n0 => absurd ((i0 a2).mpr z) n0, fun _ => ⟨hin, ?_⟩⟩)⟩, fun z => ⟨hin, fin _ (fun S1 e1 k => ⟨fun n0 => ⟨fun n1 => absurd ((i1 a2).mpr z) n1, fun _ => ⟨hin, ?_⟩⟩, fun n0 => ?_⟩)⟩, fun z => ⟨hin, fin _ (fun S1 e1 k => ⟨fun n0 => ⟨fun n1 => ⟨fun n2 => absurd ((i2 a2).mpr z) n2, fun _ => ⟨hin, ?_⟩⟩, fun n1 => ?_⟩, fun n0 => ?_⟩)⟩⟩
    · have := (i2 a2).mp n2; omega
    · have := (i1 a2).mp n1; omega
    · have := (i0 a2).mp n0; omega
    · rw [nI_clamp (by omega)] at k ⊢
      rw [show S1.1 33 j = S.1 22 j by rw [e1, uI_row (by decide)]; exact hli.1.symm]
      exact k
    · rw [nI_clamp (by omega)] at k ⊢
      rw [show S1.1 34 j = S.1 23 j by rw [e1, uI_row (by decide)]; exact hli.2.1.symm]
      exact k
    · have := (i0 a2).mp n0; omega
    · rw [nI_clamp (by omega)] at k ⊢
      rw [show S1.1 35 j = S.1 24 j by rw [e1, uI_row (by decide)]; exact hli.2.2.symm]
      exact k
    · have := (i1 a2).mp n1; omega
    · have := (i0 a2).mp n0; omega
  · refine ⟨fun z => absurd z q, fun _ => ⟨fun z => ?_, fun _ => hK S1 (h.m0 e1).ex⟩⟩
    rw [e25 S1 e1] at z
    exact absurd z q2
end Q2
