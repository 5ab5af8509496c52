/-! ===== pure: idle, differ, count ===== -/
theorem irw_loop {S : St} {d : Dw} {m : Nat} (hd : Okd d) (hW : MW S d m) {w x : Nat} (hw : w < 6) (hx : x < 64) {p1 p2 p3 p5 : Int32} {k : Int32 → Int32 → St → Prop} (h : k (nI (rwM d w (dn d) x)) (nI (dn d)) S) : ∃ f, wL_X6_idle_98 p1 p2 p3 p5 (nI w) k f (nI x) 0 S := by
  have hn := hd.1
  refine lp_up (X := fun f i => wL_X6_idle_98 p1 p2 p3 p5 (nI w) k f (nI (rwM d w i x)) (nI i) S) (Nat.zero_le (dn d)) (fun f => ?_) (fun f i _ hi hrec => ?_)
  · refine ⟨fun _ => h, fun q => ?_⟩
    rw [hW.1] at q
    exact absurd (nI_le (Nat.le_refl _) (by omega)) q
  · have hlt := rwM_lt (d := d) hw hx i
    have e0 : rwM d w (i + 1) x = if (rwM d w i x).testBit i && decide (0 < dfd d w i) then rwM d w i x ||| 2 ^ w else rwM d w i x := rfl
    refine ⟨fun q => ?_, fun _ => br_bit (by omega) (by omega) (fun hb => ?_) (fun hb => ⟨?_, ?_⟩)⟩
    · rw [hW.1] at q
      exact absurd q (nI_ge hi (by omega))
    · rw [hb] at e0
      rw [nI_1]
      rw [e0] at hrec
      exact hrec
    · rw [ix6]; exact vp_in_nI (by omega) (by decide)
    · rw [ix6, nI_clamp (by omega), hW.2.2.2.2.2 w i hw (by omega), nI_1]
      have h9 := hd.2.2.2.2.1 w i
      refine br_pos (by omega) (fun h0 => ?_) (fun h0 x2 e => ?_)
      · rw [h0, hb] at e0
        rw [e0] at hrec
        exact hrec
      · rw [nI_or_pow (by omega)] at e
        rw [hb] at e0
        simp only [h0, decide_true, Bool.and_self, if_true] at e0
        rw [e0] at hrec
        rw [e]
        exact hrec
theorem isw_loop {S : St} {d : Dw} {m : Nat} (hd : Okd d) (hW : MW S d m) {x : Nat} (hx : x < 64) {p1 p2 p3 p5 : Int32} {k : Int32 → Int32 → St → Prop} (h : k (nI (swM d (dn d) x)) (nI (dn d)) S) : ∃ f, wL_X6_idle_86 p1 p2 p3 p5 k f (nI x) 0 S := by
  have hn := hd.1
  refine lp_up (X := fun f i => wL_X6_idle_86 p1 p2 p3 p5 k f (nI (swM d i x)) (nI i) S) (Nat.zero_le (dn d)) (fun f => ?_) (fun f i _ hi hrec => ?_)
  · refine ⟨fun _ => h, fun q => ?_⟩
    rw [hW.1] at q
    exact absurd (nI_le (Nat.le_refl _) (by omega)) q
  · refine ⟨fun q => ?_, fun _ => irw_loop hd hW (by omega) (swM_lt hx i (by omega)) ?_⟩
    · rw [hW.1] at q
      exact absurd q (nI_ge hi (by omega))
    · rw [nI_1]
      exact hrec
theorem itr_loop {S : St} {d : Dw} {m : Nat} (hd : Okd d) (hW : MW S d m) {x : Nat} (hx : x < 64) {p1 p2 p3 : Int32} {k : Int32 → Int32 → St → Prop} (h : k (nI (itr (swM d (dn d)) (dn d) x)) (nI (dn d)) S) : ∃ f, wL_X6_idle_74 p1 p2 p3 k f (nI x) 0 S := by
  have hn := hd.1
  refine lp_up (X := fun f i => wL_X6_idle_74 p1 p2 p3 k f (nI (itr (swM d (dn d)) i x)) (nI i) S) (Nat.zero_le (dn d)) (fun f => ?_) (fun f i _ hi hrec => ?_)
  · refine ⟨fun _ => h, fun q => ?_⟩
    rw [hW.1] at q
    exact absurd (nI_le (Nat.le_refl _) (by omega)) q
  · refine ⟨fun q => ?_, fun _ => isw_loop hd hW (itr_lt (fun y hy => swM_lt hy _ hn) hx i) ?_⟩
    · rw [hW.1] at q
      exact absurd q (nI_ge hi (by omega))
    · rw [nI_1]
      exact hrec
theorem iub_loop {S : St} {d : Dw} {m : Nat} (hd : Okd d) (hW : MW S d m) {v : Nat} (hv : v < 6) {p1 p2 : Int32} {k : Int32 → Int32 → St → Prop} (h : k (nI (ub d v)) (nI (dn d)) S) : ∃ f, wL_X6_idle_32 p1 p2 (nI v) k f 0 0 S := by
  have hn := hd.1
  refine lp_up (X := fun f i => wL_X6_idle_32 p1 p2 (nI v) k f (nI (msk (fun w => decide (0 < dfd d w v)) i)) (nI i) S) (Nat.zero_le (dn d)) (fun f => ?_) (fun f i _ hi hrec => ?_)
  · refine ⟨fun _ => h, fun q => ?_⟩
    rw [hW.1] at q
    exact absurd (nI_le (Nat.le_refl _) (by omega)) q
  · have e0 : msk (fun w => decide (0 < dfd d w v)) (i + 1) = if decide (0 < dfd d i v) then msk (fun w => decide (0 < dfd d w v)) i ||| 2 ^ i else msk (fun w => decide (0 < dfd d w v)) i := by
      refine eq_bits fun j => ?_
      have hj : ∀ n, (msk (fun w => decide (0 < dfd d w v)) n).testBit j = (decide (j < n) && decide (0 < dfd d j v)) := fun n => msk_bit _ _ _
      by_cases hp : 0 < dfd d i v
      · rw [decide_eq_true hp, if_pos rfl, Nat.testBit_or, hj, hj, pow_bit]
        by_cases e : i = j
        · subst e; simp [hp]
        · by_cases e2 : j < i
          · simp [e, e2, show j < i + 1 by omega]
          · simp [e, e2, show ¬ j < i + 1 by omega]
      · rw [decide_eq_false hp, if_neg (by simp), hj, hj]
        by_cases e : i = j
        · subst e; simp [hp]
        · by_cases e2 : j < i
          · simp [e2, show j < i + 1 by omega]
          · simp [e2, show ¬ j < i + 1 by omega]
    refine ⟨fun q => ?_, fun _ => ⟨?_, ?_⟩⟩
    · rw [hW.1] at q
      exact absurd q (nI_ge hi (by omega))
    · rw [ix6]; exact vp_in_nI (by omega) (by decide)
    · rw [ix6, nI_clamp (by omega), hW.2.2.2.2.2 i v (by omega) hv, nI_1]
      have h9 := hd.2.2.2.2.1 i v
      refine br_pos (by omega) (fun h0 => ?_) (fun h0 x2 e => ?_)
      · rw [h0] at e0
        simp only [Nat.lt_irrefl, decide_false, Bool.false_eq_true, if_false] at e0
        rw [e0] at hrec
        exact hrec
      · rw [nI_or_pow (by omega)] at e
        simp only [h0, decide_true, if_true] at e0
        rw [e0] at hrec
        rw [e]
        exact hrec
theorem ring_M {d : Dw} (hd : Okd d) (w : Nat) : (itr (swM d (dn d)) (dn d) (ub d w)).testBit w = ring d w := by
  have h1 : (itr (swM d (dn d)) (dn d) (ub d w)).testBit w = true ↔ Clo (dfd d) (fun i => 0 < dfd d i w) w := roundsM hd (fun i => by
    rw [msk_bit]
    simp only [Bool.and_eq_true, decide_eq_true_eq]
    exact ⟨fun h => h.2, fun h => ⟨fd_lt hd i w h, h⟩⟩) (fun i hi => bit_lt (msk_lt _ _) hi) (k := dn d) (by omega) w
  have h2 : ring d w = true ↔ Clo (dfd d) (fun i => 0 < dfd d i w) w := onRings_bit hd w
  exact Bool.eq_iff_iff.mpr (h1.trans h2.symm)
section Q3
variable {S : St} {d : Dw} {m T : Nat} {P : Int32 → St → Prop} {PL : Int64 → St → Prop}
theorem p_idle (h : IV S d m T) (hP : ∀ r S1, (∀ {K : Int32 → St → Prop}, (∀ S2, IVx S2 → K r S2) → wp_X6_idle S1 K) → P r S1) : wp_X5_idle S P := by
  have hn := h.d.1
  have hN := need_lt h.d T
  refine sp_onRings h.xi.2.1 h.d ?_
  rw [h.xu.2.1]
  refine sp_neededX h.xi.2.2.1 h.d h.lt ?_
  rw [nI_ldf]
  have hml : msk (ring d) (dn d) < 2 ^ 32 := Nat.lt_of_lt_of_le (msk_lt _ _) (Nat.pow_le_pow_right (by decide) (by omega))
  have em : ldf (msk (ring d) (dn d)) (need d T) = msk (fun w => ring d w && !(need d T).testBit w) (dn d) := eq_bits fun i => by
    rw [ldf_bit hml, msk_bit, msk_bit, Bool.and_assoc]
  rw [em]
  refine hP _ S (fun {K} hK S1 e1 => ?_)
  have h1 := h.m0 e1
  refine sp_thereM h.om.1 h1.mw.2.1 h1.mt (sp_neededM h.d h.om h1.mw h.lt ?_)
  refine lp_up (X := fun f i => wL_X6_idle_18 (nI (need d T)) (fun (z7 : Int32) (_ : Int32) (S6 : St) => K z7 S6) f (nI (msk (fun w => ring d w && !(need d T).testBit w) i)) (nI i) S1) (Nat.zero_le (dn d)) (fun f => ?_) (fun f i _ hi hrec => ?_)
  · refine ⟨fun _ => hK S1 h1.ex, fun q => ?_⟩
    rw [h1.mw.1] at q
    exact absurd (nI_le (Nat.le_refl _) (by omega)) q
  · have e0 : msk (fun w => ring d w && !(need d T).testBit w) (i + 1) = if (ring d i && !(need d T).testBit i) then msk (fun w => ring d w && !(need d T).testBit w) i ||| 2 ^ i else msk (fun w => ring d w && !(need d T).testBit w) i := by
      refine eq_bits fun j => ?_
      have hj : ∀ n, (msk (fun w => ring d w && !(need d T).testBit w) n).testBit j = (decide (j < n) && (ring d j && !(need d T).testBit j)) := fun n => msk_bit _ _ _
      cases hp : (ring d i && !(need d T).testBit i) with
      | true =>
        rw [if_pos rfl, Nat.testBit_or, hj, hj, pow_bit]
        by_cases e : i = j
        · subst e; rw [hp]; simp
        · by_cases e2 : j < i
          · simp [e, e2, show j < i + 1 by omega]
          · simp [e, e2, show ¬ j < i + 1 by omega]
      | false =>
        rw [if_neg (by simp), hj, hj]
        by_cases e : i = j
        · subst e; rw [hp]; simp
        · by_cases e2 : j < i
          · simp [e2, show j < i + 1 by omega]
          · simp [e2, show ¬ j < i + 1 by omega]
    refine ⟨fun q => ?_, fun _ => iub_loop h.d h1.mw (by omega) (itr_loop h.d h1.mw (ub_lt h.d i) ?_)⟩
    · rw [h1.mw.1] at q
      exact absurd q (nI_ge hi (by omega))
    · rw [nI_1]
      refine br_bit0 (by omega) (by omega) (fun hb => ?_) (fun hb => br_bit (Nat.lt_of_lt_of_le (itr_lt (fun y hy => swM_lt hy _ hn) (ub_lt h.d i) _) (by decide)) (by omega) (fun hr => ?_) (fun hr => fun x7 e7 => ?_))
      · rw [hb] at e0
        rw [Bool.not_true, Bool.and_false, if_neg (by simp)] at e0
        rw [e0] at hrec
        exact hrec
      · rw [ring_M h.d] at hr
        rw [hr, Bool.false_and, if_neg (by simp)] at e0
        rw [e0] at hrec
        exact hrec
      · rw [ring_M h.d] at hr
        rw [hr, hb, Bool.not_false, Bool.and_self, if_pos rfl] at e0
        rw [nI_or_pow (by omega), ← e0] at e7
        rw [e7]
        exact hrec
def sumI (f : Nat → Int32) : Nat → Int32
  | 0 => 0
  | n + 1 => sumI f n + f n
theorem sumI_ext {f : Nat → Int32} {a : Nat} : ∀ b, a ≤ b → (∀ k, a ≤ k → k < b → f k = 0) → sumI f b = sumI f a
  | 0, hb, _ => by rw [show a = 0 by omega]
  | b + 1, hb, h => by
    by_cases e : a = b + 1
    · rw [e]
    · show sumI f b + f b = _
      rw [sumI_ext b (by omega) (fun k h1 h2 => h k h1 (by omega)), h b (by omega) (by omega), Int32.add_zero]
theorem sumI_cong {f g : Nat → Int32} : ∀ {n : Nat}, (∀ k, k < n → f k = g k) → sumI f n = sumI g n
  | 0, _ => rfl
  | n + 1, h => by
    show sumI f n + f n = sumI g n + g n
    rw [sumI_cong (fun k hk => h k (by omega)), h n (by omega)]
def adf (x : Int32) : Int32 := if 0 ≤ x then x else 0 - x
theorem MG.le {ka kb : Nat} {S S' : St} (hle : ka ≤ kb) (h : MG kb S S') : MG ka S S' := ⟨fun k a b c e f => h.1 k a b c e (by omega), h.2⟩
theorem p_differ (h : IV S d m T) {a a2 : Int32} (hP : ∀ r S1, (∀ {K : Int32 → St → Prop}, (∀ S2, IVx S2 → K r S2) → wp_X6_differ S1 a a2 K) → P r S1) : wp_X5_differ S a a2 P := by
  have hm := h.om.1
  refine sp_ruleX (fun hno => ⟨fun _ => hP _ S (fun hK S1 e1 => ?_), fun q => absurd rfl q⟩) (fun r hr e => ⟨fun q => absurd q (by decide), fun _ => sp_ruleX (fun hno => ⟨fun q => absurd rfl q, fun _ => hP _ S (fun hK S1 e1 => ?_)⟩) (fun r2 hr2 e2 => ⟨fun _ => ?_, fun q => absurd q (by decide)⟩)⟩)
  · have h1 := h.m0 e1
    exact sp_ruleM (fun _ => ⟨fun _ => hK S1 h1.ex, fun q => absurd rfl q⟩) (fun r hr e => absurd e (hno r hr))
  · have h1 := h.m0 e1
    exact sp_ruleM (fun _ => ⟨fun _ => hK S1 h1.ex, fun q => absurd rfl q⟩) (fun r hr e => ⟨fun q => absurd q (by decide), fun _ => sp_ruleM (fun _ => ⟨fun q => absurd rfl q, fun _ => hK S1 h1.ex⟩) (fun r hr e => absurd e (hno r hr))⟩)
  · subst e
    subst e2
    refine sp_fillCoins h.xi h.xu (by omega) (Or.inl rfl) (fun S5 f5 i5 g6 => ?_)
    have h5 := h.x (fun k q1 _ q3 => f5 k q1 q3) i5
    refine sp_fillCoins i5 h5.xu (by omega) (Or.inr rfl) (fun S7 f7 i7 g7 => ?_)
    have h7 := h5.x (fun k _ q2 q3 => f7 k q2 q3) i7
    have e6 : ∀ u, u < 8 → S7.1 6 u = cnv d T r (S.1 14) u := fun u hu => by rw [f7 6 (by decide) (by decide)]; exact g6 u hu
    have e7 : ∀ u, u < 8 → S7.1 7 u = cnv d T r2 (S.1 14) u := fun u hu => by rw [g7 u hu, f5 14 (by decide) (by decide)]
    let g : Nat → Int32 := fun u => adf (cnv d T r (S.1 14) u - cnv d T r2 (S.1 14) u)
    have g8 : sumI g 8 = sumI g m := sumI_ext 8 hm (fun k h1 h2 => by
      have hb : T.testBit k = false := by
        cases hb : T.testBit k with
        | false => rfl
        | true => have := bit_lt h.mt.1 hb; omega
      show adf (cnv d T r (S.1 14) k - cnv d T r2 (S.1 14) k) = 0
      rw [cnv_out h.d h.lt hb, cnv_out h.d h.lt hb]
      rfl)
    have hX : ∀ {K : Int32 → Int32 → St → Prop}, K (sumI g 8) 8 S7 → ∃ f, wL_X5_differ_39 K f 0 0 S7 := fun {K} hk => by
      refine lp_up (X := fun f i => wL_X5_differ_39 K f (sumI g i) (nI i) S7) (Nat.zero_le 8) (fun f => ⟨fun _ => hk, fun q => absurd (by decide) q⟩) (fun f i _ hi hrec => ?_)
      refine ⟨fun q => absurd q (nI_ge (a := i) (b := 8) hi (by decide)), fun _ => ⟨vp_in_nI hi (by decide), vp_in_nI hi (by decide), fun x3 e3 => ?_⟩⟩
      rw [nI_clamp (by omega), e6 i hi, e7 i hi] at e3
      rw [e3, nI_1]
      exact hrec
    refine hX (hP _ S7 (fun {K} hK S1 e1 => ?_))
    have h1 := h7.m0 e1
    refine sp_ruleM (fun hno => absurd rfl (hno r hr)) (fun _ _ _ => ⟨fun q => absurd q (by decide), fun _ => sp_ruleM (fun hno => absurd rfl (hno r2 hr2)) (fun _ _ _ => ⟨fun _ => ?_, fun q => absurd q (by decide)⟩)⟩)
    refine sp_coinsBy (by decide) h.d h.om h1.mw h1.mt (by omega) (fun S6 f6 g42 => fun kh8 hk8 S9 e9 => ?_)
    have h6 := h1.m f6
    have r9 : ∀ k, k ≠ kh8 → S9.1 k = S6.1 k := fun k hk => by rw [e9]; exact funext fun j => if_neg hk
    have h9 := h6.m (MG.rows (kb := 61) (by decide) (fun k _ q => r9 k (by omega)) : MG 61 S6 S9)
    refine sp_coinsBy (by omega) h.d h.om h9.mw h9.mt (by omega) (fun S10 f10 g42b => ?_)
    have h10 := h9.m (f10.le (by omega))
    have m30 : ∀ u, u < 8 → S1.1 30 u = S.1 14 u := fun u hu => by
      rw [e1, uI_row (by decide), f7 30 (by decide) (by decide), f5 30 (by decide) (by decide)]
      exact (h.mk u hu).1.symm
    have k8 : ∀ u, u < m → S10.1 kh8 u = cnv d T r (S.1 14) u := fun u hu => by
      rw [f10.1 kh8 (by omega) (by omega) (by omega) (by omega) (by omega), e9]
      show (if kh8 = kh8 then S6.1 42 u else _) = _
      rw [if_pos rfl, g42 u hu]
      exact cnv_eq (m30 u (by omega))
    have k42 : ∀ u, u < m → S10.1 42 u = cnv d T r2 (S.1 14) u := fun u hu => by
      rw [g42b u hu]
      refine cnv_eq ?_
      rw [r9 30 (by omega), f6.1 30 (by decide) (by decide) (by decide) (by decide) (by decide)]
      exact m30 u (by omega)
    rw [g8] at hK
    refine lp_up (X := fun f i => wL_X6_differ_48 kh8 (fun (z13 : Int32) (_ : Int32) (S12 : St) => K z13 S12) f (sumI g i) (nI i) S10) (Nat.zero_le m) (fun f => ⟨fun _ => hK S10 h10.ex, fun q => ?_⟩) (fun f i _ hi hrec => ⟨fun q => ?_, fun _ => ⟨vp_in_nI (by omega) (by decide), vp_in_nI (by omega) (by decide), fun x3 e3 => ?_⟩⟩)
    · rw [h10.mw.2.1] at q
      exact absurd (nI_le (Nat.le_refl _) (by omega)) q
    · rw [h10.mw.2.1] at q
      exact absurd q (nI_ge hi (by omega))
    · rw [nI_clamp (by omega), k8 i hi, k42 i hi] at e3
      rw [e3, nI_1]
      exact hrec
theorem p_count (h : IV S d m T) {a : Int32} (hP : ∀ r S1, (∀ {K : Int32 → St → Prop}, (∀ S2, IVx S2 → K r S2) → wp_X6_count S1 a K) → P r S1) : wp_X5_count S a P := by
  have hm := h.om.1
  obtain ⟨n, hn, hn1, hn2⟩ := h.ln
  refine ⟨fun q => hP _ S (fun hK S1 e1 => ⟨fun _ => hK S1 (h.m0 e1).ex, fun z => absurd z (by omega), fun z => absurd z (by omega), fun z => absurd z (by omega), fun z => absurd z (by omega), fun z => absurd z (by omega), fun z => absurd z (by omega), fun z => absurd z (by omega)⟩), fun q => hP _ S (fun hK S1 e1 => ⟨fun z => absurd z (by omega), fun _ => ?_, fun z => absurd z (by omega), fun z => absurd z (by omega), fun z => absurd z (by omega), fun z => absurd z (by omega), fun z => absurd z (by omega), fun z => absurd z (by omega)⟩), fun q => hP _ S (fun hK S1 e1 => ⟨fun z => absurd z (by omega), fun z => absurd z (by omega), fun _ => ?_, fun z => absurd z (by omega), fun z => absurd z (by omega), fun z => absurd z (by omega), fun z => absurd z (by omega), fun z => absurd z (by omega)⟩), fun q => ?_, fun q => hP _ S (fun hK S1 e1 => ⟨fun z => absurd z (by omega), fun z => absurd z (by omega), fun z => absurd z (by omega), fun z => absurd z (by omega), fun _ => ?_, fun z => absurd z (by omega), fun z => absurd z (by omega), fun z => absurd z (by omega)⟩), fun q => hP _ S (fun hK S1 e1 => ⟨fun z => absurd z (by omega), fun z => absurd z (by omega), fun z => absurd z (by omega), fun z => absurd z (by omega), fun z => absurd z (by omega), fun _ => ?_, fun z => absurd z (by omega), fun z => absurd z (by omega)⟩), fun q => ?_, fun q => ?_⟩
  · have h1 := h.m0 e1
    rw [h1.mw.1, ← h.xi.2.1.1]
    exact hK S1 h1.ex
  · have h1 := h.m0 e1
    rw [h1.mw.2.1, ← h.xu.1]
    exact hK S1 h1.ex
  · rw [h.xu.2.1]
    refine sp_bitCount h.lt (hP _ S (fun hK S1 e1 => ⟨fun z => absurd z (by omega), fun z => absurd z (by omega), fun z => absurd z (by omega), fun _ => ?_, fun z => absurd z (by omega), fun z => absurd z (by omega), fun z => absurd z (by omega), fun z => absurd z (by omega)⟩))
    have h1 := h.m0 e1
    exact sp_thereM hm h1.mw.2.1 h1.mt (sp_bitCount h.lt (hK S1 h1.ex))
  · have h1 := h.m0 e1
    rw [hn1] at hK
    rw [show S1.1 25 10 = nI n by rw [e1, uI_ne (by decide)]; exact hn2]
    exact hK S1 h1.ex
  · have h1 := h.m0 e1
    rw [h.bs] at hK
    rw [show S1.1 25 11 = S.1 25 11 by rw [e1, uI_ne (by decide)]]
    exact hK S1 h1.ex
  · let g : Nat → Int32 := fun u => if T.testBit u then S.1 14 u else 0
    have hX : ∀ {K : Int32 → Int32 → St → Prop}, K (sumI g m) (nI m) S → ∃ f, wL_X3_markedOfThoseThere_4 K f 0 0 S := fun {K} hk => by
      refine lp_up (X := fun f i => wL_X3_markedOfThoseThere_4 K f (sumI g i) (nI i) S) (Nat.zero_le m) (fun f => ⟨fun _ => hk, fun q => ?_⟩) (fun f i _ hi hrec => ⟨fun q => ?_, fun _ => sp_thereI h.xu (by omega) (br_b (fun hb => ?_) (fun hb => ⟨vp_in_nI (by omega) (by decide), fun x4 e4 => ?_⟩))⟩)
      · rw [h.xu.1] at q
        exact absurd (nI_le (Nat.le_refl _) (by omega)) q
      · rw [h.xu.1] at q
        exact absurd q (nI_ge hi (by omega))
      · have e : sumI g (i + 1) = sumI g i := by
          show sumI g i + (if T.testBit i then S.1 14 i else 0) = _
          rw [hb]
          simp
        rw [e] at hrec
        rw [nI_1]
        exact hrec
      · have e : sumI g (i + 1) = sumI g i + S.1 14 i := by
          show sumI g i + (if T.testBit i then S.1 14 i else 0) = _
          rw [hb]
          rfl
        rw [nI_clamp (by omega), ← e] at e4
        rw [e4, nI_1]
        exact hrec
    refine hX (hP _ S (fun {K} hK S1 e1 => ⟨fun z => absurd z (by omega), fun z => absurd z (by omega), fun z => absurd z (by omega), fun z => absurd z (by omega), fun z => absurd z (by omega), fun z => absurd z (by omega), fun _ => ?_, fun z => absurd z (by omega)⟩))
    have h1 := h.m0 e1
    refine lp_up (X := fun f i => wL_X6_count_82 (fun (z7 : Int32) (_ : Int32) (S6 : St) => K z7 S6) f (sumI g i) (nI i) S1) (Nat.zero_le m) (fun f => ⟨fun _ => hK S1 h1.ex, fun q => ?_⟩) (fun f i _ hi hrec => ⟨fun q => ?_, fun _ => ⟨vp_in_nI (by omega) (by decide), br_there h1.mt (by omega) (fun hb => fun x2 e2 => ?_) (fun hb => ⟨vp_in_nI (by omega) (by decide), fun x4 e4 => ?_⟩)⟩⟩)
    · rw [h1.mw.2.1] at q
      exact absurd (nI_le (Nat.le_refl _) (by omega)) q
    · rw [h1.mw.2.1] at q
      exact absurd q (nI_ge hi (by omega))
    · have e : sumI g (i + 1) = sumI g i := by
        show sumI g i + (if T.testBit i then S.1 14 i else 0) = _
        rw [hb]
        simp
      rw [Int32.add_zero] at e2
      rw [e] at hrec
      rw [e2, nI_1]
      exact hrec
    · have e : sumI g (i + 1) = sumI g i + S.1 14 i := by
        show sumI g i + (if T.testBit i then S.1 14 i else 0) = _
        rw [hb]
        rfl
      rw [nI_clamp (by omega), show S1.1 30 i = S.1 14 i by rw [e1, uI_row (by decide)]; exact (h.mk i (by omega)).1.symm, ← e] at e4
      rw [e4, nI_1]
      exact hrec
  · let g : Nat → Int32 := fun u => S.1 21 u
    have g8 : sumI g 8 = sumI g m := sumI_ext 8 hm (fun k h1 h2 => (h.bk k h2).2 h1)
    have hX : ∀ {K : Int32 → Int32 → St → Prop}, K (sumI g 8) 8 S → ∃ f, wL_X0_coinsInAll_4 K f 0 0 S := fun {K} hk => by
      refine lp_up (X := fun f i => wL_X0_coinsInAll_4 K f (sumI g i) (nI i) S) (Nat.zero_le 8) (fun f => ⟨fun _ => hk, fun q => absurd (by decide) q⟩) (fun f i _ hi hrec => ⟨fun q => absurd q (nI_ge (a := i) (b := 8) hi (by decide)), fun _ => ⟨vp_in_nI hi (by decide), fun x2 e2 => ?_⟩⟩)
      rw [nI_clamp (by omega)] at e2
      rw [e2, nI_1]
      exact hrec
    refine hX (hP _ S (fun {K} hK S1 e1 => ⟨fun z => absurd z (by omega), fun z => absurd z (by omega), fun z => absurd z (by omega), fun z => absurd z (by omega), fun z => absurd z (by omega), fun z => absurd z (by omega), fun z => absurd z (by omega), fun _ => ?_⟩))
    have h1 := h.m0 e1
    rw [g8] at hK
    refine lp_up (X := fun f i => wL_X6_count_122 (fun (z11 : Int32) (_ : Int32) (S10 : St) => K z11 S10) f (sumI g i) (nI i) S1) (Nat.zero_le m) (fun f => ⟨fun _ => hK S1 h1.ex, fun q => ?_⟩) (fun f i _ hi hrec => ⟨fun q => ?_, fun _ => ⟨vp_in_nI (by omega) (by decide), fun x2 e2 => ?_⟩⟩)
    · rw [h1.mw.2.1] at q
      exact absurd (nI_le (Nat.le_refl _) (by omega)) q
    · rw [h1.mw.2.1] at q
      exact absurd q (nI_ge hi (by omega))
    · rw [nI_clamp (by omega), show S1.1 31 i = S.1 21 i by rw [e1, uI_row (by decide)]; exact (h.bk i (by omega)).1.symm] at e2
      rw [e2, nI_1]
      exact hrec
end Q3
