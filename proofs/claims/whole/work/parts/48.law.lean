/-! ===== pure: booking on both sides, and the law ===== -/
theorem bookM {S7 : St} {d : Dw} {m T r n : Nat} {c b : Nat → Int32} (hd : Okd d) (hom : Okm d m) (hW : MW S7 d m) (hT : MT S7 T m) (hr : r ≤ 2) (hc : ∀ u, u < m → cnv d T r (S7.1 30) u = c u) (hb : ∀ u, u < m → S7.1 31 u = b u) (h10 : S7.1 25 10 = nI n) (hn : n ≤ 400) {K : Int32 → St → Prop} (hyes : n + fb_ct (dff c b) m ≤ 400 → ∀ S', (∀ k, k < 61 → k ≠ 25 → k ≠ 31 → k ≠ 33 → k ≠ 34 → k ≠ 35 → k ≠ 36 → k ≠ 41 → k ≠ 42 → S'.1 k = S7.1 k) → (∀ j, j ≠ 0 → j ≠ 10 → j ≠ 11 → j ≠ 19 → j ≠ 24 → S'.1 25 j = S7.1 25 j) → S'.1 25 10 = nI (n + fb_ct (dff c b) m) → S'.1 25 11 = S7.1 25 11 + 1 → (∀ u, u < m → S'.1 31 u = c u) → (∀ u, m ≤ u → S'.1 31 u = S7.1 31 u) → (∀ j, S'.1 33 j = lnA (S7.1 33) n (dff c b) (fun _ => S7.1 25 11) m j ∧ S'.1 34 j = lnA (S7.1 34) n (dff c b) nI m j ∧ S'.1 35 j = lnA (S7.1 35) n (dff c b) (fun u => c u - b u) m j) → K (nI (fb_ct (dff c b) m)) S') (hno : ¬ n + fb_ct (dff c b) m ≤ 400 → ∀ S', MG 61 S7 S' → K (-1) S') : wp_X6_book S7 (nI r) K := by
  have hm := hom.1
  have hct := fb_ct_le (dff c b) m
  intro S1 e1
  have f1 : MG 61 S7 S1 := by rw [e1]; exact (MF.uI (by omega)).mg
  refine sp_ruleM (fun hn2 => absurd rfl (hn2 r hr)) (fun _ _ _ => ⟨fun _ => ?_, fun q => absurd q (by decide)⟩)
  refine sp_coinsBy (by decide) hd hom (hW.mG (by decide) f1) (hT.mG (by decide) f1) (by omega) (fun S4 f4 g42 => ?_)
  have f04 := f1.trans f4
  have e31 : S4.1 31 = S7.1 31 := f04.1 31 (by decide) (by decide) (by decide) (by decide) (by decide)
  have e10 : S4.1 25 10 = nI n := by rw [f04.2 10 (by decide) (by decide) (by decide)]; exact h10
  have e9 : S4.1 25 9 = nI m := by rw [f04.2 9 (by decide) (by decide) (by decide)]; exact hW.2.1
  have e42 : ∀ u, u < m → S4.1 42 u = c u := fun u hu => by
    rw [g42 u hu, e1, uI_row (by decide)]
    exact hc u hu
  have e31b : ∀ u, u < m → S4.1 31 u = b u := fun u hu => by rw [e31]; exact hb u hu
  refine sp_diffM hm e9 e42 e31b ?_
  rw [e10, nI_add, show (400 : Int32) = nI 400 from rfl, nI_leI (by omega) (by decide)]
  refine ⟨fun hle => enterM hm e9 e42 e31b e10 hle (fun S9 a0 a1 a2 a3 a4 a5 => fun S11 e11 => ?_), fun hgt => hno hgt S4 f04⟩
  refine hyes hle S11 (fun k k1 k2 k3 k4 k5 k6 k7 k8 k9 => ?_) (fun j j1 j2 j3 j4 j5 => ?_) ?_ ?_ (fun u hu => ?_) (fun u hu => ?_) (fun j => ?_)
  · rw [e11, uI_row k2, a0 k k2 k3 k4 k5 k6]; exact f04.1 k k2 k7 k8 k9 k1
  · rw [e11, uI_ne (fun z => j3 z.2), a1 j j2]; exact f04.2 j j1 j4 j5
  · rw [e11, uI_ne (by decide)]; exact a2
  · rw [e11, uI_at, a1 11 (by decide), f04.2 11 (by decide) (by decide) (by decide)]
  · rw [e11, uI_row (by decide)]; exact a3 u hu
  · rw [e11, uI_row (by decide), a4 u hu, e31]
  · rw [e11, uI_row (by decide), uI_row (by decide), uI_row (by decide)]
    have q := a5 j
    rw [f04.1 33 (by decide) (by decide) (by decide) (by decide) (by decide), f04.1 34 (by decide) (by decide) (by decide) (by decide) (by decide), f04.1 35 (by decide) (by decide) (by decide) (by decide) (by decide), f04.2 11 (by decide) (by decide) (by decide)] at q
    exact q
theorem p_book {S : St} {d : Dw} {m T : Nat} {P : Int32 → St → Prop} (h : IV S d m T) {a : Int32} (hP : ∀ r S1, (∀ {K : Int32 → St → Prop}, (∀ S2, IVx S2 → K r S2) → wp_X6_book S1 a K) → P r S1) : wp_X5_book S a P := by
  have hm := h.om.1
  obtain ⟨n, hn, hn1, hn2⟩ := h.ln
  refine sp_ruleX (fun hno => ⟨fun q => absurd rfl q, fun _ => hP _ S (fun hK S1 e1 => ?_)⟩) (fun r hr e => ⟨fun _ => ?_, fun q => absurd q (by decide)⟩)
  · have h1 := h.m0 e1
    exact sp_ruleM (fun _ => ⟨fun q => absurd rfl q, fun _ => hK S1 h1.ex⟩) (fun r hr e => absurd e (hno r hr))
  · subst e
    obtain ⟨c, ec⟩ : ∃ c : Nat → Int32, c = cnv d T r (S.1 14) := ⟨_, rfl⟩
    obtain ⟨b, eb⟩ : ∃ b : Nat → Int32, b = S.1 21 := ⟨_, rfl⟩
    have hdf : ∀ k, m ≤ k → k < 8 → dff c b k = false := fun k h1 h2 => by
      have hb : T.testBit k = false := by
        cases hb : T.testBit k with
        | false => rfl
        | true => have := bit_lt h.mt.1 hb; omega
      refine decide_eq_false (fun z => z ?_)
      rw [ec, eb, cnv_out h.d h.lt hb, (h.bk k h2).2 h1]
    have hc8 : fb_ct (dff c b) 8 = fb_ct (dff c b) m := ct_ext 8 hm hdf
    have hct := fb_ct_le (dff c b) 8
    refine sp_fillCoins h.xi h.xu (by omega) (Or.inl rfl) (fun S3 f3 i3 g6 => ?_)
    have h3 := h.x (fun k q1 _ q3 => f3 k q1 q3) i3
    have h36 : ∀ u, u < 8 → S3.1 6 u = c u := fun u hu => by rw [ec]; exact g6 u hu
    have h321 : ∀ u, u < 8 → S3.1 21 u = b u := fun u hu => by rw [eb, f3 21 (by decide) (by decide)]
    have h351 : S3.1 5 1 = nI n := by rw [f3 5 (by decide) (by decide)]; exact hn1
    refine sp_diffs h36 h321 ?_
    rw [h351, nI_add, show (400 : Int32) = nI 400 from rfl, nI_leI (by omega) (by decide)]
    refine ⟨fun hle => sp_enter h36 h321 h351 hle (fun S7 a0 a50 a51 a21 aln => ?_), fun hgt => hP _ S3 (fun hK => ?_)⟩
    · rw [hc8]
      refine hP _ S7 (fun hK => ?_)
      have r7 : ∀ k, k ≠ 5 → k ≠ 6 → k ≠ 13 → k ≠ 21 → k ≠ 22 → k ≠ 23 → k ≠ 24 → S7.1 k = S.1 k := fun k k1 k2 k3 k4 k5 k6 k7 => (a0 k k1 k4 k5 k6 k7).trans (f3 k k2 k3)
      have hW7 : MW S7 d m := by
        have := h.mw
        unfold MW at this ⊢
        rw [r7 25 (by decide) (by decide) (by decide) (by decide) (by decide) (by decide) (by decide), r7 26 (by decide) (by decide) (by decide) (by decide) (by decide) (by decide) (by decide), r7 27 (by decide) (by decide) (by decide) (by decide) (by decide) (by decide) (by decide), r7 28 (by decide) (by decide) (by decide) (by decide) (by decide) (by decide) (by decide), r7 29 (by decide) (by decide) (by decide) (by decide) (by decide) (by decide) (by decide)]
        exact this
      have q7 : ∀ k, (k = 2 ∨ k = 12 ∨ k = 14 ∨ (25 ≤ k ∧ k < 36)) → S7.1 k = S.1 k := fun k hk => r7 k (by omega) (by omega) (by omega) (by omega) (by omega) (by omega) (by omega)
      have hT7 : MT S7 T m := ⟨h.mt.1, fun u hu => by rw [q7 32 (by omega)]; exact h.mt.2 u hu⟩
      refine bookM (c := c) (b := b) (n := n) h.d h.om hW7 hT7 hr (fun u hu => ?_) (fun u hu => ?_) (by rw [q7 25 (by omega)]; exact hn2) hn (fun _ S9 b0 b25 b10 b11 b31 b31o bln => ?_) (fun hx => absurd hle (by omega))
      · rw [ec, q7 30 (by omega)]
        exact cnv_eq (h.mk u (by omega)).1.symm
      · rw [eb, q7 31 (by omega)]
        exact (h.bk u (by omega)).1.symm
      · have r9 : ∀ k, (k = 2 ∨ k = 14 ∨ (26 ≤ k ∧ k < 31) ∨ k = 32) → S9.1 k = S.1 k := fun k hk => (b0 k (by omega) (by omega) (by omega) (by omega) (by omega) (by omega) (by omega) (by omega) (by omega)).trans (q7 k (by omega))
        have s9 : ∀ k, (k = 5 ∨ k = 21 ∨ k = 22 ∨ k = 23 ∨ k = 24) → S9.1 k = S7.1 k := fun k hk => b0 k (by omega) (by omega) (by omega) (by omega) (by omega) (by omega) (by omega) (by omega) (by omega)
        have hI9 : XI S9 d := i3.rows (fun k hk => (b0 k (by omega) (by omega) (by omega) (by omega) (by omega) (by omega) (by omega) (by omega) (by omega)).trans (a0 k (by omega) (by omega) (by omega) (by omega) (by omega)))
        refine hK S9 ⟨d, m, T, hI9, h.xu.keep (r9 2 (by omega)), h.om, ⟨?_, ?_, fun w hw => ?_, fun w hw => ?_, fun w v hw hv => ?_, fun w v hw hv => ?_⟩, ⟨h.mt.1, fun u hu => by rw [r9 32 (by omega)]; exact h.mt.2 u hu⟩, fun u hu => ?_, fun u hu => ?_, ⟨n + fb_ct (dff c b) m, by omega, ?_, b10⟩, ?_, fun j => ?_⟩
        · rw [b25 8 (by decide) (by decide) (by decide) (by decide) (by decide)]; exact hW7.1
        · rw [b25 9 (by decide) (by decide) (by decide) (by decide) (by decide)]; exact hW7.2.1
        · rw [r9 26 (by omega)]; exact h.mw.2.2.1 w hw
        · rw [r9 27 (by omega)]; exact h.mw.2.2.2.1 w hw
        · rw [r9 28 (by omega)]; exact h.mw.2.2.2.2.1 w v hw hv
        · rw [r9 29 (by omega)]; exact h.mw.2.2.2.2.2 w v hw hv
        · rw [r9 14 (by omega), r9 30 (by omega)]; exact h.mk u hu
        · rw [s9 21 (by omega), a21 u hu]
          rcases Nat.lt_or_ge u m with z | z
          · exact ⟨(b31 u z).symm, fun q => by omega⟩
          · have hcu : c u = 0 := by
              have q := hdf u z hu
              have q2 : c u = b u := by simpa [dff] using q
              rw [q2, eb]
              exact (h.bk u hu).2 z
            refine ⟨?_, fun _ => hcu⟩
            rw [hcu, b31o u z, q7 31 (by omega), ← (h.bk u hu).1, (h.bk u hu).2 z]
        · rw [s9 5 (by omega), a51, hc8]
        · rw [s9 5 (by omega), a50, b11, q7 25 (by omega), f3 5 (by decide) (by decide), h.bs]
        · have l1 := aln j
          have l2 := bln j
          rw [s9 22 (by omega), s9 23 (by omega), s9 24 (by omega), l1.1, l1.2.1, l1.2.2, l2.1, l2.2.1, l2.2.2, lnA_ext j 8 hm hdf, lnA_ext j 8 hm hdf, lnA_ext j 8 hm hdf, f3 22 (by decide) (by decide), f3 23 (by decide) (by decide), f3 24 (by decide) (by decide), f3 5 (by decide) (by decide), q7 33 (by omega), q7 34 (by omega), q7 35 (by omega), q7 25 (by omega), h.bs]
          exact ⟨lnA_congr (fun j => (h.li j).1) m (fun _ _ => rfl) j, lnA_congr (fun j => (h.li j).2.1) m (fun _ _ => rfl) j, lnA_congr (fun j => (h.li j).2.2) m (fun _ _ => rfl) j⟩
    · obtain ⟨n3, hn3, hn31, hn32⟩ := h3.ln
      have e3 : S3.1 25 10 = nI n := by rw [f3 25 (by decide) (by decide)]; exact hn2
      refine bookM (c := c) (b := b) (n := n) h.d h.om h3.mw h3.mt hr (fun u hu => ?_) (fun u hu => ?_) e3 hn (fun hx => absurd hx (by omega)) (fun _ S' f' => hK S' (h3.m f').ex)
      · rw [ec, f3 30 (by decide) (by decide)]
        exact cnv_eq (h.mk u (by omega)).1.symm
      · rw [eb, f3 31 (by decide) (by decide)]
        exact (h.bk u (by omega)).1.symm
def d0 : Dw := (0, fun _ => 0, fun _ => 0, fun _ _ => 0, fun _ _ => 0)
theorem Okd0 : Okd d0 := ⟨Nat.zero_le _, fun _ => Nat.zero_le _, fun _ => Nat.zero_le _, fun _ _ => Nat.zero_le _, fun _ _ => Nat.zero_le _, fun _ _ _ => rfl, fun _ _ _ => rfl, fun _ => rfl⟩
theorem need0 (g : Nat) : need d0 g = 0 := eq_bits fun w => by
  rw [Nat.zero_testBit]
  cases hb : (need d0 g).testBit w with
  | false => rfl
  | true => exact absurd (need_n Okd0 hb) (Nat.not_lt_zero w)
theorem IV0 : IV S0 d0 0 0 := by
  refine ⟨⟨Okd0, ⟨rfl, fun _ _ => rfl, fun _ _ => rfl, fun w u hw _ => ?_, fun w v hw _ => ?_⟩, fun u _ => ?_, fun g _ => Or.inl rfl⟩, ⟨rfl, rfl, by decide, by decide⟩, ⟨by decide, fun _ _ _ => rfl⟩, ⟨rfl, rfl, fun _ _ => rfl, fun _ _ => rfl, fun _ _ _ _ => rfl, fun _ _ _ _ => rfl⟩, ⟨by decide, fun u _ => ?_⟩, fun u _ => ⟨rfl, ?_, ?_⟩, fun u _ => ⟨rfl, fun _ => rfl⟩, ⟨0, by decide, rfl, rfl⟩, rfl, fun j => ⟨rfl, rfl, rfl⟩⟩
  · exact if_neg (by omega)
  · exact if_neg (by omega)
  · rw [need0]; rfl
  · rw [Nat.zero_testBit]; rfl
  · show (-10000 : Int) ≤ (0 : Int32).toInt
    decide
  · show (0 : Int32).toInt ≤ 10000
    decide
