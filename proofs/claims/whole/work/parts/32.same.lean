/-! ===== pure: the reference's rows and answers; both sides' prices are the same ===== -/
def PM (S : St) (d : Dw) (T : Nat) : Prop := S.1 25 19 = nI (kM d T) ∧ ∀ i, i < kM d T → S.1 36 i = nI (plc (need d T) i)
theorem kM_le (d : Dw) (T : Nat) : kM d T ≤ 6 := cl_le _ _
theorem plc_inj {N i j : Nat} (hN : N < 64) (hi : i < cl N 6) (hj : j < cl N 6) (h : plc N i = plc N j) : i = j := by
  have a := (plc_ok hN hi).2.1
  have b := (plc_ok hN hj).2.1
  rw [h] at a
  exact a.symm.trans b
theorem mrow_loop {S : St} {d : Dw} {m T i : Nat} (hd : Okd d) (hW : MW S d m) (hP : PM S d T) (hi : i < kM d T) {p1 p2 : Int32} {K : Int32 → St → Prop} (h : ∀ S', S'.1 = S.1 → (∀ q, q ≠ 37 → S'.2 q = S.2 q) → (∀ j, j < kM d T → S'.2 37 (6 * i + j) = zL (BM d T i j)) → (∀ x, x < 6 * i → S'.2 37 x = S.2 37 x) → K (nI (kM d T)) S') : ∃ f, wL_X6_prices_116 p1 p2 (nI i) (nI (plc (need d T) i)) (nI (tot d (plc (need d T) i) T (need d T))) K f 0 S := by
  have hN := need_lt hd T
  have hk := kM_le d T
  obtain ⟨a1, a2, a3⟩ := plc_ok hN hi
  have htot := tot_le hd (plc (need d T) i) T (need d T)
  have key : ∀ n j (S1 : St), j + n = kM d T → S1.1 = S.1 → (∀ q, q ≠ 37 → S1.2 q = S.2 q) → (∀ c, c < j → S1.2 37 (6 * i + c) = zL (BM d T i c)) → (∀ x, x < 6 * i → S1.2 37 x = S.2 37 x) → wL_X6_prices_116 p1 p2 (nI i) (nI (plc (need d T) i)) (nI (tot d (plc (need d T) i) T (need d T))) K (n + 1) (nI j) S1 := by
    intro n
    induction n with
    | zero =>
      intro j S1 hj g1 g2 g3 g4
      have e : j = kM d T := by omega
      subst e
      refine ⟨fun _ => h S1 g1 g2 g3 g4, fun q => ?_⟩
      rw [g1, hP.1] at q
      exact absurd (nI_le (Nat.le_refl _) (by omega)) q
    | succ n ih =>
      intro j S1 hj g1 g2 g3 g4
      have hjk : j < kM d T := by omega
      obtain ⟨b1, b2, b3⟩ := plc_ok hN hjk
      have next : ∀ (v : Int64) (S2 : St), S2 = uJ S1 37 (6 * i + j) v → v = zL (BM d T i j) → wL_X6_prices_116 p1 p2 (nI i) (nI (plc (need d T) i)) (nI (tot d (plc (need d T) i) T (need d T))) K (n + 1) (nI j + 1) S2 := by
        intro v S2 e2 ev
        rw [nI_1]
        refine ih (j + 1) S2 (by omega) (by rw [e2]; exact g1) (fun q hq => by rw [e2, uJ_row hq]; exact g2 q hq) (fun c hc => ?_) (fun x hx => ?_)
        · rw [e2]
          by_cases e : c = j
          · subst e; rw [uJ_at, ev]
          · rw [uJ_ne (fun z => e (by have := z.2; omega))]; exact g3 c (by omega)
        · rw [e2, uJ_ne (fun z => by have := z.2; omega)]; exact g4 x hx
      refine ⟨fun q => ?_, fun _ => ⟨fun hne => ⟨vp_in_nI (by omega) (by decide), ?_⟩, fun heq => ⟨?_, fun S6 e6 => ?_⟩⟩⟩
      · rw [g1, hP.1] at q
        exact absurd q (nI_ge hjk (by omega))
      · have hij : ¬ i = j := fun z => hne (by rw [z])
        rw [nI_clamp (by omega), g1, hP.2 j hjk, ix6, ix6]
        refine ⟨vp_in_nI (by omega) (by decide), vp_in_nI (by omega) (by decide), fun S4 e4 => next _ S4 (by rw [nI_clamp (by omega)] at e4; exact e4) ?_⟩
        have h9 := hd.2.2.2.2.1 (plc (need d T) j) (plc (need d T) i)
        rw [nI_clamp (by omega), hW.2.2.2.2.2 _ _ b3 a3, zL_nIneg (by omega)]
        unfold BM AX
        rw [if_pos a1, if_neg (fun z => hij (plc_inj hN hi hjk z.symm))]
      · rw [ix6]; exact vp_in_nI (by omega) (by decide)
      · have hij : i = j := (nI_eq (by omega) (by omega)).mp heq
        rw [ix6, nI_clamp (by omega)] at e6
        refine next _ S6 e6 ?_
        rw [zL_nI (by omega)]
        unfold BM AX
        rw [if_pos a1, ← hij, if_pos rfl]
  exact ⟨kM d T + 1, key (kM d T) 0 S (by omega) rfl (fun _ _ => rfl) (fun c hc => absurd hc (Nat.not_lt_zero c)) (fun _ _ => rfl)⟩
theorem mrows_loop {S : St} {d : Dw} {m T : Nat} (hd : Okd d) (hm : Okm d m) (hW : MW S d m) (hT : T < 256) (hP : PM S d T) {K : Int32 → St → Prop} (h : ∀ S', S'.1 = S.1 → (∀ q, q ≠ 37 → q ≠ 38 → S'.2 q = S.2 q) → RowsM S' (kM d T) (BM d T) (bM d T) → K (nI (kM d T)) S') : ∃ f, wL_X6_prices_72 (nI T) (nI (need d T)) K f 0 S := by
  have hN := need_lt hd T
  have hk := kM_le d T
  have key : ∀ n i (S1 : St), i + n = kM d T → S1.1 = S.1 → (∀ q, q ≠ 37 → q ≠ 38 → S1.2 q = S.2 q) → (∀ r c, r < i → c < kM d T → S1.2 37 (6 * r + c) = zL (BM d T r c)) → (∀ r, r < i → S1.2 38 r = zL (bM d T r)) → wL_X6_prices_72 (nI T) (nI (need d T)) K (n + 1) (nI i) S1 := by
    intro n
    induction n with
    | zero =>
      intro i S1 hi g1 g2 g3 g4
      have e : i = kM d T := by omega
      subst e
      refine ⟨fun _ => h S1 g1 g2 ⟨by rw [g1]; exact hP.1, hk, g3, g4⟩, fun q => ?_⟩
      rw [g1, hP.1] at q
      exact absurd (nI_le (Nat.le_refl _) (by omega)) q
    | succ n ih =>
      intro i S1 hi g1 g2 g3 g4
      have hik : i < kM d T := by omega
      obtain ⟨a1, a2, a3⟩ := plc_ok hN hik
      have htot := tot_le hd (plc (need d T) i) T (need d T)
      have hWe : ∀ S2 : St, S2.1 = S.1 → MW S2 d m := fun S2 e => by
        unfold MW
        rw [e]
        exact hW
      refine ⟨fun q => ?_, fun _ => ⟨vp_in_nI (by omega) (by decide), fun x2 e2 => ?_⟩⟩
      · rw [g1, hP.1] at q
        exact absurd q (nI_ge hik (by omega))
      · rw [nI_clamp (by omega), g1, hP.2 i hik] at e2
        subst e2
        refine sp_totalM hd hm (hWe S1 g1) a3 hT hN ?_
        refine sp_workCost (hWe S1 g1) a3 htot ⟨vp_in_nI (by omega) (by decide), fun S8 e8 => ?_⟩
        rw [nI_clamp (by omega), zL_nI (by have := wcost_le hd (plc (need d T) i) htot; omega)] at e8
        have h81 : S8.1 = S.1 := by rw [e8]; exact g1
        refine mrow_loop hd (hWe S8 h81) (by unfold PM; rw [h81]; exact hP) hik (fun S9 c1 c2 c3 c4 => ?_)
        rw [nI_1]
        refine ih (i + 1) S9 (by omega) (c1.trans h81) (fun q b1 b2 => ?_) (fun r c hr hc => ?_) (fun r hr => ?_)
        · rw [c2 q b1, e8, uJ_row b2]; exact g2 q b1 b2
        · by_cases e : r = i
          · subst e; exact c3 c hc
          · rw [c4 _ (by omega), e8, uJ_row (by decide)]; exact g3 r c (by omega) hc
        · rw [c2 38 (by decide), e8]
          by_cases e : r = i
          · subst e
            rw [uJ_at]
            unfold bM bX
            rw [if_pos a1]
          · rw [uJ_ne (fun z => e z.2)]; exact g4 r (by omega)
  exact ⟨kM d T + 1, key (kM d T) 0 S (by omega) rfl (fun _ _ _ => rfl) (fun r c hr => absurd hr (Nat.not_lt_zero r)) (fun r hr => absurd hr (Nat.not_lt_zero r))⟩
theorem dm_dt (B : Nat → Nat → Int) {k : Nat} (hk : k ≤ 6) : dm B k 0 0 = dt k B := by
  unfold dm dt
  have e : ldf (full k) 0 = full k := eq_bits fun i => by
    rw [rem_bit hk, full_bit, Nat.zero_testBit]
    simp
  rw [e, Nat.sub_zero, List.range_eq_range']
theorem den_M (d : Dw) (T : Nat) : dm (Arp (BM d T) (bM d T) (-1)) (kM d T) 0 0 = dt (kM d T) (BM d T) := by
  have hk := kM_le d T
  rw [dm_dt _ hk]
  refine dt_on hk (fun i c hi hc => ?_)
  unfold Arp
  rw [if_neg (nI_ne_m1 (by omega))]
theorem num_M (d : Dw) (T : Nat) {j : Nat} (hj : j < kM d T) : dm (Arp (BM d T) (bM d T) (nI j)) (kM d T) 0 0 = nu (kM d T) (BM d T) (bM d T) j := by
  have hk := kM_le d T
  rw [dm_dt _ hk]
  refine dt_on hk (fun i c hi hc => ?_)
  unfold Arp rpc
  by_cases e : c = j
  · rw [if_pos e, if_pos (by rw [e])]
  · rw [if_neg e, if_neg (fun z => e ((nI_eq (by omega) (by omega)).mp z))]
theorem BM_cl {d : Dw} (hd : Okd d) {T a q : Nat} (ha : a < 6) (hq : q < 6) (ea : (need d T).testBit a = true) (eq : (need d T).testBit q = true) : BM d T (cl (need d T) a) (cl (need d T) q) = AX d T a q := by
  have hN := need_lt hd T
  unfold BM
  rw [plc_cl hN ha ea, plc_cl hN hq eq]
theorem den_X {d : Dw} (hd : Okd d) (T : Nat) : denX d T = dt (kM d T) (BM d T) := by
  have hN := need_lt hd T
  refine det_same hN (A := Arp (AX d T) (bX d T) (-1)) (B := BM d T) (fun a q ha hq ea eq => ?_) (fun j hj ej => funext fun c => ?_)
  · rw [BM_cl hd ha hq ea eq]
    unfold Arp
    rw [if_neg (nI_ne_m1 (by omega))]
  · unfold Arp AX bX
    simp only [ej, Bool.false_eq_true, if_false]
    by_cases e : nI c = -1
    · rw [if_pos e]
      unfold eu
      rw [if_neg (fun z => nI_ne_m1 (n := j) (by omega) (by rw [← z]; exact e))]
    · rw [if_neg e]
theorem num_X {d : Dw} (hd : Okd d) {T c : Nat} (hc : c < 6) (hb : (need d T).testBit c = true) : numX d T c = nu (kM d T) (BM d T) (bM d T) (cl (need d T) c) := by
  have hN := need_lt hd T
  refine det_same hN (A := Arp (AX d T) (bX d T) (nI c)) (B := rpc (BM d T) (bM d T) (cl (need d T) c)) (fun a q ha hq ea eq => ?_) (fun j hj ej => funext fun q => ?_)
  · unfold Arp rpc
    by_cases e : q = c
    · subst e
      rw [if_pos rfl, if_pos rfl]
      unfold bM
      rw [plc_cl hN ha ea]
    · rw [if_neg (fun z => e ((nI_eq (by omega) (by omega)).mp z)), if_neg (show ¬ cl (need d T) q = cl (need d T) c from fun z => e (fb_ct_kth_one (p := fun i => (need d T).testBit i) eq hb z)), BM_cl hd ha hq ea eq]
  · unfold Arp AX bX
    simp only [ej, Bool.false_eq_true, if_false]
    by_cases e : nI q = nI c
    · rw [if_pos e]
      unfold eu
      rw [if_neg]
      intro z
      subst z
      rw [(nI_eq (by omega) (by omega)).mp e, hb] at ej
      cases ej
    · rw [if_neg e]
theorem lpl_zrow {C : Nat} (hC : C < 128) : ∀ {rs : List (Nat → Int)}, (fun _ => (0 : Int)) ∈ rs → lpl rs C = 0 := by
  intro rs h
  obtain ⟨s, t, e⟩ := List.append_of_mem h
  rw [e, lpl_front _ t s C hC]
  have hz : Lop (fun _ => (0 : Int)) (lpl (s ++ t)) C = 0 := by
    unfold Lop
    rw [fb_si_cong (g := fun _ => 0) (fun c _ => by simp), si_zero]
  show sg s.length * Lop (fun _ => (0 : Int)) (lpl (s ++ t)) C = 0
  rw [hz, Int.mul_zero]
theorem num_idle {d : Dw} {T c : Nat} (hc : c < 6) (hb : (need d T).testBit c = false) : numX d T c = 0 := by
  unfold numX wv
  rw [← lpl_rpl _ 63 (by decide)]
  refine lpl_zrow (by decide) (List.mem_map.mpr ⟨c, List.mem_range.mpr hc, funext fun q => ?_⟩)
  unfold Arp AX bX
  simp only [hb, Bool.false_eq_true, if_false]
  by_cases e : nI q = nI c
  · rw [if_pos e]
  · rw [if_neg e]
    unfold eu
    rw [if_neg (fun z => e (by rw [z]))]
/-- the reference's prices: the same numbers as the class's -/
theorem sp_pricesM {S : St} {d : Dw} {m T : Nat} (hd : Okd d) (hm : Okm d m) (hW : MW S d m) (hT : MT S T m) {post : St → Prop} (h : ∀ S', Mf S S' → S'.2 25 20 = zL (denX d T) → (∀ w, w < dn d → S'.2 39 w = zL (numX d T w)) → post S') : wp_X6_prices S post := by
  have hN := need_lt hd T
  have hk := kM_le d T
  have hT8 : T < 256 := Nat.lt_of_lt_of_le hT.1 (Nat.pow_le_pow_right (by decide) hm.1)
  refine sp_thereM hm.1 hW.2.1 hT ?_
  refine sp_neededM hd hm hW hT8 (fun S5 e5 => ?_)
  have f5 : Mf S S5 := by rw [e5]; exact Mf.uI (by omega)
  refine place_loop hd (hW.mf f5) (by rw [e5, uI_at]) (fun S6 f6 g1 g2 g3 => ?_)
  refine mrows_loop hd hm ((hW.mf f5).mf f6) hT8 ⟨g1, g2⟩ (fun S8 c1 c2 hR => ?_)
  have f8 : Mf S6 S8 := ⟨fun k _ _ => by rw [c1], fun j _ => by rw [c1], fun k a b c _ => c2 k b c, fun j _ => by rw [c2 25 (by decide) (by decide)]⟩
  have hpc : pc (ldf (full (kM d T)) 0) = kM d T := by
    have : ∀ k, k < 7 → pc (ldf (full k) 0) = k := by decide +kernel
    exact this _ (by omega)
  refine sp_detM hR (kM d T) 8 0 0 (by omega) (by omega) (by decide) hpc (fun S12 e12 => ?_)
  rw [den_M, ← den_X hd] at e12
  have f12 : Mf S8 S12 := by rw [e12]; exact Mf.uJ (by omega)
  have f0 : Mf S S12 := ((f5.trans f6).trans f8).trans f12
  have hR12 : ∀ S1 : St, S1.1 = S12.1 → (∀ q, q ≠ 39 → S1.2 q = S12.2 q) → RowsM S1 (kM d T) (BM d T) (bM d T) := fun S1 b1 b2 => by
    refine ⟨?_, hk, fun i j hi hj => ?_, fun i hi => ?_⟩
    · rw [b1, e12]; exact hR.1
    · rw [b2 37 (by decide), e12, uJ_row (by decide)]; exact hR.2.2.1 i j hi hj
    · rw [b2 38 (by decide), e12, uJ_row (by decide)]; exact hR.2.2.2 i hi
  have hP36 : ∀ S1 : St, S1.1 = S12.1 → ∀ i, i < kM d T → S1.1 36 i = nI (plc (need d T) i) := fun S1 b1 i hi => by
    rw [b1, e12]
    show S8.1 36 i = _
    rw [c1]
    exact g2 i hi
  have key : ∀ n i (S1 : St), i + n = kM d T → S1.1 = S12.1 → (∀ q, q ≠ 39 → S1.2 q = S12.2 q) → (∀ w, w < dn d → (need d T).testBit w = true → cl (need d T) w < i → S1.2 39 w = zL (numX d T w)) → (∀ w, w < dn d → (need d T).testBit w = false → S1.2 39 w = zL 0) → wL_X6_prices_194 (fun (_ : Int32) (S13 : St) => post S13) (n + 1) (nI i) S1 := by
    intro n
    induction n with
    | zero =>
      intro i S1 hi b1 b2 b3 b4
      have e : i = kM d T := by omega
      subst e
      refine ⟨fun _ => h S1 (f0.trans ⟨fun k _ _ => by rw [b1], fun j _ => by rw [b1], fun k _ _ _ c => b2 k c, fun j _ => by rw [b2 25 (by decide)]⟩) ?_ (fun w hw => ?_), fun q => ?_⟩
      · rw [b2 25 (by decide), e12, uJ_at]
      · have h6 : w < 6 := by have := hd.1; omega
        cases hb : (need d T).testBit w with
        | true => exact b3 w hw hb (cl_lt_of hN hb)
        | false => rw [b4 w hw hb, num_idle h6 hb]
      · rw [(hR12 S1 b1 b2).1] at q
        exact absurd (nI_le (Nat.le_refl _) (by omega)) q
    | succ n ih =>
      intro i S1 hi b1 b2 b3 b4
      have hik : i < kM d T := by omega
      obtain ⟨a1, a2, a3⟩ := plc_ok hN hik
      refine ⟨fun q => ?_, fun _ => ⟨vp_in_nI (by omega) (by decide), ?_⟩⟩
      · rw [(hR12 S1 b1 b2).1] at q
        exact absurd q (nI_ge hik (by omega))
      · refine sp_detM (hR12 S1 b1 b2) (kM d T) 8 0 0 (by omega) (by omega) (by decide) hpc ?_
        rw [nI_clamp (by omega), hP36 S1 b1 i hik, num_M d T hik]
        refine ⟨vp_in_nI a3 (by decide), fun S5 e5 => ?_⟩
        rw [nI_clamp (by omega)] at e5
        rw [nI_1]
        refine ih (i + 1) S5 (by omega) (by rw [e5]; exact b1) (fun q hq => by rw [e5, uJ_row hq]; exact b2 q hq) (fun w hw hb hc => ?_) (fun w hw hb => ?_)
        · rw [e5]
          by_cases e : w = plc (need d T) i
          · rw [e, uJ_at, num_X hd a3 a1, a2]
          · rw [uJ_ne (fun z => e z.2)]
            refine b3 w hw hb ?_
            have : cl (need d T) w ≠ i := fun z => e (fb_ct_kth_one (p := fun i => (need d T).testBit i) hb a1 (by rw [← a2] at z; exact z))
            omega
        · rw [e5, uJ_ne (fun z => by rw [z.2, a1] at hb; cases hb)]
          exact b4 w hw hb
  refine ⟨kM d T + 1, key (kM d T) 0 S12 (by omega) rfl (fun _ _ => rfl) (fun w _ _ hc => absurd hc (Nat.not_lt_zero _)) (fun w hw _ => ?_)⟩
  rw [e12, uJ_row (by decide), c2 39 (by decide) (by decide)]
  exact g3 w hw
