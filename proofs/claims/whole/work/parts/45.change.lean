/-! ===== pure: the calls that change the works ===== -/
theorem XI.rows {S S' : St} {d : Dw} (h : XI S d) (e : ∀ k, (k = 1 ∨ k = 8 ∨ k = 9 ∨ k = 12 ∨ k = 13 ∨ (43 ≤ k ∧ k < 55)) → S'.1 k = S.1 k) : XI S' d :=
  ⟨h.1, h.2.1.keep (fun k hk => e k (by omega)), fun u hu => by rw [e 12 (by omega)]; exact h.2.2.1 u hu, fun g hg => by rw [e 13 (by omega)]; exact h.2.2.2 g hg⟩
theorem IV.re {S S' : St} {d d' : Dw} {m T : Nat} (h : IV S d m T) (hI : XI S' d') (hm : Okm d' m) (hW : MW S' d' m) (e : ∀ k, (k = 2 ∨ k = 5 ∨ k = 14 ∨ k = 21 ∨ k = 22 ∨ k = 23 ∨ k = 24 ∨ (30 ≤ k ∧ k < 36)) → S'.1 k = S.1 k) (e10 : S'.1 25 10 = S.1 25 10) (e11 : S'.1 25 11 = S.1 25 11) : IV S' d' m T := by
  refine ⟨hI, h.xu.keep (e 2 (by omega)), hm, hW, ⟨h.mt.1, fun u hu => by rw [e 32 (by omega)]; exact h.mt.2 u hu⟩, fun u hu => ?_, fun u hu => ?_, ?_, ?_, fun j => ?_⟩
  · rw [e 14 (by omega), e 30 (by omega)]; exact h.mk u hu
  · rw [e 21 (by omega), e 31 (by omega)]; exact h.bk u hu
  · rw [e 5 (by omega), e10]; exact h.ln
  · rw [e 5 (by omega), e11]; exact h.bs
  · rw [e 22 (by omega), e 23 (by omega), e 24 (by omega), e 33 (by omega), e 34 (by omega), e 35 (by omega)]; exact h.li j
def upN (f : Nat → Nat) (k v : Nat) : Nat → Nat := fun i => if i = k then v else f i
def upN2 (f : Nat → Nat → Nat) (k l v : Nat) : Nat → Nat → Nat := fun i j => if i = k ∧ j = l then v else f i j
theorem upN_at (f : Nat → Nat) (k v : Nat) : upN f k v k = v := if_pos rfl
theorem upN_ne {f : Nat → Nat} {k v i : Nat} (h : i ≠ k) : upN f k v i = f i := if_neg h
theorem need_eq {d d' : Dw} (hd : Okd d) (hd' : Okd d') (eu : dus d' = dus d) (ef : dfd d' = dfd d) (g : Nat) : need d' g = need d g := by
  refine eq_bits fun w => ?_
  have h1 := need_bit hd' g w
  have h2 := need_bit hd g w
  unfold stU at h1 h2
  rw [eu, ef] at h1
  exact Bool.eq_iff_iff.mpr (h1.trans h2.symm)
/-- costs put into the class -/
theorem sp_putCosts {S : St} {d d' : Dw} (hd : Okd d) (hd' : Okd d') (hN : XN S d) {w c1 c2 : Nat} (hw : w < 6) (e : d' = (dn d', upN (dfx d) w c1, upN (dst d) w c2, dus d, dfd d)) (hW0 : S.1 1 0 = nI (dn d')) (hW : ∀ k, k < 6 → S.1 8 k = nI (dfx d k) ∧ S.1 9 k = nI (dst d k)) (hU : ∀ a u, a < 6 → u < 8 → S.1 (43 + a) u = nI (dus d a u)) (hF : ∀ a v, a < 6 → v < 6 → S.1 (49 + a) v = nI (dfd d a v)) {post : St → Prop} (h : ∀ S', (∀ k, k ≠ 8 → k ≠ 9 → k ≠ 13 → S'.1 k = S.1 k) → XI S' d' → post S') : wp_X4_putCosts S (nI w) (nI c1) (nI c2) post := by
  have e1 : dfx d' = upN (dfx d) w c1 := by rw [e]; rfl
  have e2 : dst d' = upN (dst d) w c2 := by rw [e]; rfl
  have e3 : dus d' = dus d := by rw [e]; rfl
  have e4 : dfd d' = dfd d := by rw [e]; rfl
  refine ⟨vp_in_nI hw (by decide), fun S2 g2 => ⟨vp_in_nI hw (by decide), fun S4 g4 => sp_fillI (by decide) ?_⟩⟩
  rw [nI_clamp (by omega)] at g2 g4
  have r : ∀ k, k ≠ 8 → k ≠ 9 → S4.1 k = S.1 k := fun k a b => by rw [g4, uI_row b, g2, uI_row a]
  refine h _ (fun k a b c => (funext fun j => if_neg (fun q => c q.1) : (fI S4 13 256 (-1)).1 k = S4.1 k).trans (r k a b)) (XI_of_fill hd' ⟨?_, fun k hk => ?_, fun k hk => ?_, fun a u ha hu => ?_, fun a v ha hv => ?_⟩ (fun u hu => ?_))
  · rw [r 1 (by decide) (by decide)]; exact hW0
  · rw [g4, uI_row (by decide), g2, e1]
    by_cases q : k = w
    · subst q; rw [uI_at, upN_at]
    · rw [uI_ne (fun z => q z.2), upN_ne q]; exact (hW k hk).1
  · rw [g4, e2]
    by_cases q : k = w
    · subst q; rw [uI_at, upN_at]
    · rw [uI_ne (fun z => q z.2), upN_ne q, g2, uI_row (by decide)]; exact (hW k hk).2
  · rw [r (43 + a) (by omega) (by omega), e3]; exact hU a u ha hu
  · rw [r (49 + a) (by omega) (by omega), e4]; exact hF a v ha hv
  · rw [r 12 (by decide) (by decide), need_eq hd hd' e3 e4]; exact hN u hu
theorem sp_areCosts {S : St} {a b : Int32} {post : Int32 → St → Prop} (h0 : ¬ (∃ c1 c2, c1 ≤ 10000 ∧ c2 ≤ 100 ∧ a = nI c1 ∧ b = nI c2) → post 0 S) (h1 : ∀ c1 c2, c1 ≤ 10000 → c2 ≤ 100 → a = nI c1 → b = nI c2 → post 1 S) : wp_X5_areCosts S a b post := by
  refine rgc (hi := 10000) (by decide) (fun hno => h0 (fun ⟨c1, c2, q1, _, q3, _⟩ => hno c1 q1 q3)) (fun c1 q1 e1 => rgc (hi := 100) (by decide) (fun hno => h0 (fun ⟨_, c2, _, q2, _, q4⟩ => hno c2 q2 q4)) (fun c2 q2 e2 => h1 c1 c2 q1 q2 e1 e2))
theorem Okd_costs {d : Dw} (hd : Okd d) {n' w c1 c2 : Nat} (hn : dn d ≤ n') (hn6 : n' ≤ 6) (h1 : c1 ≤ 10000) (h2 : c2 ≤ 100) : Okd (n', upN (dfx d) w c1, upN (dst d) w c2, dus d, dfd d) := by
  obtain ⟨a1, a2, a3, a4, a5, a6, a7, a8⟩ := hd
  refine ⟨hn6, fun k => ?_, fun k => ?_, a4, a5, fun k u q => a6 k u ?_, fun k v q => a7 k v ?_, a8⟩
  · show upN (dfx d) w c1 k ≤ 10000
    unfold upN
    split
    · exact h1
    · exact a2 k
  · show upN (dst d) w c2 k ≤ 100
    unfold upN
    split
    · exact h2
    · exact a3 k
  · rcases q with q | q
    · exact Or.inl (Nat.le_trans hn q)
    · exact Or.inr q
  · rcases q with q | q
    · exact Or.inl (Nat.le_trans hn q)
    · exact Or.inr (Nat.le_trans hn q)
theorem MW_costs {S S' : St} {d : Dw} {m n' w c1 c2 : Nat} (h : MW S d m) (e8 : S'.1 25 8 = nI n') (e9 : S'.1 25 9 = S.1 25 9) (e26 : S'.1 26 = (uI S 26 w (nI c1)).1 26) (e27 : S'.1 27 = (uI S 27 w (nI c2)).1 27) (e28 : S'.1 28 = S.1 28) (e29 : S'.1 29 = S.1 29) : MW S' (n', upN (dfx d) w c1, upN (dst d) w c2, dus d, dfd d) m := by
  refine ⟨e8, e9.trans h.2.1, fun k hk => ?_, fun k hk => ?_, fun k u hk hu => ?_, fun k v hk hv => ?_⟩
  · rw [e26]
    show _ = nI (upN (dfx d) w c1 k)
    by_cases q : k = w
    · subst q; rw [uI_at, upN_at]
    · rw [uI_ne (fun z => q z.2), upN_ne q]; exact h.2.2.1 k hk
  · rw [e27]
    show _ = nI (upN (dst d) w c2 k)
    by_cases q : k = w
    · subst q; rw [uI_at, upN_at]
    · rw [uI_ne (fun z => q z.2), upN_ne q]; exact h.2.2.2.1 k hk
  · rw [e28]; exact h.2.2.2.2.1 k u hk hu
  · rw [e29]; exact h.2.2.2.2.2 k v hk hv
section Q5
variable {S : St} {d : Dw} {m T : Nat} {P : Int32 → St → Prop}
theorem p_work (h : IV S d m T) {a a2 : Int32} (hP : ∀ r S1, (∀ {K : Int32 → St → Prop}, (∀ S2, IVx S2 → K r S2) → wp_X6_work S1 a a2 K) → P r S1) : wp_X5_work S a a2 P := by
  have hn := h.d.1
  unfold wp_X5_work
  rw [h.xi.2.1.1]
  refine ⟨fun q => ?_, fun q => ?_⟩
  · have e6 : dn d = 6 := by
      rcases Nat.lt_or_ge (dn d) 6 with z | z
      · exact absurd q (nI_ge (a := dn d) (b := 6) z (by decide))
      · omega
    refine hP _ S (fun hK S1 e1 => ?_)
    have h1 := h.m0 e1
    rw [h1.mw.1, e6]
    exact ⟨fun _ => hK S1 h1.ex, fun z => absurd rfl z⟩
  · have hlt : dn d < 6 := by
      rcases Nat.lt_or_ge (dn d) 6 with z | z
      · exact z
      · exact absurd (nI_le (a := 6) (b := dn d) z (by omega)) q
    have n6 : ¬ nI (dn d) = 6 := fun z => by have := (nI_eq (a := dn d) (b := 6) (by omega) (by decide)).mp z; omega
    refine sp_areCosts (fun hno => ⟨fun z => absurd rfl z, fun _ => hP _ S (fun hK S1 e1 => ?_)⟩) (fun c1 c2 q1 q2 e1 e2 => ⟨fun _ => ?_, fun z => absurd z (by decide)⟩)
    · have h1 := h.m0 e1
      rw [h1.mw.1]
      exact ⟨fun z => absurd z n6, fun _ => sp_isInM (hi := 10000) (by decide) (fun _ => ⟨fun _ => hK S1 h1.ex, fun z => absurd rfl z⟩) (fun c1 q1 g1 => ⟨fun z => absurd z (by decide), fun _ => sp_isInM (hi := 100) (by decide) (fun _ => ⟨fun z => absurd rfl z, fun _ => hK S1 h1.ex⟩) (fun c2 q2 g2 => absurd ⟨c1, c2, q1, q2, g1, g2⟩ hno)⟩)⟩
    · subst e1
      subst e2
      intro x1 ex1 S2 eS2
      rw [h.xi.2.1.1] at ex1 eS2
      rw [nI_1] at eS2
      subst ex1
      have hd' := Okd_costs h.d (n' := dn d + 1) (w := dn d) (Nat.le_succ _) (by omega) q1 q2
      have r2 : ∀ k, k ≠ 1 → S2.1 k = S.1 k := fun k hk => by rw [eS2, uI_row hk]
      refine sp_putCosts (d' := (dn d + 1, upN (dfx d) (dn d) c1, upN (dst d) (dn d) c2, dus d, dfd d)) h.d hd' (fun u hu => by rw [r2 12 (by decide)]; exact h.xi.2.2.1 u hu) hlt rfl (by rw [eS2, uI_at]; rfl) (fun k hk => ⟨by rw [r2 8 (by decide)]; exact h.xi.2.1.2.1 k hk, by rw [r2 9 (by decide)]; exact h.xi.2.1.2.2.1 k hk⟩) (fun b u hb hu => by rw [r2 (43 + b) (by omega)]; exact h.xi.2.1.2.2.2.1 b u hb hu) (fun b v hb hv => by rw [r2 (49 + b) (by omega)]; exact h.xi.2.1.2.2.2.2 b v hb hv) (fun S3 r3 i3 => hP _ S3 (fun hK S1 e1 => ?_))
      have rx : ∀ k, k ≠ 1 → k ≠ 8 → k ≠ 9 → k ≠ 13 → S3.1 k = S.1 k := fun k a b c e => (r3 k b c e).trans (r2 k a)
      have hW3 : MW S3 d m := by
        have := h.mw
        unfold MW at this ⊢
        rw [rx 25 (by decide) (by decide) (by decide) (by decide), rx 26 (by decide) (by decide) (by decide) (by decide), rx 27 (by decide) (by decide) (by decide) (by decide), rx 28 (by decide) (by decide) (by decide) (by decide), rx 29 (by decide) (by decide) (by decide) (by decide)]
        exact this
      have hW1 : MW S1 d m := hW3.mF (by rw [e1]; exact MF.uI (by omega))
      rw [hW1.1]
      refine ⟨fun z => absurd z n6, fun _ => sp_isInM (hi := 10000) (by decide) (fun hno => absurd rfl (hno c1 q1)) (fun _ _ _ => ⟨fun z => absurd z (by decide), fun _ => sp_isInM (hi := 100) (by decide) (fun hno => absurd rfl (hno c2 q2)) (fun _ _ _ => ⟨fun _ => ⟨?_, fun S7 e7 => ⟨?_, fun S9 e9 S10 e10 => ?_⟩⟩, fun z => absurd z (by decide)⟩)⟩)⟩
      · rw [hW1.1]; exact vp_in_nI hlt (by decide)
      · rw [e7, uI_row (by decide), hW1.1]; exact vp_in_nI hlt (by decide)
      · rw [hW1.1, nI_clamp (by omega)] at e7
        rw [show S7.1 25 8 = nI (dn d) by rw [e7, uI_row (by decide)]; exact hW1.1, nI_clamp (by omega)] at e9
        rw [show S9.1 25 8 = nI (dn d) by rw [e9, uI_row (by decide), e7, uI_row (by decide)]; exact hW1.1, nI_1] at e10
        have ea : S10.1 25 8 - 1 = nI (dn d) := by rw [e10, uI_at, show (1 : Int32) = nI 1 from rfl, pk_sub (by omega)]; rfl
        rw [ea]
        have ry : ∀ k, k ≠ 25 → k ≠ 26 → k ≠ 27 → S10.1 k = S3.1 k := fun k a b c => by rw [e10, uI_row a, e9, uI_row c, e7, uI_row b, e1, uI_row a]
        have r25 : ∀ j, j ≠ 8 → j ≠ 0 → S10.1 25 j = S.1 25 j := fun j a b => by
          rw [e10, uI_ne (fun z => a z.2), e9, uI_row (by decide), e7, uI_row (by decide), e1, uI_ne (fun z => b z.2), rx 25 (by decide) (by decide) (by decide) (by decide)]
        refine hK S10 (IV.ex (h.re (i3.rows (fun k hk => ry k (by omega) (by omega) (by omega))) h.om (MW_costs (S := S) h.mw (by rw [e10, uI_at]) (r25 9 (by decide) (by decide)) ?_ ?_ ?_ ?_) (fun k hk => (ry k (by omega) (by omega) (by omega)).trans (rx k (by omega) (by omega) (by omega) (by omega))) (r25 10 (by decide) (by decide)) (r25 11 (by decide) (by decide))))
        · rw [e10, uI_row (by decide), e9, uI_row (by decide), e7]
          funext j
          show (if 26 = 26 ∧ j = dn d then nI c1 else S1.1 26 j) = (if 26 = 26 ∧ j = dn d then nI c1 else S.1 26 j)
          rw [e1, uI_row (by decide), rx 26 (by decide) (by decide) (by decide) (by decide)]
        · rw [e10, uI_row (by decide), e9]
          funext j
          show (if 27 = 27 ∧ j = dn d then nI c2 else S7.1 27 j) = (if 27 = 27 ∧ j = dn d then nI c2 else S.1 27 j)
          rw [e7, uI_row (by decide), e1, uI_row (by decide), rx 27 (by decide) (by decide) (by decide) (by decide)]
        · rw [ry 28 (by decide) (by decide) (by decide), rx 28 (by decide) (by decide) (by decide) (by decide)]
        · rw [ry 29 (by decide) (by decide) (by decide), rx 29 (by decide) (by decide) (by decide) (by decide)]
theorem p_change (h : IV S d m T) {a a2 a3 : Int32} (hP : ∀ r S1, (∀ {K : Int32 → St → Prop}, (∀ S2, IVx S2 → K r S2) → wp_X6_change S1 a a2 a3 K) → P r S1) : wp_X5_change S a a2 a3 P := by
  have hn := h.d.1
  refine sp_has4 h.xi.2.1.1 (by omega) (fun hno => ⟨fun _ => hP _ S (fun hK S1 e1 => ?_), fun q => absurd rfl q⟩) (fun w hw e => ⟨fun q => absurd q (by decide), fun _ => sp_areCosts (fun hno => ⟨fun z => absurd rfl z, fun _ => hP _ S (fun hK S1 e1 => ?_)⟩) (fun c1 c2 q1 q2 g1 g2 => ⟨fun _ => ?_, fun z => absurd z (by decide)⟩)⟩)
  · have h1 := h.m0 e1
    exact sp_isWork h1.mw.1 (by omega) (fun _ => ⟨fun _ => hK S1 h1.ex, fun q => absurd rfl q⟩) (fun w hw e => absurd e (hno w hw))
  · have h1 := h.m0 e1
    exact sp_isWork h1.mw.1 (by omega) (fun _ => ⟨fun _ => hK S1 h1.ex, fun q => absurd rfl q⟩) (fun w hw e => ⟨fun z => absurd z (by decide), fun _ => sp_isInM (hi := 10000) (by decide) (fun _ => ⟨fun _ => hK S1 h1.ex, fun z => absurd rfl z⟩) (fun c1 q1 g1 => ⟨fun z => absurd z (by decide), fun _ => sp_isInM (hi := 100) (by decide) (fun _ => ⟨fun z => absurd rfl z, fun _ => hK S1 h1.ex⟩) (fun c2 q2 g2 => absurd ⟨c1, c2, q1, q2, g1, g2⟩ hno)⟩)⟩)
  · subst e
    subst g1
    subst g2
    have hd' := Okd_costs h.d (n' := dn d) (w := w) (Nat.le_refl _) hn q1 q2
    refine sp_putCosts (d' := (dn d, upN (dfx d) w c1, upN (dst d) w c2, dus d, dfd d)) h.d hd' h.xi.2.2.1 (by omega) rfl h.xi.2.1.1 (fun k hk => ⟨h.xi.2.1.2.1 k hk, h.xi.2.1.2.2.1 k hk⟩) (fun b u hb hu => h.xi.2.1.2.2.2.1 b u hb hu) (fun b v hb hv => h.xi.2.1.2.2.2.2 b v hb hv) (fun S3 r3 i3 => hP _ S3 (fun hK S1 e1 => ?_))
    have hW3 : MW S3 d m := by
      have := h.mw
      unfold MW at this ⊢
      rw [r3 25 (by decide) (by decide) (by decide), r3 26 (by decide) (by decide) (by decide), r3 27 (by decide) (by decide) (by decide), r3 28 (by decide) (by decide) (by decide), r3 29 (by decide) (by decide) (by decide)]
      exact this
    have hW1 : MW S1 d m := hW3.mF (by rw [e1]; exact MF.uI (by omega))
    refine sp_isWork hW1.1 (by omega) (fun hno => absurd rfl (hno w hw)) (fun _ _ _ => ⟨fun z => absurd z (by decide), fun _ => sp_isInM (hi := 10000) (by decide) (fun hno => absurd rfl (hno c1 q1)) (fun _ _ _ => ⟨fun z => absurd z (by decide), fun _ => sp_isInM (hi := 100) (by decide) (fun hno => absurd rfl (hno c2 q2)) (fun _ _ _ => ⟨fun _ => ⟨vp_in_nI (by omega) (by decide), fun S9 e9 => ⟨vp_in_nI (by omega) (by decide), fun S11 e11 => ?_⟩⟩, fun z => absurd z (by decide)⟩)⟩)⟩)
    rw [nI_clamp (by omega)] at e9 e11
    have ry : ∀ k, k ≠ 25 → k ≠ 26 → k ≠ 27 → S11.1 k = S3.1 k := fun k a b c => by rw [e11, uI_row c, e9, uI_row b, e1, uI_row a]
    have r25 : ∀ j, j ≠ 0 → S11.1 25 j = S.1 25 j := fun j b => by
      rw [e11, uI_row (by decide), e9, uI_row (by decide), e1, uI_ne (fun z => b z.2), r3 25 (by decide) (by decide) (by decide)]
    refine hK S11 (IV.ex (h.re (i3.rows (fun k hk => ry k (by omega) (by omega) (by omega))) h.om (MW_costs (S := S) h.mw ((r25 8 (by decide)).trans h.mw.1) (r25 9 (by decide)) ?_ ?_ ?_ ?_) (fun k hk => (ry k (by omega) (by omega) (by omega)).trans (r3 k (by omega) (by omega) (by omega))) (r25 10 (by decide)) (r25 11 (by decide))))
    · rw [e11, uI_row (by decide), e9]
      funext j
      show (if 26 = 26 ∧ j = w then nI c1 else S1.1 26 j) = (if 26 = 26 ∧ j = w then nI c1 else S.1 26 j)
      rw [e1, uI_row (by decide), r3 26 (by decide) (by decide) (by decide)]
    · rw [e11]
      funext j
      show (if 27 = 27 ∧ j = w then nI c2 else S9.1 27 j) = (if 27 = 27 ∧ j = w then nI c2 else S.1 27 j)
      rw [e9, uI_row (by decide), e1, uI_row (by decide), r3 27 (by decide) (by decide) (by decide)]
    · rw [ry 28 (by decide) (by decide) (by decide), r3 28 (by decide) (by decide) (by decide)]
    · rw [ry 29 (by decide) (by decide) (by decide), r3 29 (by decide) (by decide) (by decide)]
end Q5
