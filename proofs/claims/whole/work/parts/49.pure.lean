/-! ===== pure: the law ===== -/
theorem law_go {L : Nat} {xs : Nat → Int32} (hL : L ≤ 2048) : ∀ (f i : Nat) (S : St), IVx S → L < 4 * (i + f) → 1 ≤ f → 4 * i ≤ L → wL_law L xs f (nI (4 * i)) S := by
  intro f
  induction f with
  | zero => intro i S _ _ h1 _; omega
  | succ f ih =>
    intro i S hS hlt _ hi
    obtain ⟨d, m, T, h⟩ := hS
    refine ⟨fun _ => trivial, fun hge => ?_⟩
    have h4 : 4 * i + 4 ≤ L := by
      rcases Nat.lt_or_ge L (4 * i + 4) with q | q
      · exfalso
        apply hge
        have e4 : (Int32.ofNat L - 4).toInt = (L : Int) - 4 := by
          have e1 : (nI L).toInt = (L : Int) := nI_toInt (by omega)
          have e2 : (4 : Int32).toInt = 4 := by decide
          rw [show Int32.ofNat L = nI L from rfl, fb_subI (by omega) (by omega), e1, e2]
        rw [Int32.lt_iff_toInt_lt, e4, nI_toInt (by omega)]
        omega
      · exact q
    have hv0 : vp_in (nI (4 * i)) L := vp_in_nI (by omega) (by omega)
    have v1 : vp_in (nI (4 * i) + (1 : Int32)) L := by rw [nI_1]; exact vp_in_nI (by omega) (by omega)
    have v2 : vp_in (nI (4 * i) + (2 : Int32)) L := by rw [show (2 : Int32) = nI 2 from rfl, nI_add]; exact vp_in_nI (by omega) (by omega)
    have v3 : vp_in (nI (4 * i) + (3 : Int32)) L := by rw [show (3 : Int32) = nI 3 from rfl, nI_add]; exact vp_in_nI (by omega) (by omega)
    have R : ∀ S2, IVx S2 → wL_law L xs f (nI (4 * i) + 4) S2 := fun S2 h2 => by
      rw [show (4 : Int32) = nI 4 from rfl, nI_add, show 4 * i + 4 = 4 * (i + 1) by omega]
      exact ih (i + 1) S2 h2 (by omega) (by omega) (by omega)
    have E : ∀ {α : Type} (r : α) (S2 : St), IVx S2 → (r = r → wL_law L xs f (nI (4 * i) + 4) S2) ∧ (¬ (r = r) → False) := fun r S2 h2 => ⟨fun _ => R S2 h2, fun q => q rfl⟩
    refine ⟨hv0, fun _ => R S h.ex, fun _ => ⟨v1, v2, p_work h (fun r S1 hM => ⟨v1, v2, hM (E r)⟩)⟩, fun _ => p_user h (fun r S1 hM => hM (E r)), fun _ => ⟨v1, v2, v3, p_change h (fun r S1 hM => ⟨v1, v2, v3, hM (E r)⟩)⟩, fun _ => ⟨v1, v2, v3, p_use h (fun r S1 hM => ⟨v1, v2, v3, hM (E r)⟩)⟩, fun _ => ⟨v1, v2, v3, p_feed h (fun r S1 hM => ⟨v1, v2, v3, hM (E r)⟩)⟩, fun _ => ⟨v1, v2, fun z => p_set h false rfl (fun r S1 hM => ⟨v1, v2, fun _ => hM (E r), fun z2 => absurd z z2⟩), fun z => p_set h true rfl (fun r S1 hM => ⟨v1, v2, fun z2 => absurd z2 z, fun _ => hM (E r)⟩)⟩, fun _ => ⟨v1, v2, p_mark h (fun r S1 hM => ⟨v1, v2, hM (E r)⟩)⟩, fun _ => p_needed h (fun r S1 hM => hM (E r)), fun _ => p_idle h (fun r S1 hM => hM (E r)), fun _ => ⟨v1, p_total h (fun r S1 hM => ⟨v1, hM (E r)⟩)⟩, fun _ => ⟨v1, p_cost h (fun r S1 hM => ⟨v1, hM (E r)⟩)⟩, fun _ => ⟨v1, v2, p_price h (fun r S1 hM => ⟨v1, v2, hM (E r)⟩)⟩, fun _ => ⟨v1, v2, v3, p_bill h (fun r S1 hM => ⟨v1, v2, v3, hM (E r)⟩)⟩, fun _ => ⟨v1, v2, p_coins h (fun r S1 hM => ⟨v1, v2, hM (E r)⟩)⟩, fun _ => ⟨v1, p_leaving h (fun r S1 hM => ⟨v1, hM (E r)⟩)⟩, fun _ => ⟨v1, p_saved h (fun r S1 hM => ⟨v1, hM (E r)⟩)⟩, fun _ => ⟨v1, v2, p_differ h (fun r S1 hM => ⟨v1, v2, hM (E r)⟩)⟩, fun _ => ⟨v1, p_book h (fun r S1 hM => ⟨v1, hM (E r)⟩)⟩, fun _ => ⟨v1, p_booked h (fun r S1 hM => ⟨v1, hM (E r)⟩)⟩, fun _ => ⟨v1, v2, p_line h (fun r S1 hM => ⟨v1, v2, hM (E r)⟩)⟩, fun _ => ⟨v1, p_count h (fun r S1 hM => ⟨v1, hM (E r)⟩)⟩⟩
theorem law_pure (L : Nat) (xs : Nat → Int32) (hL : L ≤ 2048) : wL_law L xs 600 0 S0 := law_go hL 600 0 S0 IV0.ex (by omega) (by decide) (by omega)
