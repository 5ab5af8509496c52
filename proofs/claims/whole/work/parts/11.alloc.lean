/-! a new array within a method: one cell more, its place beyond all others -/
def uZ (S : St) (k : Nat) : St := (fun a b => if a = k then 0 else S.1 a b, S.2)
def uC (S : St) (k k0 : Nat) : St := (fun a b => if a = k then S.1 k0 b else S.1 a b, S.2)
theorem kArrZ : Cond.arrayClass .boolean ∈ T0 := in_T0 600 (by decide +kernel) (by decide +kernel)
theorem kArrI : Cond.arrayClass .int ∈ T0 := in_T0 104 (by decide +kernel) (by decide +kernel)
theorem kArrJ : Cond.arrayClass .long ∈ T0 := in_T0 152 (by decide +kernel) (by decide +kernel)
theorem kClSame : Cond.sameMethod "[I" "java/lang/Object" "clone" "()Ljava/lang/Object;" ∈ T0 := in_T0 739 (by decide +kernel) (by decide +kernel)
theorem kClNat : Cond.native ⟨"java/lang/Object", "clone", "()Ljava/lang/Object;"⟩ ∈ T0 := in_T0 740 (by decide +kernel) (by decide +kernel)
theorem kClInst : Cond.instanceMethod ⟨"java/lang/Object", "clone", "()Ljava/lang/Object;"⟩ ∈ T0 := in_T0 741 (by decide +kernel) (by decide +kernel)
theorem kClSel : Cond.selects "[I" ⟨"[I", "clone", "()Ljava/lang/Object;"⟩ ⟨"java/lang/Object", "clone", "()Ljava/lang/Object;"⟩ ∈ T0 := in_T0 742 (by decide +kernel) (by decide +kernel)
theorem kClCast : Cond.castable "[I" "java/lang/Cloneable" ∈ N0 := in_N0 743 (by decide +kernel) (by decide +kernel)
theorem kClLink : Cond.methodLink RX6 160 ⟨"[I", "clone", "()Ljava/lang/Object;"⟩ ∈ T0 := in_T0 738 (by decide +kernel) (by decide +kernel)
theorem kClClass : Cond.classLink RX6 161 "[I" ∈ T0 := in_T0 744 (by decide +kernel) (by decide +kernel)
theorem lcell_ad {cA : Nat → ClassId} {ad ad2 : Nat → Nat} {S : St} {k N : Nat} {x : Lay} (h : okX N x) (ha : ∀ i, i < N → ad2 i = ad i) : lcell cA ad2 S k x = lcell cA ad S k x := by
  cases x with
  | inl a =>
    obtain ⟨t, n, b⟩ := a
    have hh : (t = 3 ∨ t = 4) → b + n ≤ N := h
    show Sum.inl (cA t, larr ad2 S k n b t) = Sum.inl (cA t, larr ad S k n b t)
    have e : (t = 3 ∨ t = 4) → (fun i => if i < n then some (ad2 (b + i)) else none) = (fun i => if i < n then some (ad (b + i)) else none) := by
      intro ht
      funext i
      by_cases hi : i < n
      · rw [if_pos hi, if_pos hi, ha (b + i) (by have := hh ht; omega)]
      · rw [if_neg hi, if_neg hi]
    match t, e with
    | 0, _ => rfl
    | 1, _ => rfl
    | 2, _ => rfl
    | 3, e => show Sum.inl (cA 3, n, Sum.inr (Sum.inr (Sum.inr (Sum.inr _)))) = Sum.inl (cA 3, n, Sum.inr (Sum.inr (Sum.inr (Sum.inr _)))); rw [e (Or.inl rfl)]
    | 4, e => show Sum.inl (cA 4, n, Sum.inr (Sum.inr (Sum.inr (Sum.inr _)))) = Sum.inl (cA 4, n, Sum.inr (Sum.inr (Sum.inr (Sum.inr _)))); rw [e (Or.inr rfl)]
    | t + 5, _ => rfl
  | inr o =>
    obtain ⟨ci, fs⟩ := o
    have hh : ∀ q ∈ fs, q < N + 2 := h
    show Sum.inr (ci, fs.mapIdx _) = Sum.inr (ci, fs.mapIdx _)
    have e : fs.mapIdx (fun j q => lval ad2 S k j q) = fs.mapIdx (fun j q => lval ad S k j q) := by
      apply List.ext_getElem?
      intro i
      rw [List.getElem?_mapIdx, List.getElem?_mapIdx]
      cases hf : fs[i]? with
      | none => rfl
      | some q =>
        have hq := hh q (List.mem_of_getElem? hf)
        match q, hq with
        | 0, _ => rfl
        | 1, _ => rfl
        | n + 2, hq => show some (Value.ref (ad2 n)) = some (Value.ref (ad n)); rw [ha n (by omega)]
    rw [e]
theorem okX_mono {N M : Nat} (h : N ≤ M) {x : Lay} (hx : okX N x) : okX M x := by
  cases x with
  | inl a => exact fun q => Nat.le_trans (hx q) h
  | inr o => exact fun q hq => Nat.lt_of_lt_of_le (hx q hq) (by omega)
theorem up_lt {ad : Nat → Nat} {N q i : Nat} (h : i < N) : va_up ad N q i = ad i := if_neg (Nat.ne_of_lt h)
theorem wld_pre {cA : Nat → ClassId} {ad ad2 : Nat → Nat} {L : List Lay} {x : Lay} {S : St} {D : va_G} {H : Heap} (hok : ∀ (k : Nat) (x : Lay), L[k]? = some x → okX L.length x) (ha : ∀ i, i < L.length → ad2 i = ad i) (h : va_P D vwCl (wld cA ad2 (L ++ [x]) S) H) : va_P D vwCl (wld cA ad L S) H := by
  intro k q hq
  obtain ⟨y, hy, rfl⟩ := wld_inv hq
  have hlt := lay_lt hy
  have h2 := h k (ad2 k, lcell cA ad2 S k y) (wld_get (by rw [List.getElem?_append_left hlt]; exact hy))
  rw [ha k hlt, lcell_ad (hok k y hy) ha] at h2
  exact h2
theorem wld_post {cA : Nat → ClassId} {ad ad2 : Nat → Nat} {L : List Lay} {x : Lay} {S S2 : St} {D : va_G} {H : Heap} {q : Nat} {e : va_E} (hok : ∀ (k : Nat) (x : Lay), L[k]? = some x → okX L.length x) (ha : ∀ i, i < L.length → ad2 i = ad i) (hq : ad2 L.length = q) (he : lcell cA ad2 S2 L.length x = e) (ho : ∀ j, j ≠ L.length → S2.1 j = S.1 j ∧ S2.2 j = S.2 j) (h : va_P D vwCl (wld cA ad L S ++ [(q, e)]) H) : va_P D vwCl (wld cA ad2 (L ++ [x]) S2) H := by
  have hlen : (wld cA ad L S).length = L.length := by unfold wld; rw [List.length_mapIdx]
  intro k z hz
  obtain ⟨y, hy, rfl⟩ := wld_inv hz
  by_cases hlt : k < L.length
  · rw [List.getElem?_append_left hlt] at hy
    have h2 := h k (ad k, lcell cA ad S k y) (by rw [List.getElem?_append_left (by rw [hlen]; exact hlt)]; exact wld_get hy)
    have hh := ho k (Nat.ne_of_lt hlt)
    rw [ha k hlt, lcell_ad (hok k y hy) ha, lcell_same hh.1 hh.2]
    exact h2
  · rw [List.getElem?_append_right (by omega)] at hy
    have h0 : k - L.length < 1 := (List.getElem?_eq_some_iff.mp hy).1
    have hk : k = L.length := by omega
    subst hk
    rw [Nat.sub_self] at hy
    cases hy
    have h2 := h L.length (q, e) (by rw [List.getElem?_append_right (by rw [hlen]; exact Nat.le_refl _), hlen, Nat.sub_self]; rfl)
    rw [hq, he]
    exact h2
section AL
variable {p : Program} {l : Launch} {e : Env} {R : Room} {s : State} {m : MethodId} {args : Array Value} {below : List Frame} {meth : Method} {c : Code} {cc : ByteArray} {ret : Option FieldType} {own : String} {D : va_G} {cA : Nat → ClassId} {ad : Nat → Nat} {L : List Lay} {nL cells slots : Nat} {Q : State → Prop} {S : St} {lv : List (Nat × Value)} {st : List Value}
/-- what a grown world has: its context, and the way back -/
theorem grown {x : Lay} {q : Nat} {e0 : va_E} (C : Cx p s m args meth c cc nL ret own D cA ad L) (hx : okX L.length x) (hD : va_D (wA ad L s.heap.size) (wld cA ad L S ++ [(q, e0)])) :
    Cx p s m args meth c cc nL ret own D cA (va_up ad L.length q) (L ++ [x]) ∧ (∀ z, wA ad L s.heap.size z → wA (va_up ad L.length q) (L ++ [x]) s.heap.size z) ∧ (∀ z, wA (va_up ad L.length q) (L ++ [x]) s.heap.size z → wA ad L s.heap.size z) := by
  have hlen : (wld cA ad L S).length = L.length := by unfold wld; rw [List.length_mapIdx]
  have hl2 : (L ++ [x]).length = L.length + 1 := by simp
  have hq0 : (wld cA ad L S ++ [(q, e0)])[L.length]? = some (q, e0) := by rw [List.getElem?_append_right (by rw [hlen]; exact Nat.le_refl _), hlen, Nat.sub_self]; rfl
  have hqA : wA ad L s.heap.size q := hD.2 _ _ hq0
  have hqn : ∀ i, i < L.length → ad i ≠ q := by
    intro i hi he
    obtain ⟨y, hy⟩ : ∃ y, L[i]? = some y := ⟨_, List.getElem?_eq_getElem hi⟩
    have h1 : (wld cA ad L S ++ [(q, e0)])[i]? = some (ad i, lcell cA ad S i y) := by rw [List.getElem?_append_left (by rw [hlen]; exact hi)]; exact wld_get hy
    have := hD.1 i _ _ _ h1 hq0 he
    omega
  have hA1 : ∀ z, wA ad L s.heap.size z → wA (va_up ad L.length q) (L ++ [x]) s.heap.size z := by
    intro z hz
    rcases hz with ⟨k, hk, rfl⟩ | hz
    · exact Or.inl ⟨k, by omega, (up_lt hk).symm⟩
    · exact Or.inr hz
  have hA2 : ∀ z, wA (va_up ad L.length q) (L ++ [x]) s.heap.size z → wA ad L s.heap.size z := by
    intro z hz
    rcases hz with ⟨k, hk, rfl⟩ | hz
    · by_cases hlt : k < L.length
      · rw [up_lt hlt]; exact Or.inl ⟨k, hlt, rfl⟩
      · rw [show k = L.length by omega, va_up_self]; exact hqA
    · exact Or.inr hz
  obtain ⟨c1, c2, c3, c4, c5, c6, c7, c8, c9, c10, c11⟩ := C
  refine ⟨⟨c1, c2, c3, c4, c5, c6, c7, c8, c9, ⟨?_, ?_⟩, c11.narrow hA2⟩, hA1, hA2⟩
  · intro i j hi hj he
    by_cases h1 : i < L.length <;> by_cases h2 : j < L.length
    · rw [up_lt h1, up_lt h2] at he; exact c10.1 i j h1 h2 he
    · rw [up_lt h1, show j = L.length by omega, va_up_self] at he; exact absurd he (hqn i h1)
    · rw [up_lt h2, show i = L.length by omega, va_up_self] at he; exact absurd he.symm (hqn j h2)
    · omega
  · intro k y hy
    rw [hl2]
    by_cases h1 : k < L.length
    · rw [List.getElem?_append_left h1] at hy; exact okX_mono (Nat.le_succ _) (c10.2 k y hy)
    · rw [List.getElem?_append_right (by omega)] at hy
      have h0 : k - L.length < 1 := (List.getElem?_eq_some_iff.mp hy).1
      rw [show k - L.length = 0 by omega] at hy
      cases hy
      exact okX_mono (Nat.le_succ _) hx
theorem grown_S {A B : Nat → Prop} {H0 H : Heap} {locs : List Loc} (h : ∀ z, A z → B z) (hS : va_S A H0 H locs) : va_S B H0 H locs := ⟨hS.1, fun q h1 h2 => hS.2.1 q h1 (fun z => h2 (h q z)), fun q hq => h _ (hS.2.2 q hq)⟩
theorem hat_gen {L L2 : List Lay} {x : Lay} (h : L ++ [x] = L2) : L2[L.length]? = some x := by
  subst h
  rw [List.getElem?_append_right (Nat.le_refl _), Nat.sub_self]
  rfl
theorem LU_len : LU.length = 61 := rfl
theorem ge61 {ex : List Lay} : 61 ≤ (LU ++ ex).length := by rw [List.length_append, LU_len]; exact Nat.le_add_right _ _
theorem go_newzG {L2 : List Lay} {kh : Nat} (hkh : L.length = kh) (hL2 : L ++ [.inl (2, 8, 0)] = L2) (C : Cx p s m args meth c cc nL ret own D cA ad L) (pc pc2 : Nat) (hArr : Cond.arrayClass .boolean ∈ T0) {cells2 slots2 : Nat} (hd : decode cc pc = .ok (.newarray .boolean, 2)) (hp : pc + 2 = pc2) (hcl : cells + 1 ≤ R.cells) (hsl : slots + 8 ≤ R.slots) (hc2 : cells + 1 = cells2) (hs2 : slots + 8 = slots2)
    (k : ∀ (ad2 : Nat → Nat), Cx p s m args meth c cc nL ret own D cA ad2 L2 → (∀ i, i < kh → ad i = ad2 i) → (∀ (c2 s2 : Nat) (S2 : St) (pc3 : Nat) (lv3 : List (Nat × Value)) (st3 : List Value), Go p l e R s m args below meth c D cA ad L nL c2 s2 Q S2 pc3 lv3 st3 → Go p l e R s m args below meth c D cA ad2 L2 nL c2 s2 Q S2 pc3 lv3 st3) → Go p l e R s m args below meth c D cA ad2 L2 nL cells2 slots2 Q (uZ S kh) pc2 lv (.ref (ad2 kh) :: st)) : Go p l e R s m args below meth c D cA ad L nL cells slots Q S pc lv (.int 8 :: st) := by
  subst hL2
  subst hkh
  subst hp
  subst hc2
  subst hs2
  intro H locs ls hP hS hl
  refine va_newa (atype := .boolean) (ty := .boolean) (a0 := (8, .inl (fun _ => 0))) C.1 C.2.1 (C.2.2.2.2.2.2.1 _ hArr) rfl C.2.2.2.2.2.2.2.1 hP (wld_D C.2.2.2.2.2.2.2.2.2.1) hS (fun q h => Or.inr h) (fun _ => rfl) (by decide) (by decide) (by decide) hcl hsl hd (fun q cB H1 hK1 hP1 hD1 hS1 => ?_)
  have ecB : cB = cA 2 := by
    have h1 := (hK1.2 5 (cB, .boolean) rfl).2
    have h2 := (hK1.2 2 (cA 2, .boolean) rfl).2
    exact Option.some.inj (h1.symm.trans h2)
  subst ecB
  obtain ⟨C2, hA1, hA2⟩ := grown (x := .inl (2, 8, 0)) C (fun h => by rcases h with h | h <;> cases h) hD1
  have hok := C.2.2.2.2.2.2.2.2.2.1.2
  have hsh : ∀ (c2 s2 : Nat) (S2 : St) (pc3 : Nat) (lv3 : List (Nat × Value)) (st3 : List Value), Go p l e R s m args below meth c D cA ad L nL c2 s2 Q S2 pc3 lv3 st3 → Go p l e R s m args below meth c D cA (va_up ad L.length q) (L ++ [.inl (2, 8, 0)]) nL c2 s2 Q S2 pc3 lv3 st3 := by
    intro c2 s2 S2 pc3 lv3 st3 g H3 locs3 ls3 hP3 hS3 hl3
    exact g H3 locs3 ls3 (wld_pre (x := .inl (2, 8, 0)) hok (fun i hi => up_lt hi) hP3) (grown_S hA2 hS3) hl3
  have hrow : ((uZ S L.length)).1 L.length = (fun _ => 0) := funext fun _ => if_pos rfl
  have hPn : va_P D vwCl (wld cA (va_up ad L.length q) (L ++ [.inl (2, 8, 0)]) ((uZ S L.length))) H1 := by
    refine wld_post (S := S) (e := .inl (cA 2, 8, .inl (fun _ => 0))) hok (fun i hi => up_lt hi) (va_up_self _ _ _) ?_ (fun j hj => ⟨funext fun _ => if_neg hj, rfl⟩) hP1
    show Sum.inl (cA 2, 8, Sum.inl (((uZ S L.length)).1 L.length)) = _
    rw [hrow]
  have z := k (va_up ad L.length q) C2 (fun i hi => (up_lt hi).symm) hsh H1 locs ls hPn (grown_S hA1 hS1) hl
  rw [show va_up ad L.length q L.length = q from va_up_self _ _ _] at z
  exact z
theorem go_cloneG {L2 : List Lay} {kh : Nat} (hkh : L.length = kh) (hL2 : L ++ [.inl (0, 8, 0)] = L2) (C : Cx p s m args meth c cc nL ret RX6 D cA ad L) (pc pc2 k0 : Nat) (hk : L[k0]? = some (.inl (0, 8, 0))) (h61 : k0 < 61) {cells2 slots2 : Nat} (hd : decode cc pc = .ok (.invokevirtual 160, 3)) (hd2 : decode cc (pc + 3) = .ok (.checkcast 161, 3)) (hp : pc + 3 + 3 = pc2) (hfr : 1 ≤ R.frames) (hlo : 8 + 14 ≤ R.locals) (hcl : cells + 1 ≤ R.cells) (hsl : slots + 8 ≤ R.slots) (hc2 : cells + 1 = cells2) (hs2 : slots + 8 = slots2) (hst : (st.map fun v => v.category).sum ≤ 8)
    (k : ∀ (ad2 : Nat → Nat), Cx p s m args meth c cc nL ret RX6 D cA ad2 L2 → (∀ i, i < kh → ad i = ad2 i) → (∀ (c2 s2 : Nat) (S2 : St) (pc3 : Nat) (lv3 : List (Nat × Value)) (st3 : List Value), Go p l e R s m args below meth c D cA ad L nL c2 s2 Q S2 pc3 lv3 st3 → Go p l e R s m args below meth c D cA ad2 L2 nL c2 s2 Q S2 pc3 lv3 st3) → Go p l e R s m args below meth c D cA ad2 L2 nL cells2 slots2 Q (uC S kh k0) pc2 lv (.ref (ad2 kh) :: st)) : Go p l e R s m args below meth c D cA ad L nL cells slots Q S pc lv (.ref (ad k0) :: st) := by
  subst hL2
  subst hkh
  subst hp
  subst hc2
  subst hs2
  intro H locs ls hP hS hl
  have hnm : s.vm.findClass "[I" = some (cA 0) := (C.2.2.2.2.2.2.2.1.2 0 _ rfl).2
  refine va_clone (x := (8, .inl (S.1 k0))) C.1 C.2.1 (C.2.2.1.trans hl.1.symm) C.2.2.2.2.2.1 (C.2.2.2.2.2.2.1 _ kClLink) (C.2.2.2.2.2.2.1 _ kClSame) (C.2.2.2.2.2.2.1 _ kClNat) (C.2.2.2.2.2.2.1 _ kClInst) (C.2.2.2.2.2.2.1 _ kClSel) (C.2.2.2.2.2.2.2.2.1 _ kClCast) C.2.2.2.2.2.2.2.1 hP (wld_D C.2.2.2.2.2.2.2.2.2.1) hS (fun q h => Or.inr h) k0 0 (wld_get hk) rfl hnm ?_ hfr (by omega) hcl hsl hd (fun q H1 hK1 hP1 hD1 hS1 => ?_)
  · intro i v hv
    have hlt : i < 8 := by
      have h9 := (Array.getElem?_eq_some_iff.mp hv).1
      exact Nat.lt_of_lt_of_eq h9 (arrV_size _ _ _)
    have h7 : (vp_cell (cA 0) ((8, .inl (S.1 k0)) : vp_A)).slots[i]? = some (.int (S.1 k0 i)) := arrV_read _ _ hlt
    have h6 := h7.symm.trans hv
    cases h6
    rfl
  obtain ⟨C2, hA1, hA2⟩ := grown (x := .inl (0, 8, 0)) C (fun h => by rcases h with h | h <;> cases h) hD1
  have hok := C.2.2.2.2.2.2.2.2.2.1.2
  have hlen : (wld cA ad L S).length = L.length := by unfold wld; rw [List.length_mapIdx]
  refine va_castA C.1 C.2.1 C.2.2.2.2.2.1 (C.2.2.2.2.2.2.1 _ kClClass) hP1 L.length (x := (8, .inl (S.1 k0))) (by rw [List.getElem?_append_right (by rw [hlen]; exact Nat.le_refl _), hlen, Nat.sub_self]; rfl) hnm hd2 ?_
  have hsh : ∀ (c2 s2 : Nat) (S2 : St) (pc3 : Nat) (lv3 : List (Nat × Value)) (st3 : List Value), Go p l e R s m args below meth c D cA ad L nL c2 s2 Q S2 pc3 lv3 st3 → Go p l e R s m args below meth c D cA (va_up ad L.length q) (L ++ [.inl (0, 8, 0)]) nL c2 s2 Q S2 pc3 lv3 st3 := by
    intro c2 s2 S2 pc3 lv3 st3 g H3 locs3 ls3 hP3 hS3 hl3
    exact g H3 locs3 ls3 (wld_pre (x := .inl (0, 8, 0)) hok (fun i hi => up_lt hi) hP3) (grown_S hA2 hS3) hl3
  have hrow : ((uC S L.length k0)).1 L.length = (S.1 k0) := funext fun _ => if_pos rfl
  have hPn : va_P D vwCl (wld cA (va_up ad L.length q) (L ++ [.inl (0, 8, 0)]) ((uC S L.length k0))) H1 := by
    refine wld_post (S := S) (e := .inl (cA 0, 8, .inl (S.1 k0))) hok (fun i hi => up_lt hi) (va_up_self _ _ _) ?_ (fun j hj => ⟨funext fun _ => if_neg hj, rfl⟩) hP1
    show Sum.inl (cA 0, 8, Sum.inl (((uC S L.length k0)).1 L.length)) = _
    rw [hrow]
  have z := k (va_up ad L.length q) C2 (fun i hi => (up_lt hi).symm) hsh H1 locs ls hPn (grown_S hA1 hS1) hl
  rw [show va_up ad L.length q L.length = q from va_up_self _ _ _] at z
  exact z
theorem go_newz {ex : List Lay} (C : Cx p s m args meth c cc nL ret own D cA ad (LU ++ ex)) (pc pc2 : Nat) (hArr : Cond.arrayClass .boolean ∈ T0) {cells2 slots2 : Nat} (hd : decode cc pc = .ok (.newarray .boolean, 2)) (hp : pc + 2 = pc2) (hcl : cells + 1 ≤ R.cells) (hsl : slots + 8 ≤ R.slots) (hc2 : cells + 1 = cells2) (hs2 : slots + 8 = slots2)
    (k : ∀ (ad2 : Nat → Nat) (ex2 : List Lay) (kh : Nat), 61 ≤ kh → (LU ++ ex).length ≤ kh → Cx p s m args meth c cc nL ret own D cA ad2 (LU ++ ex2) → (LU ++ ex2)[kh]? = some (.inl (2, 8, 0)) → (∀ i, i < 61 → ad i = ad2 i) → (∀ (c2 s2 : Nat) (S2 : St) (pc3 : Nat) (lv3 : List (Nat × Value)) (st3 : List Value), Go p l e R s m args below meth c D cA ad (LU ++ ex) nL c2 s2 Q S2 pc3 lv3 st3 → Go p l e R s m args below meth c D cA ad2 (LU ++ ex2) nL c2 s2 Q S2 pc3 lv3 st3) → Go p l e R s m args below meth c D cA ad2 (LU ++ ex2) nL cells2 slots2 Q (uZ S kh) pc2 lv (.ref (ad2 kh) :: st)) : Go p l e R s m args below meth c D cA ad (LU ++ ex) nL cells slots Q S pc lv (.int 8 :: st) := by
  obtain ⟨kh, hkh⟩ : ∃ kh, (LU ++ ex).length = kh := ⟨_, rfl⟩
  obtain ⟨ex2, hex⟩ : ∃ ex2, ex ++ [.inl (2, 8, 0)] = ex2 := ⟨_, rfl⟩
  have h1 : (LU ++ ex) ++ [.inl (2, 8, 0)] = LU ++ ex2 := by rw [← hex]; exact List.append_assoc LU ex [.inl (2, 8, 0)]
  have h2 : (LU ++ ex2)[kh]? = some (.inl (2, 8, 0)) := by rw [← hkh]; exact hat_gen h1
  have h3 : 61 ≤ kh := by rw [← hkh]; exact ge61
  exact go_newzG hkh h1 C pc pc2 hArr hd hp hcl hsl hc2 hs2 (fun ad2 C2 had hsh => k ad2 ex2 kh h3 (Nat.le_of_eq hkh) C2 h2 (fun i hi => had i (Nat.lt_of_lt_of_le hi h3)) hsh)
theorem go_clone {ex : List Lay} (C : Cx p s m args meth c cc nL ret RX6 D cA ad (LU ++ ex)) (pc pc2 k0 : Nat) (hk : (LU ++ ex)[k0]? = some (.inl (0, 8, 0))) (h61 : k0 < 61) {cells2 slots2 : Nat} (hd : decode cc pc = .ok (.invokevirtual 160, 3)) (hd2 : decode cc (pc + 3) = .ok (.checkcast 161, 3)) (hp : pc + 3 + 3 = pc2) (hfr : 1 ≤ R.frames) (hlo : 8 + 14 ≤ R.locals) (hcl : cells + 1 ≤ R.cells) (hsl : slots + 8 ≤ R.slots) (hc2 : cells + 1 = cells2) (hs2 : slots + 8 = slots2) (hst : (st.map fun v => v.category).sum ≤ 8)
    (k : ∀ (ad2 : Nat → Nat) (ex2 : List Lay) (kh : Nat), 61 ≤ kh → (LU ++ ex).length ≤ kh → Cx p s m args meth c cc nL ret RX6 D cA ad2 (LU ++ ex2) → (LU ++ ex2)[kh]? = some (.inl (0, 8, 0)) → (∀ i, i < 61 → ad i = ad2 i) → (∀ (c2 s2 : Nat) (S2 : St) (pc3 : Nat) (lv3 : List (Nat × Value)) (st3 : List Value), Go p l e R s m args below meth c D cA ad (LU ++ ex) nL c2 s2 Q S2 pc3 lv3 st3 → Go p l e R s m args below meth c D cA ad2 (LU ++ ex2) nL c2 s2 Q S2 pc3 lv3 st3) → Go p l e R s m args below meth c D cA ad2 (LU ++ ex2) nL cells2 slots2 Q (uC S kh k0) pc2 lv (.ref (ad2 kh) :: st)) : Go p l e R s m args below meth c D cA ad (LU ++ ex) nL cells slots Q S pc lv (.ref (ad k0) :: st) := by
  obtain ⟨kh, hkh⟩ : ∃ kh, (LU ++ ex).length = kh := ⟨_, rfl⟩
  obtain ⟨ex2, hex⟩ : ∃ ex2, ex ++ [.inl (0, 8, 0)] = ex2 := ⟨_, rfl⟩
  have h1 : (LU ++ ex) ++ [.inl (0, 8, 0)] = LU ++ ex2 := by rw [← hex]; exact List.append_assoc LU ex [.inl (0, 8, 0)]
  have h2 : (LU ++ ex2)[kh]? = some (.inl (0, 8, 0)) := by rw [← hkh]; exact hat_gen h1
  have h3 : 61 ≤ kh := by rw [← hkh]; exact ge61
  exact go_cloneG hkh h1 C pc pc2 k0 hk h61 hd hd2 hp hfr hlo hcl hsl hc2 hs2 hst (fun ad2 C2 had hsh => k ad2 ex2 kh h3 (Nat.le_of_eq hkh) C2 h2 (fun i hi => had i (Nat.lt_of_lt_of_le hi h3)) hsh)
end AL
