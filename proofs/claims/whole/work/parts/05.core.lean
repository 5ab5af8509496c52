/-! ===== the memory of a run as two tables (ints, longs), one list of cells for class and reference; the judgement Go ===== -/
def T0 : List Cond := lw_tbl.filter goodWord
theorem in_T0 {w : Cond} (k : Nat) (h : lw_tbl[k]? = some w) (hg : goodWord w = true) : w ∈ T0 := List.mem_filter.mpr ⟨List.mem_of_getElem? h, hg⟩
theorem T0_call {y : MethodName} {b : ByteArray} {n : Nat} {r : Option FieldType} (h : Cond.code y b n r ∈ T0) : GoodIn T0 (Cond.code y b n r :: T0) := by
  have g : GoodIn T0 T0 := fun w hw => ⟨hw, good_of_word (List.mem_filter.mp hw).2⟩
  intro w hw
  rcases List.mem_cons.mp hw with e | hw
  · subst e; exact g _ h
  · exact g w hw
def isNest : Cond → Bool
  | .fieldLinkNest _ _ _ _ _ _ => true
  | .methodLinkNest _ _ _ _ => true
  | .castable _ _ => true
  | _ => false
def N0 : List Cond := lw_tbl.filter isNest
theorem in_N0 {w : Cond} (k : Nat) (h : lw_tbl[k]? = some w) (hg : isNest w = true) : w ∈ N0 := List.mem_filter.mpr ⟨List.mem_of_getElem? h, hg⟩
theorem N0_tab {w : Cond} (h : isNest w = true) : w.onTables = true := by
  cases w <;> first | rfl | (simp [isNest] at h)
theorem N0_warm {s U : State} (hW : s.WarmedH U.vm) {w : Cond} (h : isNest w = true) (hZ : va_Nw w s) : va_Nw w U := by
  cases w <;> first | (simp [isNest] at h; done) | exact va_Nw.warmF hW hZ | exact va_Nw.warmM hW hZ | exact va_Nw.warmC hW hZ
abbrev St : Type := (Nat → Nat → Int32) × (Nat → Nat → Int64)
def uI (S : St) (k j : Nat) (v : Int32) : St := (fun a b => if a = k ∧ b = j then v else S.1 a b, S.2)
def uJ (S : St) (k j : Nat) (v : Int64) : St := (S.1, fun a b => if a = k ∧ b = j then v else S.2 a b)
/-- a cell's layout: an array (its kind 0 int, 1 long, 2 boolean, 3 int[][], 4 long[][]; its length; where its rows begin), or an object (its class, a kind for each field: 0 int, 1 long, 2 + p the cell p) -/
abbrev Lay : Type := (Nat × Nat × Nat) ⊕ (Nat × List Nat)
def lval (ad : Nat → Nat) (S : St) (k j : Nat) : Nat → Value
  | 0 => .int (S.1 k j)
  | 1 => .long (S.2 k j)
  | n + 2 => .ref (ad n)
def larr (ad : Nat → Nat) (S : St) (k len base : Nat) : Nat → vp_A
  | 1 => (len, .inr (.inl (S.2 k)))
  | 3 => (len, .inr (.inr (.inr (.inr (fun i => if i < len then some (ad (base + i)) else none)))))
  | 4 => (len, .inr (.inr (.inr (.inr (fun i => if i < len then some (ad (base + i)) else none)))))
  | _ => (len, .inl (S.1 k))
def lcell (cA : Nat → ClassId) (ad : Nat → Nat) (S : St) (k : Nat) : Lay → va_E
  | .inl x => .inl (cA x.1, larr ad S k x.2.1 x.2.2 x.1)
  | .inr o => .inr (o.1, o.2.mapIdx (fun j q => lval ad S k j q))
def wld (cA : Nat → ClassId) (ad : Nat → Nat) (L : List Lay) (S : St) : va_W := L.mapIdx (fun k x => (ad k, lcell cA ad S k x))
def wA (ad : Nat → Nat) (L : List Lay) (sz : Nat) : Nat → Prop := fun q => (∃ k, k < L.length ∧ q = ad k) ∨ sz ≤ q
def tysA (cA : Nat → ClassId) : List (ClassId × FieldType) := [(cA 0, .int), (cA 1, .long), (cA 2, .boolean), (cA 3, .array .int), (cA 4, .array .long)]
theorem wld_get {cA : Nat → ClassId} {ad : Nat → Nat} {L : List Lay} {S : St} {k : Nat} {x : Lay} (h : L[k]? = some x) : (wld cA ad L S)[k]? = some (ad k, lcell cA ad S k x) := by
  unfold wld
  rw [List.getElem?_mapIdx, h]
  rfl
theorem wld_inv {cA : Nat → ClassId} {ad : Nat → Nat} {L : List Lay} {S : St} {k : Nat} {q : Nat × va_E} (h : (wld cA ad L S)[k]? = some q) : ∃ x, L[k]? = some x ∧ q = (ad k, lcell cA ad S k x) := by
  unfold wld at h
  rw [List.getElem?_mapIdx] at h
  cases hx : L[k]? with
  | none => rw [hx] at h; cases h
  | some x => rw [hx] at h; exact ⟨x, rfl, (Option.some.inj h).symm⟩
theorem lay_lt {L : List Lay} {k : Nat} {x : Lay} (h : L[k]? = some x) : k < L.length := (List.getElem?_eq_some_iff.mp h).1
def okX (N : Nat) : Lay → Prop
  | .inl a => (a.1 = 3 ∨ a.1 = 4) → a.2.2 + a.2.1 ≤ N
  | .inr o => ∀ q ∈ o.2, q < N + 2
def inj (ad : Nat → Nat) (L : List Lay) : Prop := (∀ i j, i < L.length → j < L.length → ad i = ad j → i = j) ∧ ∀ (k : Nat) (x : Lay), L[k]? = some x → okX L.length x
theorem wld_D {cA : Nat → ClassId} {ad : Nat → Nat} {L : List Lay} {S : St} {sz : Nat} (hi : inj ad L) : va_D (wA ad L sz) (wld cA ad L S) := by
  refine ⟨fun i j p q h1 h2 e => ?_, fun k q h => ?_⟩
  · obtain ⟨x, hx, rfl⟩ := wld_inv h1
    obtain ⟨y, hy, rfl⟩ := wld_inv h2
    exact hi.1 i j (lay_lt hx) (lay_lt hy) e
  · obtain ⟨x, hx, rfl⟩ := wld_inv h
    exact Or.inl ⟨k, lay_lt hx, rfl⟩
theorem uI_ne {S : St} {k j a b : Nat} {v : Int32} (h : ¬ (a = k ∧ b = j)) : (uI S k j v).1 a b = S.1 a b := if_neg h
theorem uI_at {S : St} {k j : Nat} {v : Int32} : (uI S k j v).1 k j = v := if_pos ⟨rfl, rfl⟩
theorem uI_row {S : St} {k j a : Nat} {v : Int32} (h : a ≠ k) : (uI S k j v).1 a = S.1 a := funext fun _ => if_neg (fun q => h q.1)
theorem uJ_ne {S : St} {k j a b : Nat} {v : Int64} (h : ¬ (a = k ∧ b = j)) : (uJ S k j v).2 a b = S.2 a b := if_neg h
theorem uJ_at {S : St} {k j : Nat} {v : Int64} : (uJ S k j v).2 k j = v := if_pos ⟨rfl, rfl⟩
theorem uJ_row {S : St} {k j a : Nat} {v : Int64} (h : a ≠ k) : (uJ S k j v).2 a = S.2 a := funext fun _ => if_neg (fun q => h q.1)
theorem lval_at {ad : Nat → Nat} {S S' : St} {k j q : Nat} (h1 : S'.1 k j = S.1 k j) (h2 : S'.2 k j = S.2 k j) : lval ad S' k j q = lval ad S k j q := by
  match q with
  | 0 => simp [lval, h1]
  | 1 => simp [lval, h2]
  | n + 2 => rfl
theorem lcell_same {cA : Nat → ClassId} {ad : Nat → Nat} {S S' : St} {k : Nat} {x : Lay} (h1 : S'.1 k = S.1 k) (h2 : S'.2 k = S.2 k) : lcell cA ad S' k x = lcell cA ad S k x := by
  cases x with
  | inl x =>
    show Sum.inl (cA x.1, larr ad S' k x.2.1 x.2.2 x.1) = Sum.inl (cA x.1, larr ad S k x.2.1 x.2.2 x.1)
    have e : larr ad S' k x.2.1 x.2.2 x.1 = larr ad S k x.2.1 x.2.2 x.1 := by unfold larr; rw [h1, h2]
    rw [e]
  | inr o =>
    have e : (fun j q => lval ad S' k j q) = (fun j q => lval ad S k j q) := by
      funext j q
      exact lval_at (by rw [h1]) (by rw [h2])
    show Sum.inr (o.1, o.2.mapIdx _) = Sum.inr (o.1, o.2.mapIdx _)
    rw [e]
theorem wld_set {cA : Nat → ClassId} {ad : Nat → Nat} {L : List Lay} {S S' : St} {k : Nat} {x : Lay} {e : va_E} (hk : L[k]? = some x) (he : lcell cA ad S' k x = e) (ho : ∀ j, j ≠ k → S'.1 j = S.1 j ∧ S'.2 j = S.2 j) : (wld cA ad L S).set k (ad k, e) = wld cA ad L S' := by
  apply List.ext_getElem?
  intro i
  rw [List.getElem?_set]
  by_cases h : k = i
  · subst h
    rw [if_pos rfl, wld_get hk, he, if_pos]
    unfold wld
    rw [List.length_mapIdx]
    exact lay_lt hk
  · rw [if_neg h]
    unfold wld
    rw [List.getElem?_mapIdx, List.getElem?_mapIdx]
    cases L[i]? with
    | none => rfl
    | some y =>
      have hh := ho i (fun q => h q.symm)
      show some (ad i, lcell cA ad S i y) = some (ad i, lcell cA ad S' i y)
      rw [lcell_same hh.1 hh.2]
theorem uI_other {S : St} {k i : Nat} {v : Int32} : ∀ j, j ≠ k → (uI S k i v).1 j = S.1 j ∧ (uI S k i v).2 j = S.2 j := fun _ h => ⟨uI_row h, rfl⟩
theorem uJ_other {S : St} {k i : Nat} {v : Int64} : ∀ j, j ≠ k → (uJ S k i v).1 j = S.1 j ∧ (uJ S k i v).2 j = S.2 j := fun _ h => ⟨rfl, uJ_row h⟩
theorem uI_upd {S : St} {k i : Nat} {v : Int32} : (uI S k i v).1 k = upd (S.1 k) i v := by
  funext j
  by_cases h : j = i <;> simp [uI, upd, h]
theorem uJ_upd {S : St} {k i : Nat} {v : Int64} : (uJ S k i v).2 k = vp_updL (S.2 k) i v := by
  funext j
  by_cases h : j = i <;> simp [uJ, vp_updL, h]
theorem obj_set {ad : Nat → Nat} {S S' : St} {k j q : Nat} {fs : List Nat} {v : Value} (hj : fs[j]? = some q) (hv : lval ad S' k j q = v) (ho : ∀ i, i ≠ j → S'.1 k i = S.1 k i ∧ S'.2 k i = S.2 k i) : fs.mapIdx (fun j q => lval ad S' k j q) = (fs.mapIdx (fun j q => lval ad S k j q)).set j v := by
  apply List.ext_getElem?
  intro i
  rw [List.getElem?_set, List.getElem?_mapIdx]
  by_cases h : j = i
  · subst h
    rw [if_pos rfl, hj, if_pos]
    · show some (lval ad S' k j q) = some v
      rw [hv]
    · rw [List.length_mapIdx]
      exact (List.getElem?_eq_some_iff.mp hj).1
  · rw [if_neg h, List.getElem?_mapIdx]
    cases fs[i]? with
    | none => rfl
    | some z =>
      have hh := ho i (fun q => h q.symm)
      show some (lval ad S' k i z) = some (lval ad S k i z)
      rw [lval_at hh.1 hh.2]
/-! what every method may use of the tables and of the one static row -/
def factT (j : Nat) : Int64 := ([1, 1, 2, 6, 24, 120, 720, 5040, 40320] : List Int64).getD j 0
def Tz (A : Nat → Prop) (U : State) (H : Heap) : Prop := ∃ t : Nat, va_Z "BillHouse" "FACTORIALS" "[J" (.ref t) A U H ∧ va_T .long t 9 (fun j => .long (factT j)) A U H
def Ev (D : va_G) (cA : Nat → ClassId) (ad : Nat → Nat) (L : List Lay) (U : State) : Prop :=
  va_K D vwCl (tysA cA) U ∧ (∀ w ∈ N0, va_Nw w U) ∧ inj ad L ∧ Tz (wA ad L U.heap.size) U U.heap
def Pre (D : va_G) (cA : Nat → ClassId) (ad : Nat → Nat) (L : List Lay) (S : St) (sz : Nat) (U : State) : Prop :=
  U.heap.size = sz ∧ va_P D vwCl (wld cA ad L S) U.heap ∧ Ev D cA ad L U
def Wat (D : va_G) (cA : Nat → ClassId) (ad : Nat → Nat) (L : List Lay) (S : St) (t : State) : Prop := va_P D vwCl (wld cA ad L S) t.heap
def MetI (l : Launch) (y : MethodName) (cc : ByteArray) (nL : Nat) (ret : Option FieldType) (rm : Room) (D : va_G) (cA : Nat → ClassId) (ad : Nat → Nat) (L : List Lay) (av : List Value) (S : St) (post : Int32 → St → Prop) (mc ms : Nat) : Prop :=
  ∀ sz : Nat, Met l y (Cond.code y cc nL ret :: T0) rm (va_Pc av (Pre D cA ad L S sz)) (va_Qi post (Wat D cA ad L) (wA ad L sz)) mc ms (wA ad L sz)
def MetL (l : Launch) (y : MethodName) (cc : ByteArray) (nL : Nat) (ret : Option FieldType) (rm : Room) (D : va_G) (cA : Nat → ClassId) (ad : Nat → Nat) (L : List Lay) (av : List Value) (S : St) (post : Int64 → St → Prop) (mc ms : Nat) : Prop :=
  ∀ sz : Nat, Met l y (Cond.code y cc nL ret :: T0) rm (va_Pc av (Pre D cA ad L S sz)) (va_Ql post (Wat D cA ad L) (wA ad L sz)) mc ms (wA ad L sz)
def MetV (l : Launch) (y : MethodName) (cc : ByteArray) (nL : Nat) (ret : Option FieldType) (rm : Room) (D : va_G) (cA : Nat → ClassId) (ad : Nat → Nat) (L : List Lay) (av : List Value) (S : St) (post : St → Prop) (mc ms : Nat) : Prop :=
  ∀ sz : Nat, Met l y (Cond.code y cc nL ret :: T0) rm (va_Pc av (Pre D cA ad L S sz)) (va_Qv post (Wat D cA ad L) (wA ad L sz)) mc ms (wA ad L sz)
def QI (D : va_G) (cA : Nat → ClassId) (ad : Nat → Nat) (L : List Lay) (below : List Frame) (args : Array Value) (s : State) (mc ms : Nat) (post : Int32 → St → Prop) : State → Prop := MQ below (va_Qi post (Wat D cA ad L) (wA ad L s.heap.size)) args s mc ms (wA ad L s.heap.size)
def QL (D : va_G) (cA : Nat → ClassId) (ad : Nat → Nat) (L : List Lay) (below : List Frame) (args : Array Value) (s : State) (mc ms : Nat) (post : Int64 → St → Prop) : State → Prop := MQ below (va_Ql post (Wat D cA ad L) (wA ad L s.heap.size)) args s mc ms (wA ad L s.heap.size)
def QV (D : va_G) (cA : Nat → ClassId) (ad : Nat → Nat) (L : List Lay) (below : List Frame) (args : Array Value) (s : State) (mc ms : Nat) (post : St → Prop) : State → Prop := MQ below (va_Qv post (Wat D cA ad L) (wA ad L s.heap.size)) args s mc ms (wA ad L s.heap.size)
theorem Tz.moved {A : Nat → Prop} {u U : State} {H : Heap} (hvm : u.vm.Alike U.vm) (h : Tz A u H) : Tz A U H := by
  obtain ⟨t, h1, h2⟩ := h
  exact ⟨t, h1.moved hvm, h2.moved hvm⟩
theorem Tz.kept {A : Nat → Prop} {U : State} {H H1 : Heap} (h : Tz A U H) (hq : ∀ a : Nat, a < H.size → ¬ A a → H1[a]? = H[a]?) : Tz A U H1 := by
  obtain ⟨t, h1, h2⟩ := h
  exact ⟨t, h1.kept hq, h2.kept hq⟩
theorem Tz.narrow {A B : Nat → Prop} {U : State} {H : Heap} (h : Tz A U H) (hAB : ∀ q, B q → A q) : Tz B U H := by
  obtain ⟨t, h1, h2⟩ := h
  exact ⟨t, h1.narrow hAB, h2.narrow hAB⟩
theorem wA_mono {ad : Nat → Nat} {L : List Lay} {a b : Nat} (h : a ≤ b) : ∀ q, wA ad L b q → wA ad L a q := fun q hq => hq.elim Or.inl (fun z => Or.inr (Nat.le_trans h z))
theorem Ev.blind {D : va_G} {cA : Nat → ClassId} {ad : Nat → Nat} {L : List Lay} {U V : State} (h : Ev D cA ad L U) (hv : U.vm = V.vm) (hh : V.heap = U.heap) : Ev D cA ad L V := by
  obtain ⟨h1, h2, h3, h4⟩ := h
  have ha : U.vm.Alike V.vm := by rw [hv]; exact Vm.Alike.refl _
  refine ⟨va_K.moved ha h1, fun w hw => va_Nw.same (N0_tab (List.mem_filter.mp hw).2) hv (h2 w hw), h3, ?_⟩
  rw [hh]
  exact h4.moved ha
theorem Ev.warm {D : va_G} {cA : Nat → ClassId} {ad : Nat → Nat} {L : List Lay} {s U : State} {H : Heap} {locs : List Loc} (h : Ev D cA ad L s) (hW : s.WarmedH U.vm) (hU : U.heap = H) (hS : va_S (wA ad L s.heap.size) s.heap H locs) : Ev D cA ad L U := by
  obtain ⟨h1, h2, h3, h4⟩ := h
  refine ⟨va_K.moved hW.alike h1, fun w hw => N0_warm hW (List.mem_filter.mp hw).2 (h2 w hw), h3, ?_⟩
  rw [hU]
  exact ((h4.kept hS.2.1).moved hW.alike).narrow (wA_mono hS.1)
theorem Pre.blind {D : va_G} {cA : Nat → ClassId} {ad : Nat → Nat} {L : List Lay} {S : St} {sz : Nat} {av : List Value} : FrameBlind (va_Pc av (Pre D cA ad L S sz)) := by
  intro a U g mk q
  obtain ⟨q0, q1, q2, q3⟩ := q
  exact ⟨q0, q1, q2, q3.blind rfl rfl⟩
def Cx (p : Program) (s : State) (m : MethodId) (args : Array Value) (meth : Method) (c : Code) (cc : ByteArray) (nL : Nat) (ret : Option FieldType) (own : String) (D : va_G) (cA : Nat → ClassId) (ad : Nat → Nat) (L : List Lay) : Prop :=
  p.tables.exec = Jvm.exec ∧ c.code = cc ∧ c.maxLocals = nL ∧ meth.sig.returnType = ret ∧ meth.locks = false ∧ s.vm.findClass own = some m.cls ∧ (∀ w ∈ T0, w.before args s = true) ∧ Ev D cA ad L s
def Go (p : Program) (l : Launch) (e : Env) (R : Room) (s : State) (m : MethodId) (args : Array Value) (below : List Frame) (meth : Method) (c : Code) (D : va_G) (cA : Nat → ClassId) (ad : Nat → Nat) (L : List Lay) (nL cells slots : Nat) (Q : State → Prop) (S : St) (pc : Nat) (lv : List (Nat × Value)) (st : List Value) : Prop :=
  ∀ (H : Heap) (locs : List Loc) (ls : Array Slot), va_P D vwCl (wld cA ad L S) H → va_S (wA ad L s.heap.size) s.heap H locs → lv_has ls nL lv → W p l e R s m args below meth c H locs cells slots Q (F0 m pc ls st)
section GO
variable {p : Program} {l : Launch} {e : Env} {R : Room} {s : State} {m : MethodId} {args : Array Value} {below : List Frame} {meth : Method} {c : Code} {cc : ByteArray} {ret : Option FieldType} {own : String} {D : va_G} {cA : Nat → ClassId} {ad : Nat → Nat} {L : List Lay} {nL cells slots : Nat} {Q : State → Prop} {S : St} {lv : List (Nat × Value)} {st : List Value}

theorem go_iconst (C : Cx p s m args meth c cc nL ret own D cA ad L) (pc pc2 : Nat) {n : Int} (v : Int32) (hd : decode cc pc = .ok (.iconst n, 1)) (hv : Int32.ofInt n = v) (hp : pc + 1 = pc2) (k : Go p l e R s m args below meth c D cA ad L nL cells slots Q S pc2 lv (.int v :: st)) : Go p l e R s m args below meth c D cA ad L nL cells slots Q S pc lv st := by
  subst hp
  exact fun H locs ls hP hS hl => lv_iconst C.1 C.2.1 hd hv (k H locs ls hP hS hl)
theorem go_bipush (C : Cx p s m args meth c cc nL ret own D cA ad L) (pc pc2 : Nat) {n : Int} (v : Int32) (hd : decode cc pc = .ok (.bipush n, 2)) (hv : (Int8.ofInt n).toInt32 = v) (hp : pc + 2 = pc2) (k : Go p l e R s m args below meth c D cA ad L nL cells slots Q S pc2 lv (.int v :: st)) : Go p l e R s m args below meth c D cA ad L nL cells slots Q S pc lv st := by
  subst hp
  exact fun H locs ls hP hS hl => lv_bipush C.1 C.2.1 hd hv (k H locs ls hP hS hl)
theorem go_sipush (C : Cx p s m args meth c cc nL ret own D cA ad L) (pc pc2 : Nat) {n : Int} (v : Int32) (hd : decode cc pc = .ok (.sipush n, 3)) (hv : (Int16.ofInt n).toInt32 = v) (hp : pc + 3 = pc2) (k : Go p l e R s m args below meth c D cA ad L nL cells slots Q S pc2 lv (.int v :: st)) : Go p l e R s m args below meth c D cA ad L nL cells slots Q S pc lv st := by
  subst hp
  exact fun H locs ls hP hS hl => lv_sipush C.1 C.2.1 hd hv (k H locs ls hP hS hl)
theorem go_lconst (C : Cx p s m args meth c cc nL ret own D cA ad L) (pc pc2 : Nat) {n : Fin 2} (v : Int64) (hd : decode cc pc = .ok (.lconst n, 1)) (hv : Int64.ofNat (n : Nat) = v) (hp : pc + 1 = pc2) (k : Go p l e R s m args below meth c D cA ad L nL cells slots Q S pc2 lv (.long v :: st)) : Go p l e R s m args below meth c D cA ad L nL cells slots Q S pc lv st := by
  subst hp
  exact fun H locs ls hP hS hl => lv_lconst C.1 C.2.1 hd hv (k H locs ls hP hS hl)
theorem go_ldc (C : Cx p s m args meth c cc nL ret own D cA ad L) (pc pc2 : Nat) {i : Nat} {v : Int32} (hc : Cond.constant own i v ∈ T0) (hd : decode cc pc = .ok (.ldc i, 2)) (hp : pc + 2 = pc2) (k : Go p l e R s m args below meth c D cA ad L nL cells slots Q S pc2 lv (.int v :: st)) : Go p l e R s m args below meth c D cA ad L nL cells slots Q S pc lv st := by
  subst hp
  exact fun H locs ls hP hS hl => lv_ldc C.1 C.2.1 C.2.2.2.2.2.1 (C.2.2.2.2.2.2.1 _ hc) hd (k H locs ls hP hS hl)
theorem go_ldcw (C : Cx p s m args meth c cc nL ret own D cA ad L) (pc pc2 : Nat) {i : Nat} {v : Int32} (hc : Cond.constant own i v ∈ T0) (hd : decode cc pc = .ok (.ldc_w i, 3)) (hp : pc + 3 = pc2) (k : Go p l e R s m args below meth c D cA ad L nL cells slots Q S pc2 lv (.int v :: st)) : Go p l e R s m args below meth c D cA ad L nL cells slots Q S pc lv st := by
  subst hp
  exact fun H locs ls hP hS hl => lv_ldcw C.1 C.2.1 C.2.2.2.2.2.1 (C.2.2.2.2.2.2.1 _ hc) hd (k H locs ls hP hS hl)
theorem go_ldc2 (C : Cx p s m args meth c cc nL ret own D cA ad L) (pc pc2 : Nat) {i : Nat} {v : Int64} (hc : Cond.constantLong own i v ∈ T0) (hd : decode cc pc = .ok (.ldc2_w i, 3)) (hp : pc + 3 = pc2) (k : Go p l e R s m args below meth c D cA ad L nL cells slots Q S pc2 lv (.long v :: st)) : Go p l e R s m args below meth c D cA ad L nL cells slots Q S pc lv st := by
  subst hp
  exact fun H locs ls hP hS hl => lv_ldc2 C.1 C.2.1 C.2.2.2.2.2.1 (C.2.2.2.2.2.2.1 _ hc) hd (k H locs ls hP hS hl)
theorem go_iload_n (C : Cx p s m args meth c cc nL ret own D cA ad L) (pc pc2 : Nat) {k4 : Fin 4} (i q : Nat) {x : Int32} (hd : decode cc pc = .ok (.iload_n k4, 1)) (hi : (k4 : Nat) = i) (hq : lv[q]? = some (i, .int x)) (hp : pc + 1 = pc2) (k : Go p l e R s m args below meth c D cA ad L nL cells slots Q S pc2 lv (.int x :: st)) : Go p l e R s m args below meth c D cA ad L nL cells slots Q S pc lv st := by
  subst hp
  exact fun H locs ls hP hS hl => lv_iload_n C.1 C.2.1 hd hi (lv_at hl q hq) (k H locs ls hP hS hl)
theorem go_iload (C : Cx p s m args meth c cc nL ret own D cA ad L) (pc pc2 : Nat) (i q : Nat) {x : Int32} (hd : decode cc pc = .ok (.iload i, 2)) (hq : lv[q]? = some (i, .int x)) (hp : pc + 2 = pc2) (k : Go p l e R s m args below meth c D cA ad L nL cells slots Q S pc2 lv (.int x :: st)) : Go p l e R s m args below meth c D cA ad L nL cells slots Q S pc lv st := by
  subst hp
  exact fun H locs ls hP hS hl => lv_iload C.1 C.2.1 hd (lv_at hl q hq) (k H locs ls hP hS hl)
theorem go_lload_n (C : Cx p s m args meth c cc nL ret own D cA ad L) (pc pc2 : Nat) {k4 : Fin 4} (i q : Nat) {x : Int64} (hd : decode cc pc = .ok (.lload_n k4, 1)) (hi : (k4 : Nat) = i) (hq : lv[q]? = some (i, .long x)) (hp : pc + 1 = pc2) (k : Go p l e R s m args below meth c D cA ad L nL cells slots Q S pc2 lv (.long x :: st)) : Go p l e R s m args below meth c D cA ad L nL cells slots Q S pc lv st := by
  subst hp
  exact fun H locs ls hP hS hl => lv_lload_n C.1 C.2.1 hd hi (lv_at hl q hq) (k H locs ls hP hS hl)
theorem go_lload (C : Cx p s m args meth c cc nL ret own D cA ad L) (pc pc2 : Nat) (i q : Nat) {x : Int64} (hd : decode cc pc = .ok (.lload i, 2)) (hq : lv[q]? = some (i, .long x)) (hp : pc + 2 = pc2) (k : Go p l e R s m args below meth c D cA ad L nL cells slots Q S pc2 lv (.long x :: st)) : Go p l e R s m args below meth c D cA ad L nL cells slots Q S pc lv st := by
  subst hp
  exact fun H locs ls hP hS hl => lv_lload C.1 C.2.1 hd (lv_at hl q hq) (k H locs ls hP hS hl)
theorem go_aload_n (C : Cx p s m args meth c cc nL ret own D cA ad L) (pc pc2 : Nat) {k4 : Fin 4} (i q : Nat) {x : Nat} (hd : decode cc pc = .ok (.aload_n k4, 1)) (hi : (k4 : Nat) = i) (hq : lv[q]? = some (i, .ref x)) (hp : pc + 1 = pc2) (k : Go p l e R s m args below meth c D cA ad L nL cells slots Q S pc2 lv (.ref x :: st)) : Go p l e R s m args below meth c D cA ad L nL cells slots Q S pc lv st := by
  subst hp
  exact fun H locs ls hP hS hl => lv_aload_n C.1 C.2.1 hd hi (lv_at hl q hq) (k H locs ls hP hS hl)
theorem go_aload (C : Cx p s m args meth c cc nL ret own D cA ad L) (pc pc2 : Nat) (i q : Nat) {x : Nat} (hd : decode cc pc = .ok (.aload i, 2)) (hq : lv[q]? = some (i, .ref x)) (hp : pc + 2 = pc2) (k : Go p l e R s m args below meth c D cA ad L nL cells slots Q S pc2 lv (.ref x :: st)) : Go p l e R s m args below meth c D cA ad L nL cells slots Q S pc lv st := by
  subst hp
  exact fun H locs ls hP hS hl => lv_aload C.1 C.2.1 hd (lv_at hl q hq) (k H locs ls hP hS hl)
theorem go_istore_n (C : Cx p s m args meth c cc nL ret own D cA ad L) (pc pc2 : Nat) {k4 : Fin 4} (i : Nat) {x : Int32} (lv2 : List (Nat × Value)) (hd : decode cc pc = .ok (.istore_n k4, 1)) (hi : (k4 : Nat) = i) (hn : i < nL) (hf : (i, Value.int x) :: lv.filter (fun q => !(q.1 == i) && !(q.1 + 1 == i && q.2.category == 2)) = lv2) (hp : pc + 1 = pc2) (k : Go p l e R s m args below meth c D cA ad L nL cells slots Q S pc2 lv2 st) : Go p l e R s m args below meth c D cA ad L nL cells slots Q S pc lv (.int x :: st) := by
  subst hp
  exact fun H locs ls hP hS hl => lv_istore_n C.1 C.2.1 hd hi hl hn hf (fun ls2 hl2 => k H locs ls2 hP hS hl2)
theorem go_istore (C : Cx p s m args meth c cc nL ret own D cA ad L) (pc pc2 : Nat) (i : Nat) {x : Int32} (lv2 : List (Nat × Value)) (hd : decode cc pc = .ok (.istore i, 2)) (hn : i < nL) (hf : (i, Value.int x) :: lv.filter (fun q => !(q.1 == i) && !(q.1 + 1 == i && q.2.category == 2)) = lv2) (hp : pc + 2 = pc2) (k : Go p l e R s m args below meth c D cA ad L nL cells slots Q S pc2 lv2 st) : Go p l e R s m args below meth c D cA ad L nL cells slots Q S pc lv (.int x :: st) := by
  subst hp
  exact fun H locs ls hP hS hl => lv_istore C.1 C.2.1 hd hl hn hf (fun ls2 hl2 => k H locs ls2 hP hS hl2)
theorem go_lstore_n (C : Cx p s m args meth c cc nL ret own D cA ad L) (pc pc2 : Nat) {k4 : Fin 4} (i : Nat) {x : Int64} (lv2 : List (Nat × Value)) (hd : decode cc pc = .ok (.lstore_n k4, 1)) (hi : (k4 : Nat) = i) (hn : i + 1 < nL) (hf : (i, Value.long x) :: lv.filter (fun q => !(q.1 == i) && (!(q.1 == i + 1) && !(q.1 + 1 == i && q.2.category == 2))) = lv2) (hp : pc + 1 = pc2) (k : Go p l e R s m args below meth c D cA ad L nL cells slots Q S pc2 lv2 st) : Go p l e R s m args below meth c D cA ad L nL cells slots Q S pc lv (.long x :: st) := by
  subst hp
  exact fun H locs ls hP hS hl => lv_lstore_n C.1 C.2.1 hd hi hl hn hf (fun ls2 hl2 => k H locs ls2 hP hS hl2)
theorem go_lstore (C : Cx p s m args meth c cc nL ret own D cA ad L) (pc pc2 : Nat) (i : Nat) {x : Int64} (lv2 : List (Nat × Value)) (hd : decode cc pc = .ok (.lstore i, 2)) (hn : i + 1 < nL) (hf : (i, Value.long x) :: lv.filter (fun q => !(q.1 == i) && (!(q.1 == i + 1) && !(q.1 + 1 == i && q.2.category == 2))) = lv2) (hp : pc + 2 = pc2) (k : Go p l e R s m args below meth c D cA ad L nL cells slots Q S pc2 lv2 st) : Go p l e R s m args below meth c D cA ad L nL cells slots Q S pc lv (.long x :: st) := by
  subst hp
  exact fun H locs ls hP hS hl => lv_lstore C.1 C.2.1 hd hl hn hf (fun ls2 hl2 => k H locs ls2 hP hS hl2)
theorem go_astore_n (C : Cx p s m args meth c cc nL ret own D cA ad L) (pc pc2 : Nat) {k4 : Fin 4} (i : Nat) {x : Nat} (lv2 : List (Nat × Value)) (hd : decode cc pc = .ok (.astore_n k4, 1)) (hi : (k4 : Nat) = i) (hn : i < nL) (hf : (i, Value.ref x) :: lv.filter (fun q => !(q.1 == i) && !(q.1 + 1 == i && q.2.category == 2)) = lv2) (hp : pc + 1 = pc2) (k : Go p l e R s m args below meth c D cA ad L nL cells slots Q S pc2 lv2 st) : Go p l e R s m args below meth c D cA ad L nL cells slots Q S pc lv (.ref x :: st) := by
  subst hp
  exact fun H locs ls hP hS hl => lv_astore_n C.1 C.2.1 hd hi hl hn hf (fun ls2 hl2 => k H locs ls2 hP hS hl2)
theorem go_astore (C : Cx p s m args meth c cc nL ret own D cA ad L) (pc pc2 : Nat) (i : Nat) {x : Nat} (lv2 : List (Nat × Value)) (hd : decode cc pc = .ok (.astore i, 2)) (hn : i < nL) (hf : (i, Value.ref x) :: lv.filter (fun q => !(q.1 == i) && !(q.1 + 1 == i && q.2.category == 2)) = lv2) (hp : pc + 2 = pc2) (k : Go p l e R s m args below meth c D cA ad L nL cells slots Q S pc2 lv2 st) : Go p l e R s m args below meth c D cA ad L nL cells slots Q S pc lv (.ref x :: st) := by
  subst hp
  exact fun H locs ls hP hS hl => lv_astore C.1 C.2.1 hd hl hn hf (fun ls2 hl2 => k H locs ls2 hP hS hl2)
theorem go_iinc (C : Cx p s m args meth c cc nL ret own D cA ad L) (pc pc2 i q : Nat) {n : Int} {x : Int32} (v : Int32) (lv2 : List (Nat × Value)) (hd : decode cc pc = .ok (.iinc i n, 3)) (hq : lv[q]? = some (i, .int x)) (hv : x + Int32.ofInt n = v) (hn : i < nL) (hf : (i, Value.int v) :: lv.filter (fun q => !(q.1 == i) && !(q.1 + 1 == i && q.2.category == 2)) = lv2) (hp : pc + 3 = pc2) (k : Go p l e R s m args below meth c D cA ad L nL cells slots Q S pc2 lv2 st) : Go p l e R s m args below meth c D cA ad L nL cells slots Q S pc lv st := by
  subst hp
  exact fun H locs ls hP hS hl => lv_iinc C.1 C.2.1 hd hl hq hv hn hf (fun ls2 hl2 => k H locs ls2 hP hS hl2)
theorem go_iadd (C : Cx p s m args meth c cc nL ret own D cA ad L) (pc pc2 : Nat) {x y : Int32} (hd : decode cc pc = .ok (.iadd, 1)) (hp : pc + 1 = pc2) (k : Go p l e R s m args below meth c D cA ad L nL cells slots Q S pc2 lv (.int (x + y) :: st)) : Go p l e R s m args below meth c D cA ad L nL cells slots Q S pc lv (.int y :: .int x :: st) := by
  subst hp
  exact fun H locs ls hP hS hl => lv_iadd C.1 C.2.1 hd (k H locs ls hP hS hl)
theorem go_isub (C : Cx p s m args meth c cc nL ret own D cA ad L) (pc pc2 : Nat) {x y : Int32} (hd : decode cc pc = .ok (.isub, 1)) (hp : pc + 1 = pc2) (k : Go p l e R s m args below meth c D cA ad L nL cells slots Q S pc2 lv (.int (x - y) :: st)) : Go p l e R s m args below meth c D cA ad L nL cells slots Q S pc lv (.int y :: .int x :: st) := by
  subst hp
  exact fun H locs ls hP hS hl => lv_isub C.1 C.2.1 hd (k H locs ls hP hS hl)
theorem go_imul (C : Cx p s m args meth c cc nL ret own D cA ad L) (pc pc2 : Nat) {x y : Int32} (hd : decode cc pc = .ok (.imul, 1)) (hp : pc + 1 = pc2) (k : Go p l e R s m args below meth c D cA ad L nL cells slots Q S pc2 lv (.int (x * y) :: st)) : Go p l e R s m args below meth c D cA ad L nL cells slots Q S pc lv (.int y :: .int x :: st) := by
  subst hp
  exact fun H locs ls hP hS hl => lv_imul C.1 C.2.1 hd (k H locs ls hP hS hl)
theorem go_iand (C : Cx p s m args meth c cc nL ret own D cA ad L) (pc pc2 : Nat) {x y : Int32} (hd : decode cc pc = .ok (.iand, 1)) (hp : pc + 1 = pc2) (k : Go p l e R s m args below meth c D cA ad L nL cells slots Q S pc2 lv (.int (x &&& y) :: st)) : Go p l e R s m args below meth c D cA ad L nL cells slots Q S pc lv (.int y :: .int x :: st) := by
  subst hp
  exact fun H locs ls hP hS hl => lv_iand C.1 C.2.1 hd (k H locs ls hP hS hl)
theorem go_ior (C : Cx p s m args meth c cc nL ret own D cA ad L) (pc pc2 : Nat) {x y : Int32} (hd : decode cc pc = .ok (.ior, 1)) (hp : pc + 1 = pc2) (k : Go p l e R s m args below meth c D cA ad L nL cells slots Q S pc2 lv (.int (x ||| y) :: st)) : Go p l e R s m args below meth c D cA ad L nL cells slots Q S pc lv (.int y :: .int x :: st) := by
  subst hp
  exact fun H locs ls hP hS hl => lv_ior C.1 C.2.1 hd (k H locs ls hP hS hl)
theorem go_ixor (C : Cx p s m args meth c cc nL ret own D cA ad L) (pc pc2 : Nat) {x y : Int32} (hd : decode cc pc = .ok (.ixor, 1)) (hp : pc + 1 = pc2) (k : Go p l e R s m args below meth c D cA ad L nL cells slots Q S pc2 lv (.int (x ^^^ y) :: st)) : Go p l e R s m args below meth c D cA ad L nL cells slots Q S pc lv (.int y :: .int x :: st) := by
  subst hp
  exact fun H locs ls hP hS hl => lv_ixor C.1 C.2.1 hd (k H locs ls hP hS hl)
theorem go_ishl (C : Cx p s m args meth c cc nL ret own D cA ad L) (pc pc2 : Nat) {x y : Int32} (hd : decode cc pc = .ok (.ishl, 1)) (hp : pc + 1 = pc2) (k : Go p l e R s m args below meth c D cA ad L nL cells slots Q S pc2 lv (.int (x <<< (y &&& 31)) :: st)) : Go p l e R s m args below meth c D cA ad L nL cells slots Q S pc lv (.int y :: .int x :: st) := by
  subst hp
  exact fun H locs ls hP hS hl => lv_ishl C.1 C.2.1 hd (k H locs ls hP hS hl)
theorem go_ishr (C : Cx p s m args meth c cc nL ret own D cA ad L) (pc pc2 : Nat) {x y : Int32} (hd : decode cc pc = .ok (.ishr, 1)) (hp : pc + 1 = pc2) (k : Go p l e R s m args below meth c D cA ad L nL cells slots Q S pc2 lv (.int (x >>> (y &&& 31)) :: st)) : Go p l e R s m args below meth c D cA ad L nL cells slots Q S pc lv (.int y :: .int x :: st) := by
  subst hp
  exact fun H locs ls hP hS hl => lv_ishr C.1 C.2.1 hd (k H locs ls hP hS hl)
theorem go_ladd (C : Cx p s m args meth c cc nL ret own D cA ad L) (pc pc2 : Nat) {x y : Int64} (hd : decode cc pc = .ok (.ladd, 1)) (hp : pc + 1 = pc2) (k : Go p l e R s m args below meth c D cA ad L nL cells slots Q S pc2 lv (.long (x + y) :: st)) : Go p l e R s m args below meth c D cA ad L nL cells slots Q S pc lv (.long y :: .long x :: st) := by
  subst hp
  exact fun H locs ls hP hS hl => lv_ladd C.1 C.2.1 hd (k H locs ls hP hS hl)
theorem go_lsub (C : Cx p s m args meth c cc nL ret own D cA ad L) (pc pc2 : Nat) {x y : Int64} (hd : decode cc pc = .ok (.lsub, 1)) (hp : pc + 1 = pc2) (k : Go p l e R s m args below meth c D cA ad L nL cells slots Q S pc2 lv (.long (x - y) :: st)) : Go p l e R s m args below meth c D cA ad L nL cells slots Q S pc lv (.long y :: .long x :: st) := by
  subst hp
  exact fun H locs ls hP hS hl => lv_lsub C.1 C.2.1 hd (k H locs ls hP hS hl)
theorem go_lmul (C : Cx p s m args meth c cc nL ret own D cA ad L) (pc pc2 : Nat) {x y : Int64} (hd : decode cc pc = .ok (.lmul, 1)) (hp : pc + 1 = pc2) (k : Go p l e R s m args below meth c D cA ad L nL cells slots Q S pc2 lv (.long (x * y) :: st)) : Go p l e R s m args below meth c D cA ad L nL cells slots Q S pc lv (.long y :: .long x :: st) := by
  subst hp
  exact fun H locs ls hP hS hl => lv_lmul C.1 C.2.1 hd (k H locs ls hP hS hl)
theorem go_iushr (C : Cx p s m args meth c cc nL ret own D cA ad L) (pc pc2 : Nat) {x y : Int32} (hd : decode cc pc = .ok (.iushr, 1)) (hp : pc + 1 = pc2) (k : Go p l e R s m args below meth c D cA ad L nL cells slots Q S pc2 lv (.int ((x.toUInt32 >>> (y.toUInt32 &&& Int32.toUInt32 31)).toInt32) :: st)) : Go p l e R s m args below meth c D cA ad L nL cells slots Q S pc lv (.int y :: .int x :: st) := by
  subst hp
  exact fun H locs ls hP hS hl => lv_iushr C.1 C.2.1 hd rfl (k H locs ls hP hS hl)
theorem go_idiv (C : Cx p s m args meth c cc nL ret own D cA ad L) (pc pc2 : Nat) {x y : Int32} (hne : ¬ y = 0) (hd : decode cc pc = .ok (.idiv, 1)) (hp : pc + 1 = pc2) (k : Go p l e R s m args below meth c D cA ad L nL cells slots Q S pc2 lv (.int (x / y) :: st)) : Go p l e R s m args below meth c D cA ad L nL cells slots Q S pc lv (.int y :: .int x :: st) := by
  subst hp
  exact fun H locs ls hP hS hl => lv_idiv C.1 C.2.1 hd hne (k H locs ls hP hS hl)
theorem go_irem (C : Cx p s m args meth c cc nL ret own D cA ad L) (pc pc2 : Nat) {x y : Int32} (hne : ¬ y = 0) (hd : decode cc pc = .ok (.irem, 1)) (hp : pc + 1 = pc2) (k : Go p l e R s m args below meth c D cA ad L nL cells slots Q S pc2 lv (.int (x - x / y * y) :: st)) : Go p l e R s m args below meth c D cA ad L nL cells slots Q S pc lv (.int y :: .int x :: st) := by
  subst hp
  exact fun H locs ls hP hS hl => lv_irem C.1 C.2.1 hd hne (k H locs ls hP hS hl)
theorem go_ldiv (C : Cx p s m args meth c cc nL ret own D cA ad L) (pc pc2 : Nat) {x y : Int64} (hne : ¬ y = 0) (hd : decode cc pc = .ok (.ldiv, 1)) (hp : pc + 1 = pc2) (k : Go p l e R s m args below meth c D cA ad L nL cells slots Q S pc2 lv (.long (x / y) :: st)) : Go p l e R s m args below meth c D cA ad L nL cells slots Q S pc lv (.long y :: .long x :: st) := by
  subst hp
  exact fun H locs ls hP hS hl => lv_ldiv C.1 C.2.1 hd hne (k H locs ls hP hS hl)
theorem go_lrem (C : Cx p s m args meth c cc nL ret own D cA ad L) (pc pc2 : Nat) {x y : Int64} (hne : ¬ y = 0) (hd : decode cc pc = .ok (.lrem, 1)) (hp : pc + 1 = pc2) (k : Go p l e R s m args below meth c D cA ad L nL cells slots Q S pc2 lv (.long (x - x / y * y) :: st)) : Go p l e R s m args below meth c D cA ad L nL cells slots Q S pc lv (.long y :: .long x :: st) := by
  subst hp
  exact fun H locs ls hP hS hl => lv_lrem C.1 C.2.1 hd hne (k H locs ls hP hS hl)
theorem go_ineg (C : Cx p s m args meth c cc nL ret own D cA ad L) (pc pc2 : Nat) {x : Int32} (hd : decode cc pc = .ok (.ineg, 1)) (hp : pc + 1 = pc2) (k : Go p l e R s m args below meth c D cA ad L nL cells slots Q S pc2 lv (.int (-x) :: st)) : Go p l e R s m args below meth c D cA ad L nL cells slots Q S pc lv (.int x :: st) := by
  subst hp
  exact fun H locs ls hP hS hl => lv_ineg C.1 C.2.1 hd (k H locs ls hP hS hl)
theorem go_lneg (C : Cx p s m args meth c cc nL ret own D cA ad L) (pc pc2 : Nat) {x : Int64} (hd : decode cc pc = .ok (.lneg, 1)) (hp : pc + 1 = pc2) (k : Go p l e R s m args below meth c D cA ad L nL cells slots Q S pc2 lv (.long (-x) :: st)) : Go p l e R s m args below meth c D cA ad L nL cells slots Q S pc lv (.long x :: st) := by
  subst hp
  exact fun H locs ls hP hS hl => lv_lneg C.1 C.2.1 hd (k H locs ls hP hS hl)
theorem go_i2l (C : Cx p s m args meth c cc nL ret own D cA ad L) (pc pc2 : Nat) {x : Int32} (hd : decode cc pc = .ok (.i2l, 1)) (hp : pc + 1 = pc2) (k : Go p l e R s m args below meth c D cA ad L nL cells slots Q S pc2 lv (.long x.toInt64 :: st)) : Go p l e R s m args below meth c D cA ad L nL cells slots Q S pc lv (.int x :: st) := by
  subst hp
  exact fun H locs ls hP hS hl => lv_i2l C.1 C.2.1 hd rfl (k H locs ls hP hS hl)
theorem go_l2i (C : Cx p s m args meth c cc nL ret own D cA ad L) (pc pc2 : Nat) {x : Int64} (hd : decode cc pc = .ok (.l2i, 1)) (hp : pc + 1 = pc2) (k : Go p l e R s m args below meth c D cA ad L nL cells slots Q S pc2 lv (.int x.toInt32 :: st)) : Go p l e R s m args below meth c D cA ad L nL cells slots Q S pc lv (.long x :: st) := by
  subst hp
  exact fun H locs ls hP hS hl => lv_l2i C.1 C.2.1 hd rfl (k H locs ls hP hS hl)
theorem go_dup (C : Cx p s m args meth c cc nL ret own D cA ad L) (pc pc2 : Nat) {v : Value} (hv : v.category = 1) (hd : decode cc pc = .ok (.dup, 1)) (hp : pc + 1 = pc2) (k : Go p l e R s m args below meth c D cA ad L nL cells slots Q S pc2 lv (v :: v :: st)) : Go p l e R s m args below meth c D cA ad L nL cells slots Q S pc lv (v :: st) := by
  subst hp
  exact fun H locs ls hP hS hl => lv_dup C.1 C.2.1 hd hv (k H locs ls hP hS hl)
theorem go_dup2 (C : Cx p s m args meth c cc nL ret own D cA ad L) (pc pc2 : Nat) {v u : Value} (hv : v.category = 1) (hu : u.category = 1) (hd : decode cc pc = .ok (.dup2, 1)) (hp : pc + 1 = pc2) (k : Go p l e R s m args below meth c D cA ad L nL cells slots Q S pc2 lv (v :: u :: v :: u :: st)) : Go p l e R s m args below meth c D cA ad L nL cells slots Q S pc lv (v :: u :: st) := by
  subst hp
  exact fun H locs ls hP hS hl => lv_dup2_11 C.1 C.2.1 hd hv hu (k H locs ls hP hS hl)
theorem go_pop (C : Cx p s m args meth c cc nL ret own D cA ad L) (pc pc2 : Nat) {v : Value} (hv : v.category = 1) (hd : decode cc pc = .ok (.pop, 1)) (hp : pc + 1 = pc2) (k : Go p l e R s m args below meth c D cA ad L nL cells slots Q S pc2 lv st) : Go p l e R s m args below meth c D cA ad L nL cells slots Q S pc lv (v :: st) := by
  subst hp
  exact fun H locs ls hP hS hl => lv_pop C.1 C.2.1 hd hv (k H locs ls hP hS hl)
theorem go_if_eq (C : Cx p s m args meth c cc nL ret own D cA ad L) (pc pc2 tgt : Nat) {x : Int32} {off : Int} (hd : decode cc pc = .ok (.ifCond .eq off, 3)) (ht : (pc : Int) + off = (tgt : Int)) (hp : pc + 3 = pc2) (kt : x = 0 → Go p l e R s m args below meth c D cA ad L nL cells slots Q S tgt lv st) (kf : ¬ (x = 0) → Go p l e R s m args below meth c D cA ad L nL cells slots Q S pc2 lv st) : Go p l e R s m args below meth c D cA ad L nL cells slots Q S pc lv (.int x :: st) := by
  subst hp
  exact fun H locs ls hP hS hl => lv_if_eq C.1 C.2.1 hd ht (fun q => kt q H locs ls hP hS hl) (fun q => kf q H locs ls hP hS hl)
theorem go_icmp_eq (C : Cx p s m args meth c cc nL ret own D cA ad L) (pc pc2 tgt : Nat) {x y : Int32} {off : Int} (hd : decode cc pc = .ok (.if_icmp .eq off, 3)) (ht : (pc : Int) + off = (tgt : Int)) (hp : pc + 3 = pc2) (kt : x = y → Go p l e R s m args below meth c D cA ad L nL cells slots Q S tgt lv st) (kf : ¬ (x = y) → Go p l e R s m args below meth c D cA ad L nL cells slots Q S pc2 lv st) : Go p l e R s m args below meth c D cA ad L nL cells slots Q S pc lv (.int y :: .int x :: st) := by
  subst hp
  exact fun H locs ls hP hS hl => lv_icmp_eq C.1 C.2.1 hd ht (fun q => kt q H locs ls hP hS hl) (fun q => kf q H locs ls hP hS hl)
theorem go_lcmp_eq (C : Cx p s m args meth c cc nL ret own D cA ad L) (pc pc2 tgt : Nat) {x y : Int64} {off : Int} (hd : decode cc pc = .ok (.lcmp, 1)) (hd2 : decode cc (pc + 1) = .ok (.ifCond .eq off, 3)) (ht : ((pc + 1 : Nat) : Int) + off = (tgt : Int)) (hp : pc + 1 + 3 = pc2) (kt : x = y → Go p l e R s m args below meth c D cA ad L nL cells slots Q S tgt lv st) (kf : ¬ (x = y) → Go p l e R s m args below meth c D cA ad L nL cells slots Q S pc2 lv st) : Go p l e R s m args below meth c D cA ad L nL cells slots Q S pc lv (.long y :: .long x :: st) := by
  subst hp
  exact fun H locs ls hP hS hl => W.lcmp C.1 C.2.1 hd (lv_if_eq C.1 C.2.1 hd2 ht (fun q => kt ((lg_cmp_eq x y).mp q) H locs ls hP hS hl) (fun q => kf (fun z => q ((lg_cmp_eq x y).mpr z)) H locs ls hP hS hl))
theorem go_if_ne (C : Cx p s m args meth c cc nL ret own D cA ad L) (pc pc2 tgt : Nat) {x : Int32} {off : Int} (hd : decode cc pc = .ok (.ifCond .ne off, 3)) (ht : (pc : Int) + off = (tgt : Int)) (hp : pc + 3 = pc2) (kt : ¬ x = 0 → Go p l e R s m args below meth c D cA ad L nL cells slots Q S tgt lv st) (kf : x = 0 → Go p l e R s m args below meth c D cA ad L nL cells slots Q S pc2 lv st) : Go p l e R s m args below meth c D cA ad L nL cells slots Q S pc lv (.int x :: st) := by
  subst hp
  exact fun H locs ls hP hS hl => lv_if_ne C.1 C.2.1 hd ht (fun q => kt q H locs ls hP hS hl) (fun q => kf q H locs ls hP hS hl)
theorem go_icmp_ne (C : Cx p s m args meth c cc nL ret own D cA ad L) (pc pc2 tgt : Nat) {x y : Int32} {off : Int} (hd : decode cc pc = .ok (.if_icmp .ne off, 3)) (ht : (pc : Int) + off = (tgt : Int)) (hp : pc + 3 = pc2) (kt : ¬ x = y → Go p l e R s m args below meth c D cA ad L nL cells slots Q S tgt lv st) (kf : x = y → Go p l e R s m args below meth c D cA ad L nL cells slots Q S pc2 lv st) : Go p l e R s m args below meth c D cA ad L nL cells slots Q S pc lv (.int y :: .int x :: st) := by
  subst hp
  exact fun H locs ls hP hS hl => lv_icmp_ne C.1 C.2.1 hd ht (fun q => kt q H locs ls hP hS hl) (fun q => kf q H locs ls hP hS hl)
theorem go_lcmp_ne (C : Cx p s m args meth c cc nL ret own D cA ad L) (pc pc2 tgt : Nat) {x y : Int64} {off : Int} (hd : decode cc pc = .ok (.lcmp, 1)) (hd2 : decode cc (pc + 1) = .ok (.ifCond .ne off, 3)) (ht : ((pc + 1 : Nat) : Int) + off = (tgt : Int)) (hp : pc + 1 + 3 = pc2) (kt : ¬ x = y → Go p l e R s m args below meth c D cA ad L nL cells slots Q S tgt lv st) (kf : x = y → Go p l e R s m args below meth c D cA ad L nL cells slots Q S pc2 lv st) : Go p l e R s m args below meth c D cA ad L nL cells slots Q S pc lv (.long y :: .long x :: st) := by
  subst hp
  exact fun H locs ls hP hS hl => W.lcmp C.1 C.2.1 hd (lv_if_ne C.1 C.2.1 hd2 ht (fun q => kt ((not_congr (lg_cmp_eq x y)).mp q) H locs ls hP hS hl) (fun q => kf ((lg_cmp_eq x y).mp q) H locs ls hP hS hl))
theorem go_if_lt (C : Cx p s m args meth c cc nL ret own D cA ad L) (pc pc2 tgt : Nat) {x : Int32} {off : Int} (hd : decode cc pc = .ok (.ifCond .lt off, 3)) (ht : (pc : Int) + off = (tgt : Int)) (hp : pc + 3 = pc2) (kt : x < 0 → Go p l e R s m args below meth c D cA ad L nL cells slots Q S tgt lv st) (kf : ¬ (x < 0) → Go p l e R s m args below meth c D cA ad L nL cells slots Q S pc2 lv st) : Go p l e R s m args below meth c D cA ad L nL cells slots Q S pc lv (.int x :: st) := by
  subst hp
  exact fun H locs ls hP hS hl => lv_if_lt C.1 C.2.1 hd ht (fun q => kt q H locs ls hP hS hl) (fun q => kf q H locs ls hP hS hl)
theorem go_icmp_lt (C : Cx p s m args meth c cc nL ret own D cA ad L) (pc pc2 tgt : Nat) {x y : Int32} {off : Int} (hd : decode cc pc = .ok (.if_icmp .lt off, 3)) (ht : (pc : Int) + off = (tgt : Int)) (hp : pc + 3 = pc2) (kt : x < y → Go p l e R s m args below meth c D cA ad L nL cells slots Q S tgt lv st) (kf : ¬ (x < y) → Go p l e R s m args below meth c D cA ad L nL cells slots Q S pc2 lv st) : Go p l e R s m args below meth c D cA ad L nL cells slots Q S pc lv (.int y :: .int x :: st) := by
  subst hp
  exact fun H locs ls hP hS hl => lv_icmp_lt C.1 C.2.1 hd ht (fun q => kt q H locs ls hP hS hl) (fun q => kf q H locs ls hP hS hl)
theorem go_lcmp_lt (C : Cx p s m args meth c cc nL ret own D cA ad L) (pc pc2 tgt : Nat) {x y : Int64} {off : Int} (hd : decode cc pc = .ok (.lcmp, 1)) (hd2 : decode cc (pc + 1) = .ok (.ifCond .lt off, 3)) (ht : ((pc + 1 : Nat) : Int) + off = (tgt : Int)) (hp : pc + 1 + 3 = pc2) (kt : x < y → Go p l e R s m args below meth c D cA ad L nL cells slots Q S tgt lv st) (kf : ¬ (x < y) → Go p l e R s m args below meth c D cA ad L nL cells slots Q S pc2 lv st) : Go p l e R s m args below meth c D cA ad L nL cells slots Q S pc lv (.long y :: .long x :: st) := by
  subst hp
  exact fun H locs ls hP hS hl => W.lcmp C.1 C.2.1 hd (lv_if_lt C.1 C.2.1 hd2 ht (fun q => kt ((lg_cmp_lt x y).mp q) H locs ls hP hS hl) (fun q => kf (fun z => q ((lg_cmp_lt x y).mpr z)) H locs ls hP hS hl))
theorem go_if_ge (C : Cx p s m args meth c cc nL ret own D cA ad L) (pc pc2 tgt : Nat) {x : Int32} {off : Int} (hd : decode cc pc = .ok (.ifCond .ge off, 3)) (ht : (pc : Int) + off = (tgt : Int)) (hp : pc + 3 = pc2) (kt : 0 ≤ x → Go p l e R s m args below meth c D cA ad L nL cells slots Q S tgt lv st) (kf : ¬ (0 ≤ x) → Go p l e R s m args below meth c D cA ad L nL cells slots Q S pc2 lv st) : Go p l e R s m args below meth c D cA ad L nL cells slots Q S pc lv (.int x :: st) := by
  subst hp
  exact fun H locs ls hP hS hl => lv_if_ge C.1 C.2.1 hd ht (fun q => kt q H locs ls hP hS hl) (fun q => kf q H locs ls hP hS hl)
theorem go_icmp_ge (C : Cx p s m args meth c cc nL ret own D cA ad L) (pc pc2 tgt : Nat) {x y : Int32} {off : Int} (hd : decode cc pc = .ok (.if_icmp .ge off, 3)) (ht : (pc : Int) + off = (tgt : Int)) (hp : pc + 3 = pc2) (kt : y ≤ x → Go p l e R s m args below meth c D cA ad L nL cells slots Q S tgt lv st) (kf : ¬ (y ≤ x) → Go p l e R s m args below meth c D cA ad L nL cells slots Q S pc2 lv st) : Go p l e R s m args below meth c D cA ad L nL cells slots Q S pc lv (.int y :: .int x :: st) := by
  subst hp
  exact fun H locs ls hP hS hl => lv_icmp_ge C.1 C.2.1 hd ht (fun q => kt q H locs ls hP hS hl) (fun q => kf q H locs ls hP hS hl)
theorem go_lcmp_ge (C : Cx p s m args meth c cc nL ret own D cA ad L) (pc pc2 tgt : Nat) {x y : Int64} {off : Int} (hd : decode cc pc = .ok (.lcmp, 1)) (hd2 : decode cc (pc + 1) = .ok (.ifCond .ge off, 3)) (ht : ((pc + 1 : Nat) : Int) + off = (tgt : Int)) (hp : pc + 1 + 3 = pc2) (kt : y ≤ x → Go p l e R s m args below meth c D cA ad L nL cells slots Q S tgt lv st) (kf : ¬ (y ≤ x) → Go p l e R s m args below meth c D cA ad L nL cells slots Q S pc2 lv st) : Go p l e R s m args below meth c D cA ad L nL cells slots Q S pc lv (.long y :: .long x :: st) := by
  subst hp
  exact fun H locs ls hP hS hl => W.lcmp C.1 C.2.1 hd (lv_if_ge C.1 C.2.1 hd2 ht (fun q => kt ((lg_cmp_ge x y).mp q) H locs ls hP hS hl) (fun q => kf (fun z => q ((lg_cmp_ge x y).mpr z)) H locs ls hP hS hl))
theorem go_if_gt (C : Cx p s m args meth c cc nL ret own D cA ad L) (pc pc2 tgt : Nat) {x : Int32} {off : Int} (hd : decode cc pc = .ok (.ifCond .gt off, 3)) (ht : (pc : Int) + off = (tgt : Int)) (hp : pc + 3 = pc2) (kt : 0 < x → Go p l e R s m args below meth c D cA ad L nL cells slots Q S tgt lv st) (kf : ¬ (0 < x) → Go p l e R s m args below meth c D cA ad L nL cells slots Q S pc2 lv st) : Go p l e R s m args below meth c D cA ad L nL cells slots Q S pc lv (.int x :: st) := by
  subst hp
  exact fun H locs ls hP hS hl => lv_if_gt C.1 C.2.1 hd ht (fun q => kt q H locs ls hP hS hl) (fun q => kf q H locs ls hP hS hl)
theorem go_icmp_gt (C : Cx p s m args meth c cc nL ret own D cA ad L) (pc pc2 tgt : Nat) {x y : Int32} {off : Int} (hd : decode cc pc = .ok (.if_icmp .gt off, 3)) (ht : (pc : Int) + off = (tgt : Int)) (hp : pc + 3 = pc2) (kt : y < x → Go p l e R s m args below meth c D cA ad L nL cells slots Q S tgt lv st) (kf : ¬ (y < x) → Go p l e R s m args below meth c D cA ad L nL cells slots Q S pc2 lv st) : Go p l e R s m args below meth c D cA ad L nL cells slots Q S pc lv (.int y :: .int x :: st) := by
  subst hp
  exact fun H locs ls hP hS hl => lv_icmp_gt C.1 C.2.1 hd ht (fun q => kt q H locs ls hP hS hl) (fun q => kf q H locs ls hP hS hl)
theorem go_lcmp_gt (C : Cx p s m args meth c cc nL ret own D cA ad L) (pc pc2 tgt : Nat) {x y : Int64} {off : Int} (hd : decode cc pc = .ok (.lcmp, 1)) (hd2 : decode cc (pc + 1) = .ok (.ifCond .gt off, 3)) (ht : ((pc + 1 : Nat) : Int) + off = (tgt : Int)) (hp : pc + 1 + 3 = pc2) (kt : y < x → Go p l e R s m args below meth c D cA ad L nL cells slots Q S tgt lv st) (kf : ¬ (y < x) → Go p l e R s m args below meth c D cA ad L nL cells slots Q S pc2 lv st) : Go p l e R s m args below meth c D cA ad L nL cells slots Q S pc lv (.long y :: .long x :: st) := by
  subst hp
  exact fun H locs ls hP hS hl => W.lcmp C.1 C.2.1 hd (lv_if_gt C.1 C.2.1 hd2 ht (fun q => kt ((lg_cmp_gt x y).mp q) H locs ls hP hS hl) (fun q => kf (fun z => q ((lg_cmp_gt x y).mpr z)) H locs ls hP hS hl))
theorem go_if_le (C : Cx p s m args meth c cc nL ret own D cA ad L) (pc pc2 tgt : Nat) {x : Int32} {off : Int} (hd : decode cc pc = .ok (.ifCond .le off, 3)) (ht : (pc : Int) + off = (tgt : Int)) (hp : pc + 3 = pc2) (kt : x ≤ 0 → Go p l e R s m args below meth c D cA ad L nL cells slots Q S tgt lv st) (kf : ¬ (x ≤ 0) → Go p l e R s m args below meth c D cA ad L nL cells slots Q S pc2 lv st) : Go p l e R s m args below meth c D cA ad L nL cells slots Q S pc lv (.int x :: st) := by
  subst hp
  exact fun H locs ls hP hS hl => lv_if_le C.1 C.2.1 hd ht (fun q => kt q H locs ls hP hS hl) (fun q => kf q H locs ls hP hS hl)
theorem go_icmp_le (C : Cx p s m args meth c cc nL ret own D cA ad L) (pc pc2 tgt : Nat) {x y : Int32} {off : Int} (hd : decode cc pc = .ok (.if_icmp .le off, 3)) (ht : (pc : Int) + off = (tgt : Int)) (hp : pc + 3 = pc2) (kt : x ≤ y → Go p l e R s m args below meth c D cA ad L nL cells slots Q S tgt lv st) (kf : ¬ (x ≤ y) → Go p l e R s m args below meth c D cA ad L nL cells slots Q S pc2 lv st) : Go p l e R s m args below meth c D cA ad L nL cells slots Q S pc lv (.int y :: .int x :: st) := by
  subst hp
  exact fun H locs ls hP hS hl => lv_icmp_le C.1 C.2.1 hd ht (fun q => kt q H locs ls hP hS hl) (fun q => kf q H locs ls hP hS hl)
theorem go_lcmp_le (C : Cx p s m args meth c cc nL ret own D cA ad L) (pc pc2 tgt : Nat) {x y : Int64} {off : Int} (hd : decode cc pc = .ok (.lcmp, 1)) (hd2 : decode cc (pc + 1) = .ok (.ifCond .le off, 3)) (ht : ((pc + 1 : Nat) : Int) + off = (tgt : Int)) (hp : pc + 1 + 3 = pc2) (kt : x ≤ y → Go p l e R s m args below meth c D cA ad L nL cells slots Q S tgt lv st) (kf : ¬ (x ≤ y) → Go p l e R s m args below meth c D cA ad L nL cells slots Q S pc2 lv st) : Go p l e R s m args below meth c D cA ad L nL cells slots Q S pc lv (.long y :: .long x :: st) := by
  subst hp
  exact fun H locs ls hP hS hl => W.lcmp C.1 C.2.1 hd (lv_if_le C.1 C.2.1 hd2 ht (fun q => kt ((lg_cmp_le x y).mp q) H locs ls hP hS hl) (fun q => kf (fun z => q ((lg_cmp_le x y).mpr z)) H locs ls hP hS hl))
theorem go_goto (C : Cx p s m args meth c cc nL ret own D cA ad L) (pc tgt : Nat) {off : Int} (hd : decode cc pc = .ok (.goto off, 3)) (ht : (pc : Int) + off = (tgt : Int)) (k : Go p l e R s m args below meth c D cA ad L nL cells slots Q S tgt lv st) : Go p l e R s m args below meth c D cA ad L nL cells slots Q S pc lv st :=
  fun H locs ls hP hS hl => lv_goto C.1 C.2.1 hd ht (k H locs ls hP hS hl)
theorem go_perm {lv2 : List (Nat × Value)} {pc : Nat} (ks : List Nat) (h : lv_pick lv ks = lv2) (k : Go p l e R s m args below meth c D cA ad L nL cells slots Q S pc lv2 st) : Go p l e R s m args below meth c D cA ad L nL cells slots Q S pc lv st :=
  fun H locs ls hP hS hl => k H locs ls hP hS (lv_sub hl ks h)
theorem go_tsOut (C : Cx p s m args meth c cc nL ret own D cA ad L) (pc tgt : Nat) {dflt lo hi : Int} {offs : Array Int} {len : Nat} {x : Int32} (hd : decode cc pc = .ok (.tableswitch dflt lo hi offs, len)) (h : x.toInt < lo ∨ hi < x.toInt) (ht : (pc : Int) + dflt = (tgt : Int)) (k : Go p l e R s m args below meth c D cA ad L nL cells slots Q S tgt lv st) : Go p l e R s m args below meth c D cA ad L nL cells slots Q S pc lv (.int x :: st) :=
  fun H locs ls hP hS hl => lv_tableOut C.1 C.2.1 hd h ht (k H locs ls hP hS hl)
theorem go_tsIn (C : Cx p s m args meth c cc nL ret own D cA ad L) (pc tgt : Nat) {dflt lo hi : Int} {offs : Array Int} {len : Nat} {x : Int32} {off : Int} (hd : decode cc pc = .ok (.tableswitch dflt lo hi offs, len)) (h1 : ¬ x.toInt < lo) (h2 : ¬ hi < x.toInt) (ho : offs[(x.toInt - lo).toNat]? = some off) (ht : (pc : Int) + off = (tgt : Int)) (k : Go p l e R s m args below meth c D cA ad L nL cells slots Q S tgt lv st) : Go p l e R s m args below meth c D cA ad L nL cells slots Q S pc lv (.int x :: st) :=
  fun H locs ls hP hS hl => lv_tableIn C.1 C.2.1 hd h1 h2 ho ht (k H locs ls hP hS hl)
theorem go_getI (C : Cx p s m args meth c cc nL ret own D cA ad L) (pc pc2 : Nat) {C0 : String} {T : u_T} {N ci i : Nat} {fs : List Nat} (hin : ∀ w ∈ u_ws C0 T N, w ∈ T0) (k0 : Nat) (hk : L[k0]? = some (.inr (ci, fs))) (hc : vwCl[ci]? = some (C0, T, N)) (j : Nat) (hj : j < N) (hlink : Cond.fieldLink own i C0 (T j).2.1 (T j).2.2.1 ∈ T0) (h1 : (T j).1 = C0) (hf : fs[j]? = some (0)) (hd : decode cc pc = .ok (.getfield i, 3)) (hp : pc + 3 = pc2) (k : Go p l e R s m args below meth c D cA ad L nL cells slots Q S pc2 lv (.int (S.1 k0 j) :: st)) : Go p l e R s m args below meth c D cA ad L nL cells slots Q S pc lv (.ref (ad k0) :: st) := by
  subst hp
  exact fun H locs ls hP hS hl => va_get (v := .int (S.1 k0 j)) C.1 C.2.1 C.2.2.2.2.2.2.1 hin C.2.2.2.2.2.1 C.2.2.2.2.2.2.2.1 hP k0 (wld_get hk) hc j hj (C.2.2.2.2.2.2.1 _ hlink) (fun x hx => by rw [h1] at hx; exact hx) (by rw [List.getElem?_mapIdx, hf]; rfl) hd (k H locs ls hP hS hl)
theorem go_getJ (C : Cx p s m args meth c cc nL ret own D cA ad L) (pc pc2 : Nat) {C0 : String} {T : u_T} {N ci i : Nat} {fs : List Nat} (hin : ∀ w ∈ u_ws C0 T N, w ∈ T0) (k0 : Nat) (hk : L[k0]? = some (.inr (ci, fs))) (hc : vwCl[ci]? = some (C0, T, N)) (j : Nat) (hj : j < N) (hlink : Cond.fieldLink own i C0 (T j).2.1 (T j).2.2.1 ∈ T0) (h1 : (T j).1 = C0) (hf : fs[j]? = some (1)) (hd : decode cc pc = .ok (.getfield i, 3)) (hp : pc + 3 = pc2) (k : Go p l e R s m args below meth c D cA ad L nL cells slots Q S pc2 lv (.long (S.2 k0 j) :: st)) : Go p l e R s m args below meth c D cA ad L nL cells slots Q S pc lv (.ref (ad k0) :: st) := by
  subst hp
  exact fun H locs ls hP hS hl => va_get (v := .long (S.2 k0 j)) C.1 C.2.1 C.2.2.2.2.2.2.1 hin C.2.2.2.2.2.1 C.2.2.2.2.2.2.2.1 hP k0 (wld_get hk) hc j hj (C.2.2.2.2.2.2.1 _ hlink) (fun x hx => by rw [h1] at hx; exact hx) (by rw [List.getElem?_mapIdx, hf]; rfl) hd (k H locs ls hP hS hl)
theorem go_getR (C : Cx p s m args meth c cc nL ret own D cA ad L) (pc pc2 : Nat) {n : Nat} {C0 : String} {T : u_T} {N ci i : Nat} {fs : List Nat} (hin : ∀ w ∈ u_ws C0 T N, w ∈ T0) (k0 : Nat) (hk : L[k0]? = some (.inr (ci, fs))) (hc : vwCl[ci]? = some (C0, T, N)) (j : Nat) (hj : j < N) (hlink : Cond.fieldLink own i C0 (T j).2.1 (T j).2.2.1 ∈ T0) (h1 : (T j).1 = C0) (hf : fs[j]? = some (n + 2)) (hd : decode cc pc = .ok (.getfield i, 3)) (hp : pc + 3 = pc2) (k : Go p l e R s m args below meth c D cA ad L nL cells slots Q S pc2 lv (.ref (ad n) :: st)) : Go p l e R s m args below meth c D cA ad L nL cells slots Q S pc lv (.ref (ad k0) :: st) := by
  subst hp
  exact fun H locs ls hP hS hl => va_get (v := .ref (ad n)) C.1 C.2.1 C.2.2.2.2.2.2.1 hin C.2.2.2.2.2.1 C.2.2.2.2.2.2.2.1 hP k0 (wld_get hk) hc j hj (C.2.2.2.2.2.2.1 _ hlink) (fun x hx => by rw [h1] at hx; exact hx) (by rw [List.getElem?_mapIdx, hf]; rfl) hd (k H locs ls hP hS hl)
theorem go_putI (C : Cx p s m args meth c cc nL ret own D cA ad L) (pc pc2 : Nat) {C0 : String} {T : u_T} {N ci i : Nat} {fs : List Nat} (hin : ∀ w ∈ u_ws C0 T N, w ∈ T0) (k0 : Nat) (hk : L[k0]? = some (.inr (ci, fs))) (hc : vwCl[ci]? = some (C0, T, N)) (j : Nat) (hj : j < N) (ty0 : Nat → FieldType) (hty : ∀ k, k < N → parseFieldDescriptor (T k).2.2.1 = some (ty0 k)) (hnm : ∀ a, a < N → ∀ b, b < N → a ≠ b → (T a).2.1 ≠ (T b).2.1) (hlink : Cond.fieldLink own i C0 (T j).2.1 (T j).2.2.1 ∈ T0) (h1 : (T j).1 = C0) (hf : fs[j]? = some (0)) (hfin : (T j).2.2.2 = false) (hdd : parseFieldDescriptor (T j).2.2.1 = some .int) (hd : decode cc pc = .ok (.putfield i, 3)) (hp : pc + 3 = pc2) {v : Int32} (k : Go p l e R s m args below meth c D cA ad L nL cells slots Q (uI S k0 j v) pc2 lv st) : Go p l e R s m args below meth c D cA ad L nL cells slots Q S pc lv (.int v :: .ref (ad k0) :: st) := by
  subst hp
  intro H locs ls hP hS hl
  refine va_put (v := .int v) C.1 C.2.1 C.2.2.2.2.2.2.1 hin ty0 hty hnm C.2.2.2.2.2.1 C.2.2.2.2.2.2.2.1 hP (wld_D C.2.2.2.2.2.2.2.2.2.1) hS k0 (wld_get hk) hc j hj (C.2.2.2.2.2.2.1 _ hlink) (fun x hx => by rw [h1] at hx; exact hx) hfin hdd (by rfl) (by rfl) (by rw [List.length_mapIdx]; exact (List.getElem?_eq_some_iff.mp hf).1) hd (fun H1 locs1 hP1 _ hS1 => k H1 locs1 ls ?_ hS1 hl)
  have e := wld_set (cA := cA) (ad := ad) (L := L) (S := S) (S' := (uI S k0 j v)) (k := k0) hk (e := .inr (ci, (fs.mapIdx (fun j q => lval ad S k0 j q)).set j (.int v))) (by
    show Sum.inr (ci, fs.mapIdx _) = _
    rw [obj_set (S := S) (S' := (uI S k0 j v)) (v := .int v) hf (by show Value.int _ = _; rw [uI_at]) (fun i h => ⟨uI_ne (fun q => h q.2), rfl⟩)]) uI_other
  rw [← e]
  exact hP1
theorem go_putJ (C : Cx p s m args meth c cc nL ret own D cA ad L) (pc pc2 : Nat) {C0 : String} {T : u_T} {N ci i : Nat} {fs : List Nat} (hin : ∀ w ∈ u_ws C0 T N, w ∈ T0) (k0 : Nat) (hk : L[k0]? = some (.inr (ci, fs))) (hc : vwCl[ci]? = some (C0, T, N)) (j : Nat) (hj : j < N) (ty0 : Nat → FieldType) (hty : ∀ k, k < N → parseFieldDescriptor (T k).2.2.1 = some (ty0 k)) (hnm : ∀ a, a < N → ∀ b, b < N → a ≠ b → (T a).2.1 ≠ (T b).2.1) (hlink : Cond.fieldLink own i C0 (T j).2.1 (T j).2.2.1 ∈ T0) (h1 : (T j).1 = C0) (hf : fs[j]? = some (1)) (hfin : (T j).2.2.2 = false) (hdd : parseFieldDescriptor (T j).2.2.1 = some .long) (hd : decode cc pc = .ok (.putfield i, 3)) (hp : pc + 3 = pc2) {v : Int64} (k : Go p l e R s m args below meth c D cA ad L nL cells slots Q (uJ S k0 j v) pc2 lv st) : Go p l e R s m args below meth c D cA ad L nL cells slots Q S pc lv (.long v :: .ref (ad k0) :: st) := by
  subst hp
  intro H locs ls hP hS hl
  refine va_put (v := .long v) C.1 C.2.1 C.2.2.2.2.2.2.1 hin ty0 hty hnm C.2.2.2.2.2.1 C.2.2.2.2.2.2.2.1 hP (wld_D C.2.2.2.2.2.2.2.2.2.1) hS k0 (wld_get hk) hc j hj (C.2.2.2.2.2.2.1 _ hlink) (fun x hx => by rw [h1] at hx; exact hx) hfin hdd (by rfl) (by rfl) (by rw [List.length_mapIdx]; exact (List.getElem?_eq_some_iff.mp hf).1) hd (fun H1 locs1 hP1 _ hS1 => k H1 locs1 ls ?_ hS1 hl)
  have e := wld_set (cA := cA) (ad := ad) (L := L) (S := S) (S' := (uJ S k0 j v)) (k := k0) hk (e := .inr (ci, (fs.mapIdx (fun j q => lval ad S k0 j q)).set j (.long v))) (by
    show Sum.inr (ci, fs.mapIdx _) = _
    rw [obj_set (S := S) (S' := (uJ S k0 j v)) (v := .long v) hf (by show Value.long _ = _; rw [uJ_at]) (fun i h => ⟨rfl, uJ_ne (fun q => h q.2)⟩)]) uJ_other
  rw [← e]
  exact hP1
theorem go_getIN (C : Cx p s m args meth c cc nL ret own D cA ad L) (pc pc2 : Nat) {host : String} {C0 : String} {T : u_T} {N ci i : Nat} {fs : List Nat} (hin : ∀ w ∈ u_ws C0 T N, w ∈ T0) (k0 : Nat) (hk : L[k0]? = some (.inr (ci, fs))) (hc : vwCl[ci]? = some (C0, T, N)) (j : Nat) (hj : j < N) (hlink : Cond.fieldLinkNest own i C0 (T j).2.1 (T j).2.2.1 host ∈ N0) (h1 : (T j).1 = C0) (hf : fs[j]? = some (0)) (hd : decode cc pc = .ok (.getfield i, 3)) (hp : pc + 3 = pc2) (k : Go p l e R s m args below meth c D cA ad L nL cells slots Q S pc2 lv (.int (S.1 k0 j) :: st)) : Go p l e R s m args below meth c D cA ad L nL cells slots Q S pc lv (.ref (ad k0) :: st) := by
  subst hp
  exact fun H locs ls hP hS hl => va_getN (v := .int (S.1 k0 j)) C.1 C.2.1 C.2.2.2.2.2.2.1 hin C.2.2.2.2.2.1 C.2.2.2.2.2.2.2.1 hP k0 (wld_get hk) hc j hj (va_Nw.use rfl (C.2.2.2.2.2.2.2.2.1 _ hlink)) (fun x hx => by rw [h1] at hx; exact hx) (by rw [List.getElem?_mapIdx, hf]; rfl) hd (k H locs ls hP hS hl)
theorem go_getJN (C : Cx p s m args meth c cc nL ret own D cA ad L) (pc pc2 : Nat) {host : String} {C0 : String} {T : u_T} {N ci i : Nat} {fs : List Nat} (hin : ∀ w ∈ u_ws C0 T N, w ∈ T0) (k0 : Nat) (hk : L[k0]? = some (.inr (ci, fs))) (hc : vwCl[ci]? = some (C0, T, N)) (j : Nat) (hj : j < N) (hlink : Cond.fieldLinkNest own i C0 (T j).2.1 (T j).2.2.1 host ∈ N0) (h1 : (T j).1 = C0) (hf : fs[j]? = some (1)) (hd : decode cc pc = .ok (.getfield i, 3)) (hp : pc + 3 = pc2) (k : Go p l e R s m args below meth c D cA ad L nL cells slots Q S pc2 lv (.long (S.2 k0 j) :: st)) : Go p l e R s m args below meth c D cA ad L nL cells slots Q S pc lv (.ref (ad k0) :: st) := by
  subst hp
  exact fun H locs ls hP hS hl => va_getN (v := .long (S.2 k0 j)) C.1 C.2.1 C.2.2.2.2.2.2.1 hin C.2.2.2.2.2.1 C.2.2.2.2.2.2.2.1 hP k0 (wld_get hk) hc j hj (va_Nw.use rfl (C.2.2.2.2.2.2.2.2.1 _ hlink)) (fun x hx => by rw [h1] at hx; exact hx) (by rw [List.getElem?_mapIdx, hf]; rfl) hd (k H locs ls hP hS hl)
theorem go_getRN (C : Cx p s m args meth c cc nL ret own D cA ad L) (pc pc2 : Nat) {host : String} {n : Nat} {C0 : String} {T : u_T} {N ci i : Nat} {fs : List Nat} (hin : ∀ w ∈ u_ws C0 T N, w ∈ T0) (k0 : Nat) (hk : L[k0]? = some (.inr (ci, fs))) (hc : vwCl[ci]? = some (C0, T, N)) (j : Nat) (hj : j < N) (hlink : Cond.fieldLinkNest own i C0 (T j).2.1 (T j).2.2.1 host ∈ N0) (h1 : (T j).1 = C0) (hf : fs[j]? = some (n + 2)) (hd : decode cc pc = .ok (.getfield i, 3)) (hp : pc + 3 = pc2) (k : Go p l e R s m args below meth c D cA ad L nL cells slots Q S pc2 lv (.ref (ad n) :: st)) : Go p l e R s m args below meth c D cA ad L nL cells slots Q S pc lv (.ref (ad k0) :: st) := by
  subst hp
  exact fun H locs ls hP hS hl => va_getN (v := .ref (ad n)) C.1 C.2.1 C.2.2.2.2.2.2.1 hin C.2.2.2.2.2.1 C.2.2.2.2.2.2.2.1 hP k0 (wld_get hk) hc j hj (va_Nw.use rfl (C.2.2.2.2.2.2.2.2.1 _ hlink)) (fun x hx => by rw [h1] at hx; exact hx) (by rw [List.getElem?_mapIdx, hf]; rfl) hd (k H locs ls hP hS hl)
theorem go_putIN (C : Cx p s m args meth c cc nL ret own D cA ad L) (pc pc2 : Nat) {host : String} {C0 : String} {T : u_T} {N ci i : Nat} {fs : List Nat} (hin : ∀ w ∈ u_ws C0 T N, w ∈ T0) (k0 : Nat) (hk : L[k0]? = some (.inr (ci, fs))) (hc : vwCl[ci]? = some (C0, T, N)) (j : Nat) (hj : j < N) (ty0 : Nat → FieldType) (hty : ∀ k, k < N → parseFieldDescriptor (T k).2.2.1 = some (ty0 k)) (hnm : ∀ a, a < N → ∀ b, b < N → a ≠ b → (T a).2.1 ≠ (T b).2.1) (hlink : Cond.fieldLinkNest own i C0 (T j).2.1 (T j).2.2.1 host ∈ N0) (h1 : (T j).1 = C0) (hf : fs[j]? = some (0)) (hfin : (T j).2.2.2 = false) (hdd : parseFieldDescriptor (T j).2.2.1 = some .int) (hd : decode cc pc = .ok (.putfield i, 3)) (hp : pc + 3 = pc2) {v : Int32} (k : Go p l e R s m args below meth c D cA ad L nL cells slots Q (uI S k0 j v) pc2 lv st) : Go p l e R s m args below meth c D cA ad L nL cells slots Q S pc lv (.int v :: .ref (ad k0) :: st) := by
  subst hp
  intro H locs ls hP hS hl
  refine va_putN (v := .int v) C.1 C.2.1 C.2.2.2.2.2.2.1 hin ty0 hty hnm C.2.2.2.2.2.1 C.2.2.2.2.2.2.2.1 hP (wld_D C.2.2.2.2.2.2.2.2.2.1) hS k0 (wld_get hk) hc j hj (va_Nw.use rfl (C.2.2.2.2.2.2.2.2.1 _ hlink)) (fun x hx => by rw [h1] at hx; exact hx) hfin hdd (by rfl) (by rfl) (by rw [List.length_mapIdx]; exact (List.getElem?_eq_some_iff.mp hf).1) hd (fun H1 locs1 hP1 _ hS1 => k H1 locs1 ls ?_ hS1 hl)
  have e := wld_set (cA := cA) (ad := ad) (L := L) (S := S) (S' := (uI S k0 j v)) (k := k0) hk (e := .inr (ci, (fs.mapIdx (fun j q => lval ad S k0 j q)).set j (.int v))) (by
    show Sum.inr (ci, fs.mapIdx _) = _
    rw [obj_set (S := S) (S' := (uI S k0 j v)) (v := .int v) hf (by show Value.int _ = _; rw [uI_at]) (fun i h => ⟨uI_ne (fun q => h q.2), rfl⟩)]) uI_other
  rw [← e]
  exact hP1
theorem go_putJN (C : Cx p s m args meth c cc nL ret own D cA ad L) (pc pc2 : Nat) {host : String} {C0 : String} {T : u_T} {N ci i : Nat} {fs : List Nat} (hin : ∀ w ∈ u_ws C0 T N, w ∈ T0) (k0 : Nat) (hk : L[k0]? = some (.inr (ci, fs))) (hc : vwCl[ci]? = some (C0, T, N)) (j : Nat) (hj : j < N) (ty0 : Nat → FieldType) (hty : ∀ k, k < N → parseFieldDescriptor (T k).2.2.1 = some (ty0 k)) (hnm : ∀ a, a < N → ∀ b, b < N → a ≠ b → (T a).2.1 ≠ (T b).2.1) (hlink : Cond.fieldLinkNest own i C0 (T j).2.1 (T j).2.2.1 host ∈ N0) (h1 : (T j).1 = C0) (hf : fs[j]? = some (1)) (hfin : (T j).2.2.2 = false) (hdd : parseFieldDescriptor (T j).2.2.1 = some .long) (hd : decode cc pc = .ok (.putfield i, 3)) (hp : pc + 3 = pc2) {v : Int64} (k : Go p l e R s m args below meth c D cA ad L nL cells slots Q (uJ S k0 j v) pc2 lv st) : Go p l e R s m args below meth c D cA ad L nL cells slots Q S pc lv (.long v :: .ref (ad k0) :: st) := by
  subst hp
  intro H locs ls hP hS hl
  refine va_putN (v := .long v) C.1 C.2.1 C.2.2.2.2.2.2.1 hin ty0 hty hnm C.2.2.2.2.2.1 C.2.2.2.2.2.2.2.1 hP (wld_D C.2.2.2.2.2.2.2.2.2.1) hS k0 (wld_get hk) hc j hj (va_Nw.use rfl (C.2.2.2.2.2.2.2.2.1 _ hlink)) (fun x hx => by rw [h1] at hx; exact hx) hfin hdd (by rfl) (by rfl) (by rw [List.length_mapIdx]; exact (List.getElem?_eq_some_iff.mp hf).1) hd (fun H1 locs1 hP1 _ hS1 => k H1 locs1 ls ?_ hS1 hl)
  have e := wld_set (cA := cA) (ad := ad) (L := L) (S := S) (S' := (uJ S k0 j v)) (k := k0) hk (e := .inr (ci, (fs.mapIdx (fun j q => lval ad S k0 j q)).set j (.long v))) (by
    show Sum.inr (ci, fs.mapIdx _) = _
    rw [obj_set (S := S) (S' := (uJ S k0 j v)) (v := .long v) hf (by show Value.long _ = _; rw [uJ_at]) (fun i h => ⟨rfl, uJ_ne (fun q => h q.2)⟩)]) uJ_other
  rw [← e]
  exact hP1
theorem go_iald (C : Cx p s m args meth c cc nL ret own D cA ad L) (pc pc2 : Nat) {n b : Nat} (k0 : Nat) (hk : L[k0]? = some (.inl (0, n, b))) {i : Int32} (hi : vp_in i n) (hd : decode cc pc = .ok (.iaload, 1)) (hp : pc + 1 = pc2) (k : Go p l e R s m args below meth c D cA ad L nL cells slots Q S pc2 lv (.int (S.1 k0 i.toNatClampNeg) :: st)) : Go p l e R s m args below meth c D cA ad L nL cells slots Q S pc lv (.int i :: .ref (ad k0) :: st) := by
  subst hp
  exact fun H locs ls hP hS hl => va_iald C.1 C.2.1 C.2.2.2.2.2.2.2.1 hP k0 0 (wld_get hk) rfl hi hd (k H locs ls hP hS hl)
theorem go_zald (C : Cx p s m args meth c cc nL ret own D cA ad L) (pc pc2 : Nat) {n b : Nat} (k0 : Nat) (hk : L[k0]? = some (.inl (2, n, b))) {i : Int32} (hi : vp_in i n) (hd : decode cc pc = .ok (.baload, 1)) (hp : pc + 1 = pc2) (k : Go p l e R s m args below meth c D cA ad L nL cells slots Q S pc2 lv (.int (S.1 k0 i.toNatClampNeg) :: st)) : Go p l e R s m args below meth c D cA ad L nL cells slots Q S pc lv (.int i :: .ref (ad k0) :: st) := by
  subst hp
  exact fun H locs ls hP hS hl => va_zald C.1 C.2.1 C.2.2.2.2.2.2.2.1 hP k0 2 (wld_get hk) rfl hi hd (k H locs ls hP hS hl)
theorem go_lald (C : Cx p s m args meth c cc nL ret own D cA ad L) (pc pc2 : Nat) {n b : Nat} (k0 : Nat) (hk : L[k0]? = some (.inl (1, n, b))) {i : Int32} (hi : vp_in i n) (hd : decode cc pc = .ok (.laload, 1)) (hp : pc + 1 = pc2) (k : Go p l e R s m args below meth c D cA ad L nL cells slots Q S pc2 lv (.long (S.2 k0 i.toNatClampNeg) :: st)) : Go p l e R s m args below meth c D cA ad L nL cells slots Q S pc lv (.int i :: .ref (ad k0) :: st) := by
  subst hp
  exact fun H locs ls hP hS hl => va_lald C.1 C.2.1 C.2.2.2.2.2.2.2.1 hP k0 1 (wld_get hk) rfl hi hd (k H locs ls hP hS hl)
theorem go_iast (C : Cx p s m args meth c cc nL ret own D cA ad L) (pc pc2 : Nat) {n b : Nat} (k0 : Nat) (hk : L[k0]? = some (.inl (0, n, b))) {i : Int32} {v : Int32} (hi : vp_in i n) (hd : decode cc pc = .ok (.iastore, 1)) (hp : pc + 1 = pc2) (k : Go p l e R s m args below meth c D cA ad L nL cells slots Q (uI S k0 i.toNatClampNeg v) pc2 lv st) : Go p l e R s m args below meth c D cA ad L nL cells slots Q S pc lv (.int v :: .int i :: .ref (ad k0) :: st) := by
  subst hp
  intro H locs ls hP hS hl
  refine va_iast C.1 C.2.1 C.2.2.2.2.2.2.2.1 hP (wld_D C.2.2.2.2.2.2.2.2.2.1) hS k0 0 (wld_get hk) rfl hi hd (fun H1 locs1 hP1 _ hS1 => k H1 locs1 ls ?_ hS1 hl)
  have e := wld_set (cA := cA) (ad := ad) (L := L) (S := S) (S' := (uI S k0 i.toNatClampNeg v)) (k := k0) hk (e := .inl (cA 0, n, .inl (upd (S.1 k0) i.toNatClampNeg v))) (by
    show Sum.inl (cA 0, n, _) = _
    rw [uI_upd]) uI_other
  rw [← e]
  exact hP1
theorem go_zast (C : Cx p s m args meth c cc nL ret own D cA ad L) (pc pc2 : Nat) {n b : Nat} (k0 : Nat) (hk : L[k0]? = some (.inl (2, n, b))) {i : Int32} {v : Int32} (hi : vp_in i n) (hd : decode cc pc = .ok (.bastore, 1)) (hp : pc + 1 = pc2) (k : Go p l e R s m args below meth c D cA ad L nL cells slots Q (uI S k0 i.toNatClampNeg (vp_nar .boolean v)) pc2 lv st) : Go p l e R s m args below meth c D cA ad L nL cells slots Q S pc lv (.int v :: .int i :: .ref (ad k0) :: st) := by
  subst hp
  intro H locs ls hP hS hl
  refine va_zast C.1 C.2.1 C.2.2.2.2.2.2.2.1 hP (wld_D C.2.2.2.2.2.2.2.2.2.1) hS k0 2 (wld_get hk) rfl hi hd (fun H1 locs1 hP1 _ hS1 => k H1 locs1 ls ?_ hS1 hl)
  have e := wld_set (cA := cA) (ad := ad) (L := L) (S := S) (S' := (uI S k0 i.toNatClampNeg (vp_nar .boolean v))) (k := k0) hk (e := .inl (cA 2, n, .inl (upd (S.1 k0) i.toNatClampNeg (vp_nar .boolean v)))) (by
    show Sum.inl (cA 2, n, _) = _
    rw [uI_upd]) uI_other
  rw [← e]
  exact hP1
theorem go_last (C : Cx p s m args meth c cc nL ret own D cA ad L) (pc pc2 : Nat) {n b : Nat} (k0 : Nat) (hk : L[k0]? = some (.inl (1, n, b))) {i : Int32} {v : Int64} (hi : vp_in i n) (hd : decode cc pc = .ok (.lastore, 1)) (hp : pc + 1 = pc2) (k : Go p l e R s m args below meth c D cA ad L nL cells slots Q (uJ S k0 i.toNatClampNeg v) pc2 lv st) : Go p l e R s m args below meth c D cA ad L nL cells slots Q S pc lv (.long v :: .int i :: .ref (ad k0) :: st) := by
  subst hp
  intro H locs ls hP hS hl
  refine va_last C.1 C.2.1 C.2.2.2.2.2.2.2.1 hP (wld_D C.2.2.2.2.2.2.2.2.2.1) hS k0 1 (wld_get hk) rfl hi hd (fun H1 locs1 hP1 _ hS1 => k H1 locs1 ls ?_ hS1 hl)
  have e := wld_set (cA := cA) (ad := ad) (L := L) (S := S) (S' := (uJ S k0 i.toNatClampNeg v)) (k := k0) hk (e := .inl (cA 1, n, .inr (.inl (vp_updL (S.2 k0) i.toNatClampNeg v)))) (by
    show Sum.inl (cA 1, n, _) = _
    rw [uJ_upd]) uJ_other
  rw [← e]
  exact hP1
theorem go_aald3 (C : Cx p s m args meth c cc nL ret own D cA ad L) (pc pc2 : Nat) {n b : Nat} (k0 : Nat) (hk : L[k0]? = some (.inl (3, n, b))) {i : Int32} (hi : vp_in i n) (hd : decode cc pc = .ok (.aaload, 1)) (hp : pc + 1 = pc2) (k : Go p l e R s m args below meth c D cA ad L nL cells slots Q S pc2 lv (.ref (ad (b + i.toNatClampNeg)) :: st)) : Go p l e R s m args below meth c D cA ad L nL cells slots Q S pc lv (.int i :: .ref (ad k0) :: st) := by
  subst hp
  intro H locs ls hP hS hl
  have hlt : i.toNatClampNeg < n := Nat.not_le.mp fun q => hi (Or.inr q)
  have hc : H[ad k0]? = some (vp_cell (cA 3) (n, .inr (.inr (.inr (.inr (fun i => if i < n then some (ad (b + i)) else none)))))) := hP k0 _ (wld_get hk)
  exact W.aald (v := .ref (ad (b + i.toNatClampNeg))) (ty := .array .int) C.1 C.2.1 hc ((C.2.2.2.2.2.2.2.1.2 3 _ rfl).1 n (fun j => va_rf (if j < n then some (ad (b + j)) else none))) rfl (fun q => by cases q) (by show ¬ (i < 0 ∨ (arrV _ _ _).slots.size ≤ _); rw [arrV_size]; exact hi) (by show (arrV _ _ _).slots[_]? = _; rw [arrV_read _ _ hlt]; simp [hlt, va_rf]) rfl rfl hd (k H locs ls hP hS hl)
theorem go_aald4 (C : Cx p s m args meth c cc nL ret own D cA ad L) (pc pc2 : Nat) {n b : Nat} (k0 : Nat) (hk : L[k0]? = some (.inl (4, n, b))) {i : Int32} (hi : vp_in i n) (hd : decode cc pc = .ok (.aaload, 1)) (hp : pc + 1 = pc2) (k : Go p l e R s m args below meth c D cA ad L nL cells slots Q S pc2 lv (.ref (ad (b + i.toNatClampNeg)) :: st)) : Go p l e R s m args below meth c D cA ad L nL cells slots Q S pc lv (.int i :: .ref (ad k0) :: st) := by
  subst hp
  intro H locs ls hP hS hl
  have hlt : i.toNatClampNeg < n := Nat.not_le.mp fun q => hi (Or.inr q)
  have hc : H[ad k0]? = some (vp_cell (cA 4) (n, .inr (.inr (.inr (.inr (fun i => if i < n then some (ad (b + i)) else none)))))) := hP k0 _ (wld_get hk)
  exact W.aald (v := .ref (ad (b + i.toNatClampNeg))) (ty := .array .long) C.1 C.2.1 hc ((C.2.2.2.2.2.2.2.1.2 4 _ rfl).1 n (fun j => va_rf (if j < n then some (ad (b + j)) else none))) rfl (fun q => by cases q) (by show ¬ (i < 0 ∨ (arrV _ _ _).slots.size ≤ _); rw [arrV_size]; exact hi) (by show (arrV _ _ _).slots[_]? = _; rw [arrV_read _ _ hlt]; simp [hlt, va_rf]) rfl rfl hd (k H locs ls hP hS hl)
theorem go_alen (C : Cx p s m args meth c cc nL ret own D cA ad L) (pc pc2 : Nat) {t n b : Nat} (k0 : Nat) (hk : L[k0]? = some (.inl (t, n, b))) {ty : FieldType} (ht : (tysA cA)[t]? = some (cA t, ty)) (hn : ∀ S : St, (larr ad S k0 n b t).1 = n) (hd : decode cc pc = .ok (.arraylength, 1)) (hp : pc + 1 = pc2) (k : Go p l e R s m args below meth c D cA ad L nL cells slots Q S pc2 lv (.int (Int32.ofNat n) :: st)) : Go p l e R s m args below meth c D cA ad L nL cells slots Q S pc lv (.ref (ad k0) :: st) := by
  subst hp
  exact fun H locs ls hP hS hl => va_alen C.1 C.2.1 C.2.2.2.2.2.2.2.1 hP k0 t (wld_get hk) ht (by show Int32.ofNat (larr ad S k0 n b t).1 = _; rw [hn]) hd (k H locs ls hP hS hl)
theorem go_fact (C : Cx p s m args meth c cc nL ret own D cA ad L) (pc pc2 : Nat) {ix : Nat} (hlink : Cond.fieldLink own ix "BillHouse" "FACTORIALS" "[J" ∈ T0) (hd : decode cc pc = .ok (.getstatic ix, 3)) (hp : pc + 3 = pc2) (k : ∀ t, va_T .long t 9 (fun j => .long (factT j)) (wA ad L s.heap.size) s s.heap → Go p l e R s m args below meth c D cA ad L nL cells slots Q S pc2 lv (.ref t :: st)) : Go p l e R s m args below meth c D cA ad L nL cells slots Q S pc lv st := by
  subst hp
  intro H locs ls hP hS hl
  obtain ⟨t, h1, h2⟩ := C.2.2.2.2.2.2.2.2.2.2
  exact va_gets C.1 C.2.1 h1 hS C.2.2.2.2.2.1 (C.2.2.2.2.2.2.1 _ hlink) (fun x h => h) hd (k t h2 H locs ls hP hS hl)
theorem go_factN (C : Cx p s m args meth c cc nL ret own D cA ad L) (pc pc2 : Nat) {ix : Nat} {host : String} (hlink : Cond.fieldLinkNest own ix "BillHouse" "FACTORIALS" "[J" host ∈ N0) (hd : decode cc pc = .ok (.getstatic ix, 3)) (hp : pc + 3 = pc2) (k : ∀ t, va_T .long t 9 (fun j => .long (factT j)) (wA ad L s.heap.size) s s.heap → Go p l e R s m args below meth c D cA ad L nL cells slots Q S pc2 lv (.ref t :: st)) : Go p l e R s m args below meth c D cA ad L nL cells slots Q S pc lv st := by
  subst hp
  intro H locs ls hP hS hl
  obtain ⟨t, h1, h2⟩ := C.2.2.2.2.2.2.2.2.2.2
  exact va_getsN C.1 C.2.1 h1 hS C.2.2.2.2.2.1 (va_Nw.use rfl (C.2.2.2.2.2.2.2.2.1 _ hlink)) (fun x h => h) hd (k t h2 H locs ls hP hS hl)
theorem go_factLd (C : Cx p s m args meth c cc nL ret own D cA ad L) (pc pc2 : Nat) {t : Nat} (hT : va_T .long t 9 (fun j => .long (factT j)) (wA ad L s.heap.size) s s.heap) {i : Int32} (hi : vp_in i 9) (hd : decode cc pc = .ok (.laload, 1)) (hp : pc + 1 = pc2) (k : Go p l e R s m args below meth c D cA ad L nL cells slots Q S pc2 lv (.long (factT i.toNatClampNeg) :: st)) : Go p l e R s m args below meth c D cA ad L nL cells slots Q S pc lv (.int i :: .ref t :: st) := by
  subst hp
  exact fun H locs ls hP hS hl => va_tl C.1 C.2.1 hT hS hi rfl hd (k H locs ls hP hS hl)
theorem go_factLen (C : Cx p s m args meth c cc nL ret own D cA ad L) (pc pc2 : Nat) {t : Nat} (hT : va_T .long t 9 (fun j => .long (factT j)) (wA ad L s.heap.size) s s.heap) (hd : decode cc pc = .ok (.arraylength, 1)) (hp : pc + 1 = pc2) (k : Go p l e R s m args below meth c D cA ad L nL cells slots Q S pc2 lv (.int 9 :: st)) : Go p l e R s m args below meth c D cA ad L nL cells slots Q S pc lv (.ref t :: st) := by
  subst hp
  exact fun H locs ls hP hS hl => va_tlen C.1 C.2.1 hT hS rfl hd (k H locs ls hP hS hl)
theorem go_absI (C : Cx p s m args meth c cc nL ret own D cA ad L) (pc pc2 : Nat) {ix : Nat} (hlink : Cond.methodLink own ix Lib.Math.abs.name ∈ T0) (hstat : Cond.static Lib.Math.abs.name ∈ T0) (hini : Cond.initialized "java/lang/Math" ∈ T0) (hcode : Cond.code Lib.Math.abs.name Lib.Math.abs.code 1 (some .int) ∈ T0) (hf : 1 ≤ R.frames) (hlo : (st.map fun v => v.category).sum + 13 ≤ R.locals) (hc : cells ≤ R.cells) (hs : slots ≤ R.slots) {x : Int32} (hd : decode cc pc = .ok (.invokestatic ix, 3)) (hp : pc + 3 = pc2) (k : Go p l e R s m args below meth c D cA ad L nL cells slots Q S pc2 lv (.int (if 0 ≤ x then x else 0 - x) :: st)) : Go p l e R s m args below meth c D cA ad L nL cells slots Q S pc lv (.int x :: st) := by
  subst hp
  exact fun H locs ls hP hS hl => va_mabs C.1 C.2.1 (C.2.2.1.trans hl.1.symm) C.2.2.2.2.2.1 (C.2.2.2.2.2.2.1 _ hlink) (C.2.2.2.2.2.2.1 _ hstat) (C.2.2.2.2.2.2.1 _ hini) (C.2.2.2.2.2.2.1 _ hcode) hf hlo hc hs hd (k H locs ls hP hS hl)
theorem go_absL (C : Cx p s m args meth c cc nL ret own D cA ad L) (pc pc2 : Nat) {ix : Nat} (hlink : Cond.methodLink own ix Lib.MathLoose.abs_long.x ∈ T0) (hstat : Cond.static Lib.MathLoose.abs_long.x ∈ T0) (hini : Cond.initialized "java/lang/Math" ∈ T0) (hcode : Cond.code Lib.MathLoose.abs_long.x Lib.MathLoose.abs_long.code 2 (some .long) ∈ T0) (hf : 1 ≤ R.frames) (hlo : (st.map fun v => v.category).sum + 13 ≤ R.locals) (hc : cells ≤ R.cells) (hs : slots ≤ R.slots) {x : Int64} (hd : decode cc pc = .ok (.invokestatic ix, 3)) (hp : pc + 3 = pc2) (k : Go p l e R s m args below meth c D cA ad L nL cells slots Q S pc2 lv (.long (if 0 < x then x else -x) :: st)) : Go p l e R s m args below meth c D cA ad L nL cells slots Q S pc lv (.long x :: st) := by
  subst hp
  exact fun H locs ls hP hS hl => va_mabs_long C.1 C.2.1 (C.2.2.1.trans hl.1.symm) C.2.2.2.2.2.1 (C.2.2.2.2.2.2.1 _ hlink) (C.2.2.2.2.2.2.1 _ hstat) (C.2.2.2.2.2.2.1 _ hini) (C.2.2.2.2.2.2.1 _ hcode) hf hlo hc hs hd (k H locs ls hP hS hl)
theorem go_iret (C : Cx p s m args meth c cc nL ret own D cA ad L) (pc : Nat) {v : Int32} (hr : ret = some .int) {post : Int32 → St → Prop} (hd : decode cc pc = .ok (.ireturn, 1)) (h : post v S) : Go p l e R s m args below meth c D cA ad L nL cells slots (QI D cA ad L below args s cells slots post) S pc lv [.int v] := by
  intro H locs ls hP hS hl
  have hlk := C.2.2.2.2.1
  exact W.iret C.1 C.2.1 (C.2.2.2.1.trans hr) (fun t ht hW => ⟨⟨v, S, rfl, h, by show va_P _ _ _ _; rw [ht]; exact hP⟩, hS.F ht⟩) hS.2.2 hd
theorem go_zret (C : Cx p s m args meth c cc nL ret own D cA ad L) (pc : Nat) {v : Int32} (hz : narrow .boolean (.int v) = .int v) (hr : ret = some .boolean) {post : Int32 → St → Prop} (hd : decode cc pc = .ok (.ireturn, 1)) (h : post v S) : Go p l e R s m args below meth c D cA ad L nL cells slots (QI D cA ad L below args s cells slots post) S pc lv [.int v] := by
  intro H locs ls hP hS hl
  have hlk := C.2.2.2.2.1
  exact W.zret C.1 C.2.1 (C.2.2.2.1.trans hr) hz (fun t ht hW => ⟨⟨v, S, rfl, h, by show va_P _ _ _ _; rw [ht]; exact hP⟩, hS.F ht⟩) hS.2.2 hd
theorem go_lret (C : Cx p s m args meth c cc nL ret own D cA ad L) (pc : Nat) {v : Int64} (hr : ret = some .long) {post : Int64 → St → Prop} (hd : decode cc pc = .ok (.lreturn, 1)) (h : post v S) : Go p l e R s m args below meth c D cA ad L nL cells slots (QL D cA ad L below args s cells slots post) S pc lv [.long v] := by
  intro H locs ls hP hS hl
  have hlk := C.2.2.2.2.1
  exact W.lret C.1 C.2.1 (C.2.2.2.1.trans hr) (fun t ht hW => ⟨⟨v, S, rfl, h, by show va_P _ _ _ _; rw [ht]; exact hP⟩, hS.F ht⟩) hS.2.2 hd
theorem go_vret (C : Cx p s m args meth c cc nL ret own D cA ad L) (pc : Nat)  (hr : ret = none) {post : St → Prop} (hd : decode cc pc = .ok (.return_, 1)) (h : post S) : Go p l e R s m args below meth c D cA ad L nL cells slots (QV D cA ad L below args s cells slots post) S pc lv [] := by
  intro H locs ls hP hS hl
  have hlk := C.2.2.2.2.1
  exact W.vret C.1 C.2.1 (C.2.2.2.1.trans hr) (fun t ht hW => ⟨⟨S, rfl, h, by show va_P _ _ _ _; rw [ht]; exact hP⟩, hS.F ht⟩) hS.2.2 hd
theorem go_widen {k n pc : Nat} (h1 : cells ≤ k) (h2 : slots ≤ n) (kk : Go p l e R s m args below meth c D cA ad L nL k n Q S pc lv st) : Go p l e R s m args below meth c D cA ad L nL cells slots Q S pc lv st :=
  fun H locs ls hP hS hl => W.widen h1 h2 (kk H locs ls hP hS hl)
theorem go_vi (C : Cx p s m args meth c cc nL ret own D cA ad L) (pc pc2 cells2 slots2 : Nat) {stk : List Value} {y : MethodName} {b2 : ByteArray} {n2 ix mc ms : Nat} {ret2 : Option FieldType} {rm : Room} {post : Int32 → St → Prop} (As : List Value) {fs : List Nat} {ci : Nat} {T : u_T} {N : Nat} (k0 : Nat) (hk : L[k0]? = some (.inr (ci, fs))) (hcl : vwCl[ci]? = some (y.cls, T, N)) (hM : MetI l y b2 n2 ret2 rm D cA ad L (.ref (ad k0) :: As) S post mc ms) (hlink : Cond.methodLink own ix y ∈ T0) (hcode : Cond.code y b2 n2 ret2 ∈ T0) (hini : Cond.initialized y.cls ∈ T0) (hinst : Cond.instanceMethod y ∈ T0) (hsel : Cond.selects y.cls y y ∈ T0) (hdsc : (parseMethodDescriptor y.desc).map (fun d => d.parameters.length) = some As.length) (hmh : y.cls ≠ "java/lang/invoke/MethodHandle" ∧ y.cls ≠ "java/lang/invoke/VarHandle") (hR : rm.frames + 1 ≤ R.frames ∧ 8 + (n2 + 11) + rm.locals ≤ R.locals) (hf : cells + mc ≤ R.cells ∧ slots + ms ≤ R.slots) (hrc : rm.cells = mc) (hrs : rm.slots = ms) (hc2 : cells + mc = cells2) (hs2 : slots + ms = slots2) (hrm : (st.map fun v => v.category).sum ≤ 8) (hp : pc + 3 = pc2) (hst : stk = As.reverse ++ .ref (ad k0) :: st) (hd : decode cc pc = .ok (.invokevirtual ix, 3)) (k : ∀ (r : Int32) (S2 : St), post r S2 → Go p l e R s m args below meth c D cA ad L nL cells2 slots2 Q S2 pc2 lv (.int r :: st)) : Go p l e R s m args below meth c D cA ad L nL cells slots Q S pc lv stk := by
  subst hp
  subst hst
  subst hc2
  subst hs2
  intro H locs ls hP hS hl
  exact va_calli (va_runV (As := As) (rest := st) ⟨C.1, C.2.1, C.2.2.1, C.2.2.2.2.2.1, C.2.2.2.2.2.2.1⟩ (hM H.size) ⟨callB_of As.length C.2.2.2.2.2.2.1 (T0_call hcode) rfl hrc hrs (C.2.2.2.2.2.2.1 _ hini) (C.2.2.2.2.2.2.1 _ hlink) ⟨hmh.1, hmh.2, hdsc⟩ hR, C.2.2.2.2.2.2.1 _ hinst, C.2.2.2.2.2.2.1 _ hsel⟩ ⟨Pre.blind, va_recv C.2.2.2.2.2.2.2.1 hP hcl (wld_get hk), fun U hU hW => ⟨rfl, by rw [hU], by rw [hU]; exact hP, C.2.2.2.2.2.2.2.warm hW hU hS⟩⟩ rfl rfl hl.1 rfl (lv_room hrm) hd hf) hS (fun q hlt h => wA_mono hS.1 q h) (fun q h => wA_mono hS.1 q h) (fun r u t H1 locs1 ht hvm hp hB hz1 hk1 hS1 => k r u hp H1 locs1 ls (by rw [← ht]; exact hB) hS1 hl)
theorem go_si (C : Cx p s m args meth c cc nL ret own D cA ad L) (pc pc2 cells2 slots2 : Nat) {stk : List Value} {y : MethodName} {b2 : ByteArray} {n2 ix mc ms : Nat} {ret2 : Option FieldType} {rm : Room} {post : Int32 → St → Prop} (As : List Value) (hM : MetI l y b2 n2 ret2 rm D cA ad L As S post mc ms) (hlink : Cond.methodLink own ix y ∈ T0) (hcode : Cond.code y b2 n2 ret2 ∈ T0) (hini : Cond.initialized y.cls ∈ T0) (hstat : Cond.static y ∈ T0) (hdsc : (parseMethodDescriptor y.desc).map (fun d => d.parameters.length) = some As.length) (hmh : y.cls ≠ "java/lang/invoke/MethodHandle" ∧ y.cls ≠ "java/lang/invoke/VarHandle") (hR : rm.frames + 1 ≤ R.frames ∧ 8 + (n2 + 11) + rm.locals ≤ R.locals) (hf : cells + mc ≤ R.cells ∧ slots + ms ≤ R.slots) (hrc : rm.cells = mc) (hrs : rm.slots = ms) (hc2 : cells + mc = cells2) (hs2 : slots + ms = slots2) (hrm : (st.map fun v => v.category).sum ≤ 8) (hp : pc + 3 = pc2) (hst : stk = As.reverse ++ st) (hd : decode cc pc = .ok (.invokestatic ix, 3)) (k : ∀ (r : Int32) (S2 : St), post r S2 → Go p l e R s m args below meth c D cA ad L nL cells2 slots2 Q S2 pc2 lv (.int r :: st)) : Go p l e R s m args below meth c D cA ad L nL cells slots Q S pc lv stk := by
  subst hp
  subst hst
  subst hc2
  subst hs2
  intro H locs ls hP hS hl
  exact va_calli (va_runS (As := As) (rest := st) ⟨C.1, C.2.1, C.2.2.1, C.2.2.2.2.2.1, C.2.2.2.2.2.2.1⟩ (hM H.size) ⟨callB_of As.length C.2.2.2.2.2.2.1 (T0_call hcode) rfl hrc hrs (C.2.2.2.2.2.2.1 _ hini) (C.2.2.2.2.2.2.1 _ hlink) ⟨hmh.1, hmh.2, hdsc⟩ hR, C.2.2.2.2.2.2.1 _ hstat⟩ ⟨Pre.blind, fun U hU hW => ⟨rfl, by rw [hU], by rw [hU]; exact hP, C.2.2.2.2.2.2.2.warm hW hU hS⟩⟩ rfl rfl hl.1 rfl (lv_room hrm) hd hf) hS (fun q hlt h => wA_mono hS.1 q h) (fun q h => wA_mono hS.1 q h) (fun r u t H1 locs1 ht hvm hp hB hz1 hk1 hS1 => k r u hp H1 locs1 ls (by rw [← ht]; exact hB) hS1 hl)
theorem go_viN (C : Cx p s m args meth c cc nL ret own D cA ad L) (pc pc2 cells2 slots2 : Nat) {stk : List Value} {y : MethodName} {b2 : ByteArray} {n2 ix mc ms : Nat} {ret2 : Option FieldType} {rm : Room} {post : Int32 → St → Prop} (As : List Value) {fs : List Nat} {ci : Nat} {T : u_T} {N : Nat} (k0 : Nat) (hk : L[k0]? = some (.inr (ci, fs))) (hcl : vwCl[ci]? = some (y.cls, T, N)) (hM : MetI l y b2 n2 ret2 rm D cA ad L (.ref (ad k0) :: As) S post mc ms) {host : String} (hlink : Cond.methodLinkNest own ix y host ∈ N0) (hcode : Cond.code y b2 n2 ret2 ∈ T0) (hini : Cond.initialized y.cls ∈ T0) (hinst : Cond.instanceMethod y ∈ T0) (hsel : Cond.selects y.cls y y ∈ T0) (hdsc : (parseMethodDescriptor y.desc).map (fun d => d.parameters.length) = some As.length) (hmh : y.cls ≠ "java/lang/invoke/MethodHandle" ∧ y.cls ≠ "java/lang/invoke/VarHandle") (hR : rm.frames + 1 ≤ R.frames ∧ 8 + (n2 + 11) + rm.locals ≤ R.locals) (hf : cells + mc ≤ R.cells ∧ slots + ms ≤ R.slots) (hrc : rm.cells = mc) (hrs : rm.slots = ms) (hc2 : cells + mc = cells2) (hs2 : slots + ms = slots2) (hrm : (st.map fun v => v.category).sum ≤ 8) (hp : pc + 3 = pc2) (hst : stk = As.reverse ++ .ref (ad k0) :: st) (hd : decode cc pc = .ok (.invokevirtual ix, 3)) (k : ∀ (r : Int32) (S2 : St), post r S2 → Go p l e R s m args below meth c D cA ad L nL cells2 slots2 Q S2 pc2 lv (.int r :: st)) : Go p l e R s m args below meth c D cA ad L nL cells slots Q S pc lv stk := by
  subst hp
  subst hst
  subst hc2
  subst hs2
  intro H locs ls hP hS hl
  exact va_calli (va_runVN (As := As) (rest := st) ⟨C.1, C.2.1, C.2.2.1, C.2.2.2.2.2.1, C.2.2.2.2.2.2.1⟩ (hM H.size) ⟨va_cnB As.length C.2.2.2.2.2.2.1 (T0_call hcode) rfl hrc hrs (C.2.2.2.2.2.2.2.2.1 _ hlink) (C.2.2.2.2.2.2.1 _ hini) ⟨hmh.1, hmh.2, hdsc⟩ hR, C.2.2.2.2.2.2.1 _ hinst, C.2.2.2.2.2.2.1 _ hsel⟩ ⟨Pre.blind, va_recv C.2.2.2.2.2.2.2.1 hP hcl (wld_get hk), fun U hU hW => ⟨rfl, by rw [hU], by rw [hU]; exact hP, C.2.2.2.2.2.2.2.warm hW hU hS⟩⟩ rfl rfl hl.1 rfl (lv_room hrm) hd hf) hS (fun q hlt h => wA_mono hS.1 q h) (fun q h => wA_mono hS.1 q h) (fun r u t H1 locs1 ht hvm hp hB hz1 hk1 hS1 => k r u hp H1 locs1 ls (by rw [← ht]; exact hB) hS1 hl)
theorem go_siN (C : Cx p s m args meth c cc nL ret own D cA ad L) (pc pc2 cells2 slots2 : Nat) {stk : List Value} {y : MethodName} {b2 : ByteArray} {n2 ix mc ms : Nat} {ret2 : Option FieldType} {rm : Room} {post : Int32 → St → Prop} (As : List Value) (hM : MetI l y b2 n2 ret2 rm D cA ad L As S post mc ms) {host : String} (hlink : Cond.methodLinkNest own ix y host ∈ N0) (hcode : Cond.code y b2 n2 ret2 ∈ T0) (hini : Cond.initialized y.cls ∈ T0) (hstat : Cond.static y ∈ T0) (hdsc : (parseMethodDescriptor y.desc).map (fun d => d.parameters.length) = some As.length) (hmh : y.cls ≠ "java/lang/invoke/MethodHandle" ∧ y.cls ≠ "java/lang/invoke/VarHandle") (hR : rm.frames + 1 ≤ R.frames ∧ 8 + (n2 + 11) + rm.locals ≤ R.locals) (hf : cells + mc ≤ R.cells ∧ slots + ms ≤ R.slots) (hrc : rm.cells = mc) (hrs : rm.slots = ms) (hc2 : cells + mc = cells2) (hs2 : slots + ms = slots2) (hrm : (st.map fun v => v.category).sum ≤ 8) (hp : pc + 3 = pc2) (hst : stk = As.reverse ++ st) (hd : decode cc pc = .ok (.invokestatic ix, 3)) (k : ∀ (r : Int32) (S2 : St), post r S2 → Go p l e R s m args below meth c D cA ad L nL cells2 slots2 Q S2 pc2 lv (.int r :: st)) : Go p l e R s m args below meth c D cA ad L nL cells slots Q S pc lv stk := by
  subst hp
  subst hst
  subst hc2
  subst hs2
  intro H locs ls hP hS hl
  exact va_calli (va_runSN (As := As) (rest := st) ⟨C.1, C.2.1, C.2.2.1, C.2.2.2.2.2.1, C.2.2.2.2.2.2.1⟩ (hM H.size) ⟨va_cnB As.length C.2.2.2.2.2.2.1 (T0_call hcode) rfl hrc hrs (C.2.2.2.2.2.2.2.2.1 _ hlink) (C.2.2.2.2.2.2.1 _ hini) ⟨hmh.1, hmh.2, hdsc⟩ hR, C.2.2.2.2.2.2.1 _ hstat, trivial⟩ ⟨Pre.blind, fun U hU hW => ⟨rfl, by rw [hU], by rw [hU]; exact hP, C.2.2.2.2.2.2.2.warm hW hU hS⟩⟩ rfl rfl hl.1 rfl (lv_room hrm) hd hf) hS (fun q hlt h => wA_mono hS.1 q h) (fun q h => wA_mono hS.1 q h) (fun r u t H1 locs1 ht hvm hp hB hz1 hk1 hS1 => k r u hp H1 locs1 ls (by rw [← ht]; exact hB) hS1 hl)
theorem go_vl (C : Cx p s m args meth c cc nL ret own D cA ad L) (pc pc2 cells2 slots2 : Nat) {stk : List Value} {y : MethodName} {b2 : ByteArray} {n2 ix mc ms : Nat} {ret2 : Option FieldType} {rm : Room} {post : Int64 → St → Prop} (As : List Value) {fs : List Nat} {ci : Nat} {T : u_T} {N : Nat} (k0 : Nat) (hk : L[k0]? = some (.inr (ci, fs))) (hcl : vwCl[ci]? = some (y.cls, T, N)) (hM : MetL l y b2 n2 ret2 rm D cA ad L (.ref (ad k0) :: As) S post mc ms) (hlink : Cond.methodLink own ix y ∈ T0) (hcode : Cond.code y b2 n2 ret2 ∈ T0) (hini : Cond.initialized y.cls ∈ T0) (hinst : Cond.instanceMethod y ∈ T0) (hsel : Cond.selects y.cls y y ∈ T0) (hdsc : (parseMethodDescriptor y.desc).map (fun d => d.parameters.length) = some As.length) (hmh : y.cls ≠ "java/lang/invoke/MethodHandle" ∧ y.cls ≠ "java/lang/invoke/VarHandle") (hR : rm.frames + 1 ≤ R.frames ∧ 8 + (n2 + 11) + rm.locals ≤ R.locals) (hf : cells + mc ≤ R.cells ∧ slots + ms ≤ R.slots) (hrc : rm.cells = mc) (hrs : rm.slots = ms) (hc2 : cells + mc = cells2) (hs2 : slots + ms = slots2) (hrm : (st.map fun v => v.category).sum ≤ 8) (hp : pc + 3 = pc2) (hst : stk = As.reverse ++ .ref (ad k0) :: st) (hd : decode cc pc = .ok (.invokevirtual ix, 3)) (k : ∀ (r : Int64) (S2 : St), post r S2 → Go p l e R s m args below meth c D cA ad L nL cells2 slots2 Q S2 pc2 lv (.long r :: st)) : Go p l e R s m args below meth c D cA ad L nL cells slots Q S pc lv stk := by
  subst hp
  subst hst
  subst hc2
  subst hs2
  intro H locs ls hP hS hl
  exact va_calll (va_runV (As := As) (rest := st) ⟨C.1, C.2.1, C.2.2.1, C.2.2.2.2.2.1, C.2.2.2.2.2.2.1⟩ (hM H.size) ⟨callB_of As.length C.2.2.2.2.2.2.1 (T0_call hcode) rfl hrc hrs (C.2.2.2.2.2.2.1 _ hini) (C.2.2.2.2.2.2.1 _ hlink) ⟨hmh.1, hmh.2, hdsc⟩ hR, C.2.2.2.2.2.2.1 _ hinst, C.2.2.2.2.2.2.1 _ hsel⟩ ⟨Pre.blind, va_recv C.2.2.2.2.2.2.2.1 hP hcl (wld_get hk), fun U hU hW => ⟨rfl, by rw [hU], by rw [hU]; exact hP, C.2.2.2.2.2.2.2.warm hW hU hS⟩⟩ rfl rfl hl.1 rfl (lv_room hrm) hd hf) hS (fun q hlt h => wA_mono hS.1 q h) (fun q h => wA_mono hS.1 q h) (fun r u t H1 locs1 ht hvm hp hB hz1 hk1 hS1 => k r u hp H1 locs1 ls (by rw [← ht]; exact hB) hS1 hl)
theorem go_sl (C : Cx p s m args meth c cc nL ret own D cA ad L) (pc pc2 cells2 slots2 : Nat) {stk : List Value} {y : MethodName} {b2 : ByteArray} {n2 ix mc ms : Nat} {ret2 : Option FieldType} {rm : Room} {post : Int64 → St → Prop} (As : List Value) (hM : MetL l y b2 n2 ret2 rm D cA ad L As S post mc ms) (hlink : Cond.methodLink own ix y ∈ T0) (hcode : Cond.code y b2 n2 ret2 ∈ T0) (hini : Cond.initialized y.cls ∈ T0) (hstat : Cond.static y ∈ T0) (hdsc : (parseMethodDescriptor y.desc).map (fun d => d.parameters.length) = some As.length) (hmh : y.cls ≠ "java/lang/invoke/MethodHandle" ∧ y.cls ≠ "java/lang/invoke/VarHandle") (hR : rm.frames + 1 ≤ R.frames ∧ 8 + (n2 + 11) + rm.locals ≤ R.locals) (hf : cells + mc ≤ R.cells ∧ slots + ms ≤ R.slots) (hrc : rm.cells = mc) (hrs : rm.slots = ms) (hc2 : cells + mc = cells2) (hs2 : slots + ms = slots2) (hrm : (st.map fun v => v.category).sum ≤ 8) (hp : pc + 3 = pc2) (hst : stk = As.reverse ++ st) (hd : decode cc pc = .ok (.invokestatic ix, 3)) (k : ∀ (r : Int64) (S2 : St), post r S2 → Go p l e R s m args below meth c D cA ad L nL cells2 slots2 Q S2 pc2 lv (.long r :: st)) : Go p l e R s m args below meth c D cA ad L nL cells slots Q S pc lv stk := by
  subst hp
  subst hst
  subst hc2
  subst hs2
  intro H locs ls hP hS hl
  exact va_calll (va_runS (As := As) (rest := st) ⟨C.1, C.2.1, C.2.2.1, C.2.2.2.2.2.1, C.2.2.2.2.2.2.1⟩ (hM H.size) ⟨callB_of As.length C.2.2.2.2.2.2.1 (T0_call hcode) rfl hrc hrs (C.2.2.2.2.2.2.1 _ hini) (C.2.2.2.2.2.2.1 _ hlink) ⟨hmh.1, hmh.2, hdsc⟩ hR, C.2.2.2.2.2.2.1 _ hstat⟩ ⟨Pre.blind, fun U hU hW => ⟨rfl, by rw [hU], by rw [hU]; exact hP, C.2.2.2.2.2.2.2.warm hW hU hS⟩⟩ rfl rfl hl.1 rfl (lv_room hrm) hd hf) hS (fun q hlt h => wA_mono hS.1 q h) (fun q h => wA_mono hS.1 q h) (fun r u t H1 locs1 ht hvm hp hB hz1 hk1 hS1 => k r u hp H1 locs1 ls (by rw [← ht]; exact hB) hS1 hl)
theorem go_vlN (C : Cx p s m args meth c cc nL ret own D cA ad L) (pc pc2 cells2 slots2 : Nat) {stk : List Value} {y : MethodName} {b2 : ByteArray} {n2 ix mc ms : Nat} {ret2 : Option FieldType} {rm : Room} {post : Int64 → St → Prop} (As : List Value) {fs : List Nat} {ci : Nat} {T : u_T} {N : Nat} (k0 : Nat) (hk : L[k0]? = some (.inr (ci, fs))) (hcl : vwCl[ci]? = some (y.cls, T, N)) (hM : MetL l y b2 n2 ret2 rm D cA ad L (.ref (ad k0) :: As) S post mc ms) {host : String} (hlink : Cond.methodLinkNest own ix y host ∈ N0) (hcode : Cond.code y b2 n2 ret2 ∈ T0) (hini : Cond.initialized y.cls ∈ T0) (hinst : Cond.instanceMethod y ∈ T0) (hsel : Cond.selects y.cls y y ∈ T0) (hdsc : (parseMethodDescriptor y.desc).map (fun d => d.parameters.length) = some As.length) (hmh : y.cls ≠ "java/lang/invoke/MethodHandle" ∧ y.cls ≠ "java/lang/invoke/VarHandle") (hR : rm.frames + 1 ≤ R.frames ∧ 8 + (n2 + 11) + rm.locals ≤ R.locals) (hf : cells + mc ≤ R.cells ∧ slots + ms ≤ R.slots) (hrc : rm.cells = mc) (hrs : rm.slots = ms) (hc2 : cells + mc = cells2) (hs2 : slots + ms = slots2) (hrm : (st.map fun v => v.category).sum ≤ 8) (hp : pc + 3 = pc2) (hst : stk = As.reverse ++ .ref (ad k0) :: st) (hd : decode cc pc = .ok (.invokevirtual ix, 3)) (k : ∀ (r : Int64) (S2 : St), post r S2 → Go p l e R s m args below meth c D cA ad L nL cells2 slots2 Q S2 pc2 lv (.long r :: st)) : Go p l e R s m args below meth c D cA ad L nL cells slots Q S pc lv stk := by
  subst hp
  subst hst
  subst hc2
  subst hs2
  intro H locs ls hP hS hl
  exact va_calll (va_runVN (As := As) (rest := st) ⟨C.1, C.2.1, C.2.2.1, C.2.2.2.2.2.1, C.2.2.2.2.2.2.1⟩ (hM H.size) ⟨va_cnB As.length C.2.2.2.2.2.2.1 (T0_call hcode) rfl hrc hrs (C.2.2.2.2.2.2.2.2.1 _ hlink) (C.2.2.2.2.2.2.1 _ hini) ⟨hmh.1, hmh.2, hdsc⟩ hR, C.2.2.2.2.2.2.1 _ hinst, C.2.2.2.2.2.2.1 _ hsel⟩ ⟨Pre.blind, va_recv C.2.2.2.2.2.2.2.1 hP hcl (wld_get hk), fun U hU hW => ⟨rfl, by rw [hU], by rw [hU]; exact hP, C.2.2.2.2.2.2.2.warm hW hU hS⟩⟩ rfl rfl hl.1 rfl (lv_room hrm) hd hf) hS (fun q hlt h => wA_mono hS.1 q h) (fun q h => wA_mono hS.1 q h) (fun r u t H1 locs1 ht hvm hp hB hz1 hk1 hS1 => k r u hp H1 locs1 ls (by rw [← ht]; exact hB) hS1 hl)
theorem go_slN (C : Cx p s m args meth c cc nL ret own D cA ad L) (pc pc2 cells2 slots2 : Nat) {stk : List Value} {y : MethodName} {b2 : ByteArray} {n2 ix mc ms : Nat} {ret2 : Option FieldType} {rm : Room} {post : Int64 → St → Prop} (As : List Value) (hM : MetL l y b2 n2 ret2 rm D cA ad L As S post mc ms) {host : String} (hlink : Cond.methodLinkNest own ix y host ∈ N0) (hcode : Cond.code y b2 n2 ret2 ∈ T0) (hini : Cond.initialized y.cls ∈ T0) (hstat : Cond.static y ∈ T0) (hdsc : (parseMethodDescriptor y.desc).map (fun d => d.parameters.length) = some As.length) (hmh : y.cls ≠ "java/lang/invoke/MethodHandle" ∧ y.cls ≠ "java/lang/invoke/VarHandle") (hR : rm.frames + 1 ≤ R.frames ∧ 8 + (n2 + 11) + rm.locals ≤ R.locals) (hf : cells + mc ≤ R.cells ∧ slots + ms ≤ R.slots) (hrc : rm.cells = mc) (hrs : rm.slots = ms) (hc2 : cells + mc = cells2) (hs2 : slots + ms = slots2) (hrm : (st.map fun v => v.category).sum ≤ 8) (hp : pc + 3 = pc2) (hst : stk = As.reverse ++ st) (hd : decode cc pc = .ok (.invokestatic ix, 3)) (k : ∀ (r : Int64) (S2 : St), post r S2 → Go p l e R s m args below meth c D cA ad L nL cells2 slots2 Q S2 pc2 lv (.long r :: st)) : Go p l e R s m args below meth c D cA ad L nL cells slots Q S pc lv stk := by
  subst hp
  subst hst
  subst hc2
  subst hs2
  intro H locs ls hP hS hl
  exact va_calll (va_runSN (As := As) (rest := st) ⟨C.1, C.2.1, C.2.2.1, C.2.2.2.2.2.1, C.2.2.2.2.2.2.1⟩ (hM H.size) ⟨va_cnB As.length C.2.2.2.2.2.2.1 (T0_call hcode) rfl hrc hrs (C.2.2.2.2.2.2.2.2.1 _ hlink) (C.2.2.2.2.2.2.1 _ hini) ⟨hmh.1, hmh.2, hdsc⟩ hR, C.2.2.2.2.2.2.1 _ hstat, trivial⟩ ⟨Pre.blind, fun U hU hW => ⟨rfl, by rw [hU], by rw [hU]; exact hP, C.2.2.2.2.2.2.2.warm hW hU hS⟩⟩ rfl rfl hl.1 rfl (lv_room hrm) hd hf) hS (fun q hlt h => wA_mono hS.1 q h) (fun q h => wA_mono hS.1 q h) (fun r u t H1 locs1 ht hvm hp hB hz1 hk1 hS1 => k r u hp H1 locs1 ls (by rw [← ht]; exact hB) hS1 hl)
theorem go_vv (C : Cx p s m args meth c cc nL ret own D cA ad L) (pc pc2 cells2 slots2 : Nat) {stk : List Value} {y : MethodName} {b2 : ByteArray} {n2 ix mc ms : Nat} {ret2 : Option FieldType} {rm : Room} {post : St → Prop} (As : List Value) {fs : List Nat} {ci : Nat} {T : u_T} {N : Nat} (k0 : Nat) (hk : L[k0]? = some (.inr (ci, fs))) (hcl : vwCl[ci]? = some (y.cls, T, N)) (hM : MetV l y b2 n2 ret2 rm D cA ad L (.ref (ad k0) :: As) S post mc ms) (hlink : Cond.methodLink own ix y ∈ T0) (hcode : Cond.code y b2 n2 ret2 ∈ T0) (hini : Cond.initialized y.cls ∈ T0) (hinst : Cond.instanceMethod y ∈ T0) (hsel : Cond.selects y.cls y y ∈ T0) (hdsc : (parseMethodDescriptor y.desc).map (fun d => d.parameters.length) = some As.length) (hmh : y.cls ≠ "java/lang/invoke/MethodHandle" ∧ y.cls ≠ "java/lang/invoke/VarHandle") (hR : rm.frames + 1 ≤ R.frames ∧ 8 + (n2 + 11) + rm.locals ≤ R.locals) (hf : cells + mc ≤ R.cells ∧ slots + ms ≤ R.slots) (hrc : rm.cells = mc) (hrs : rm.slots = ms) (hc2 : cells + mc = cells2) (hs2 : slots + ms = slots2) (hrm : (st.map fun v => v.category).sum ≤ 8) (hp : pc + 3 = pc2) (hst : stk = As.reverse ++ .ref (ad k0) :: st) (hd : decode cc pc = .ok (.invokevirtual ix, 3)) (k : ∀ S2 : St, post S2 → Go p l e R s m args below meth c D cA ad L nL cells2 slots2 Q S2 pc2 lv (st)) : Go p l e R s m args below meth c D cA ad L nL cells slots Q S pc lv stk := by
  subst hp
  subst hst
  subst hc2
  subst hs2
  intro H locs ls hP hS hl
  exact va_callv (va_runV (As := As) (rest := st) ⟨C.1, C.2.1, C.2.2.1, C.2.2.2.2.2.1, C.2.2.2.2.2.2.1⟩ (hM H.size) ⟨callB_of As.length C.2.2.2.2.2.2.1 (T0_call hcode) rfl hrc hrs (C.2.2.2.2.2.2.1 _ hini) (C.2.2.2.2.2.2.1 _ hlink) ⟨hmh.1, hmh.2, hdsc⟩ hR, C.2.2.2.2.2.2.1 _ hinst, C.2.2.2.2.2.2.1 _ hsel⟩ ⟨Pre.blind, va_recv C.2.2.2.2.2.2.2.1 hP hcl (wld_get hk), fun U hU hW => ⟨rfl, by rw [hU], by rw [hU]; exact hP, C.2.2.2.2.2.2.2.warm hW hU hS⟩⟩ rfl rfl hl.1 rfl (lv_room hrm) hd hf) hS (fun q hlt h => wA_mono hS.1 q h) (fun q h => wA_mono hS.1 q h) (fun u t H1 locs1 ht hvm hp hB hz1 hk1 hS1 => k u hp H1 locs1 ls (by rw [← ht]; exact hB) hS1 hl)
theorem go_sv (C : Cx p s m args meth c cc nL ret own D cA ad L) (pc pc2 cells2 slots2 : Nat) {stk : List Value} {y : MethodName} {b2 : ByteArray} {n2 ix mc ms : Nat} {ret2 : Option FieldType} {rm : Room} {post : St → Prop} (As : List Value) (hM : MetV l y b2 n2 ret2 rm D cA ad L As S post mc ms) (hlink : Cond.methodLink own ix y ∈ T0) (hcode : Cond.code y b2 n2 ret2 ∈ T0) (hini : Cond.initialized y.cls ∈ T0) (hstat : Cond.static y ∈ T0) (hdsc : (parseMethodDescriptor y.desc).map (fun d => d.parameters.length) = some As.length) (hmh : y.cls ≠ "java/lang/invoke/MethodHandle" ∧ y.cls ≠ "java/lang/invoke/VarHandle") (hR : rm.frames + 1 ≤ R.frames ∧ 8 + (n2 + 11) + rm.locals ≤ R.locals) (hf : cells + mc ≤ R.cells ∧ slots + ms ≤ R.slots) (hrc : rm.cells = mc) (hrs : rm.slots = ms) (hc2 : cells + mc = cells2) (hs2 : slots + ms = slots2) (hrm : (st.map fun v => v.category).sum ≤ 8) (hp : pc + 3 = pc2) (hst : stk = As.reverse ++ st) (hd : decode cc pc = .ok (.invokestatic ix, 3)) (k : ∀ S2 : St, post S2 → Go p l e R s m args below meth c D cA ad L nL cells2 slots2 Q S2 pc2 lv (st)) : Go p l e R s m args below meth c D cA ad L nL cells slots Q S pc lv stk := by
  subst hp
  subst hst
  subst hc2
  subst hs2
  intro H locs ls hP hS hl
  exact va_callv (va_runS (As := As) (rest := st) ⟨C.1, C.2.1, C.2.2.1, C.2.2.2.2.2.1, C.2.2.2.2.2.2.1⟩ (hM H.size) ⟨callB_of As.length C.2.2.2.2.2.2.1 (T0_call hcode) rfl hrc hrs (C.2.2.2.2.2.2.1 _ hini) (C.2.2.2.2.2.2.1 _ hlink) ⟨hmh.1, hmh.2, hdsc⟩ hR, C.2.2.2.2.2.2.1 _ hstat⟩ ⟨Pre.blind, fun U hU hW => ⟨rfl, by rw [hU], by rw [hU]; exact hP, C.2.2.2.2.2.2.2.warm hW hU hS⟩⟩ rfl rfl hl.1 rfl (lv_room hrm) hd hf) hS (fun q hlt h => wA_mono hS.1 q h) (fun q h => wA_mono hS.1 q h) (fun u t H1 locs1 ht hvm hp hB hz1 hk1 hS1 => k u hp H1 locs1 ls (by rw [← ht]; exact hB) hS1 hl)
theorem go_vvN (C : Cx p s m args meth c cc nL ret own D cA ad L) (pc pc2 cells2 slots2 : Nat) {stk : List Value} {y : MethodName} {b2 : ByteArray} {n2 ix mc ms : Nat} {ret2 : Option FieldType} {rm : Room} {post : St → Prop} (As : List Value) {fs : List Nat} {ci : Nat} {T : u_T} {N : Nat} (k0 : Nat) (hk : L[k0]? = some (.inr (ci, fs))) (hcl : vwCl[ci]? = some (y.cls, T, N)) (hM : MetV l y b2 n2 ret2 rm D cA ad L (.ref (ad k0) :: As) S post mc ms) {host : String} (hlink : Cond.methodLinkNest own ix y host ∈ N0) (hcode : Cond.code y b2 n2 ret2 ∈ T0) (hini : Cond.initialized y.cls ∈ T0) (hinst : Cond.instanceMethod y ∈ T0) (hsel : Cond.selects y.cls y y ∈ T0) (hdsc : (parseMethodDescriptor y.desc).map (fun d => d.parameters.length) = some As.length) (hmh : y.cls ≠ "java/lang/invoke/MethodHandle" ∧ y.cls ≠ "java/lang/invoke/VarHandle") (hR : rm.frames + 1 ≤ R.frames ∧ 8 + (n2 + 11) + rm.locals ≤ R.locals) (hf : cells + mc ≤ R.cells ∧ slots + ms ≤ R.slots) (hrc : rm.cells = mc) (hrs : rm.slots = ms) (hc2 : cells + mc = cells2) (hs2 : slots + ms = slots2) (hrm : (st.map fun v => v.category).sum ≤ 8) (hp : pc + 3 = pc2) (hst : stk = As.reverse ++ .ref (ad k0) :: st) (hd : decode cc pc = .ok (.invokevirtual ix, 3)) (k : ∀ S2 : St, post S2 → Go p l e R s m args below meth c D cA ad L nL cells2 slots2 Q S2 pc2 lv (st)) : Go p l e R s m args below meth c D cA ad L nL cells slots Q S pc lv stk := by
  subst hp
  subst hst
  subst hc2
  subst hs2
  intro H locs ls hP hS hl
  exact va_callv (va_runVN (As := As) (rest := st) ⟨C.1, C.2.1, C.2.2.1, C.2.2.2.2.2.1, C.2.2.2.2.2.2.1⟩ (hM H.size) ⟨va_cnB As.length C.2.2.2.2.2.2.1 (T0_call hcode) rfl hrc hrs (C.2.2.2.2.2.2.2.2.1 _ hlink) (C.2.2.2.2.2.2.1 _ hini) ⟨hmh.1, hmh.2, hdsc⟩ hR, C.2.2.2.2.2.2.1 _ hinst, C.2.2.2.2.2.2.1 _ hsel⟩ ⟨Pre.blind, va_recv C.2.2.2.2.2.2.2.1 hP hcl (wld_get hk), fun U hU hW => ⟨rfl, by rw [hU], by rw [hU]; exact hP, C.2.2.2.2.2.2.2.warm hW hU hS⟩⟩ rfl rfl hl.1 rfl (lv_room hrm) hd hf) hS (fun q hlt h => wA_mono hS.1 q h) (fun q h => wA_mono hS.1 q h) (fun u t H1 locs1 ht hvm hp hB hz1 hk1 hS1 => k u hp H1 locs1 ls (by rw [← ht]; exact hB) hS1 hl)
theorem go_svN (C : Cx p s m args meth c cc nL ret own D cA ad L) (pc pc2 cells2 slots2 : Nat) {stk : List Value} {y : MethodName} {b2 : ByteArray} {n2 ix mc ms : Nat} {ret2 : Option FieldType} {rm : Room} {post : St → Prop} (As : List Value) (hM : MetV l y b2 n2 ret2 rm D cA ad L As S post mc ms) {host : String} (hlink : Cond.methodLinkNest own ix y host ∈ N0) (hcode : Cond.code y b2 n2 ret2 ∈ T0) (hini : Cond.initialized y.cls ∈ T0) (hstat : Cond.static y ∈ T0) (hdsc : (parseMethodDescriptor y.desc).map (fun d => d.parameters.length) = some As.length) (hmh : y.cls ≠ "java/lang/invoke/MethodHandle" ∧ y.cls ≠ "java/lang/invoke/VarHandle") (hR : rm.frames + 1 ≤ R.frames ∧ 8 + (n2 + 11) + rm.locals ≤ R.locals) (hf : cells + mc ≤ R.cells ∧ slots + ms ≤ R.slots) (hrc : rm.cells = mc) (hrs : rm.slots = ms) (hc2 : cells + mc = cells2) (hs2 : slots + ms = slots2) (hrm : (st.map fun v => v.category).sum ≤ 8) (hp : pc + 3 = pc2) (hst : stk = As.reverse ++ st) (hd : decode cc pc = .ok (.invokestatic ix, 3)) (k : ∀ S2 : St, post S2 → Go p l e R s m args below meth c D cA ad L nL cells2 slots2 Q S2 pc2 lv (st)) : Go p l e R s m args below meth c D cA ad L nL cells slots Q S pc lv stk := by
  subst hp
  subst hst
  subst hc2
  subst hs2
  intro H locs ls hP hS hl
  exact va_callv (va_runSN (As := As) (rest := st) ⟨C.1, C.2.1, C.2.2.1, C.2.2.2.2.2.1, C.2.2.2.2.2.2.1⟩ (hM H.size) ⟨va_cnB As.length C.2.2.2.2.2.2.1 (T0_call hcode) rfl hrc hrs (C.2.2.2.2.2.2.2.2.1 _ hlink) (C.2.2.2.2.2.2.1 _ hini) ⟨hmh.1, hmh.2, hdsc⟩ hR, C.2.2.2.2.2.2.1 _ hstat, trivial⟩ ⟨Pre.blind, fun U hU hW => ⟨rfl, by rw [hU], by rw [hU]; exact hP, C.2.2.2.2.2.2.2.warm hW hU hS⟩⟩ rfl rfl hl.1 rfl (lv_room hrm) hd hf) hS (fun q hlt h => wA_mono hS.1 q h) (fun q h => wA_mono hS.1 q h) (fun u t H1 locs1 ht hvm hp hB hz1 hk1 hS1 => k u hp H1 locs1 ls (by rw [← ht]; exact hB) hS1 hl)
end GO
theorem MetI.of {l : Launch} {y : MethodName} {cc : ByteArray} {nL : Nat} {ret : Option FieldType} {rm : Room} {D : va_G} {cA : Nat → ClassId} {ad : Nat → Nat} {L : List Lay} {av : List Value} {S : St} {post : Int32 → St → Prop} {mc ms : Nat} (hy : plainName y.cls = true) (hn : (lg_sl av).length ≤ nL)
    (body : ∀ (p : Program) (e : Env) (s : State) (m : MethodId) (args : Array Value) (below : List Frame) (meth : Method) (c : Code), Cx p s m args meth c cc nL ret y.cls D cA ad L → Go p l e rm s m args below meth c D cA ad L nL 0 0 (QI D cA ad L below args s mc ms post) S 0 (lv_args 0 av) []) : MetI l y cc nL ret rm D cA ad L av S post mc ms := by
  intro sz
  refine Met.ofW (cc := cc) (maxL := nL) (ret := ret) hy rfl ?_
  intro p e s m args below meth c s₁ B hml hv
  obtain ⟨rfl, hsz, hP, hE⟩ := hv
  have hts := atoms_spec (ws := Cond.code y cc nL ret :: T0) B.pre
  have hC : Cx p s m av.toArray meth c cc nL ret y.cls D cA ad L := ⟨B.exec, B.bytes, hml, B.returns, B.notSynchronized, findClass_of_methodNamed B.named, fun w hw => hts w (List.mem_cons_of_mem _ hw), hE⟩
  subst hsz
  have hl := lv_entry av (n := nL) hn
  rw [lg_entry_eq]
  exact body p e s m av.toArray below meth c hC s.heap [] _ hP va_S.rf hl
theorem MetL.of {l : Launch} {y : MethodName} {cc : ByteArray} {nL : Nat} {ret : Option FieldType} {rm : Room} {D : va_G} {cA : Nat → ClassId} {ad : Nat → Nat} {L : List Lay} {av : List Value} {S : St} {post : Int64 → St → Prop} {mc ms : Nat} (hy : plainName y.cls = true) (hn : (lg_sl av).length ≤ nL)
    (body : ∀ (p : Program) (e : Env) (s : State) (m : MethodId) (args : Array Value) (below : List Frame) (meth : Method) (c : Code), Cx p s m args meth c cc nL ret y.cls D cA ad L → Go p l e rm s m args below meth c D cA ad L nL 0 0 (QL D cA ad L below args s mc ms post) S 0 (lv_args 0 av) []) : MetL l y cc nL ret rm D cA ad L av S post mc ms := by
  intro sz
  refine Met.ofW (cc := cc) (maxL := nL) (ret := ret) hy rfl ?_
  intro p e s m args below meth c s₁ B hml hv
  obtain ⟨rfl, hsz, hP, hE⟩ := hv
  have hts := atoms_spec (ws := Cond.code y cc nL ret :: T0) B.pre
  have hC : Cx p s m av.toArray meth c cc nL ret y.cls D cA ad L := ⟨B.exec, B.bytes, hml, B.returns, B.notSynchronized, findClass_of_methodNamed B.named, fun w hw => hts w (List.mem_cons_of_mem _ hw), hE⟩
  subst hsz
  have hl := lv_entry av (n := nL) hn
  rw [lg_entry_eq]
  exact body p e s m av.toArray below meth c hC s.heap [] _ hP va_S.rf hl
theorem MetV.of {l : Launch} {y : MethodName} {cc : ByteArray} {nL : Nat} {ret : Option FieldType} {rm : Room} {D : va_G} {cA : Nat → ClassId} {ad : Nat → Nat} {L : List Lay} {av : List Value} {S : St} {post : St → Prop} {mc ms : Nat} (hy : plainName y.cls = true) (hn : (lg_sl av).length ≤ nL)
    (body : ∀ (p : Program) (e : Env) (s : State) (m : MethodId) (args : Array Value) (below : List Frame) (meth : Method) (c : Code), Cx p s m args meth c cc nL ret y.cls D cA ad L → Go p l e rm s m args below meth c D cA ad L nL 0 0 (QV D cA ad L below args s mc ms post) S 0 (lv_args 0 av) []) : MetV l y cc nL ret rm D cA ad L av S post mc ms := by
  intro sz
  refine Met.ofW (cc := cc) (maxL := nL) (ret := ret) hy rfl ?_
  intro p e s m args below meth c s₁ B hml hv
  obtain ⟨rfl, hsz, hP, hE⟩ := hv
  have hts := atoms_spec (ws := Cond.code y cc nL ret :: T0) B.pre
  have hC : Cx p s m av.toArray meth c cc nL ret y.cls D cA ad L := ⟨B.exec, B.bytes, hml, B.returns, B.notSynchronized, findClass_of_methodNamed B.named, fun w hw => hts w (List.mem_cons_of_mem _ hw), hE⟩
  subst hsz
  have hl := lv_entry av (n := nL) hn
  rw [lg_entry_eq]
  exact body p e s m av.toArray below meth c hC s.heap [] _ hP va_S.rf hl
