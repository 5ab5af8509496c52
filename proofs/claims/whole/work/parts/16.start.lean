theorem k62_ : Cond.methodLink RL 9 yX5_init ∈ T0 := in_T0 62 (by decide +kernel) (by decide +kernel)
theorem k64_ : Cond.code yX5_init cX5_init 1 none ∈ T0 := in_T0 64 (by decide +kernel) (by decide +kernel)
theorem k63_ : Cond.instanceMethod yX5_init ∈ T0 := in_T0 63 (by decide +kernel) (by decide +kernel)
theorem k517_ : Cond.methodLink RL 12 yX6_init ∈ T0 := in_T0 517 (by decide +kernel) (by decide +kernel)
theorem k519_ : Cond.code yX6_init cX6_init 1 none ∈ T0 := in_T0 519 (by decide +kernel) (by decide +kernel)
theorem k518_ : Cond.instanceMethod yX6_init ∈ T0 := in_T0 518 (by decide +kernel) (by decide +kernel)
/-! ===== the law from its entry ===== -/
theorem kAO3 : Cond.arrayOver (.array .int) ∈ lw_tbl := List.mem_of_getElem? (i := 75) (by decide +kernel)
theorem kAO4 : Cond.arrayOver (.array .long) ∈ lw_tbl := List.mem_of_getElem? (i := 131) (by decide +kernel)
theorem kLS : Cond.laysStatic "BillHouse" "FACTORIALS" "[J" ∈ lw_tbl := List.mem_of_getElem? (i := 442) (by decide +kernel)
theorem kCLL7 : Cond.classLink RL 7 RX5 ∈ T0 := in_T0 60 (by decide +kernel) (by decide +kernel)
theorem kINL5 : Cond.instantiable RX5 7 ∈ T0 := in_T0 61 (by decide +kernel) (by decide +kernel)
theorem kCLL10 : Cond.classLink RL 10 RX6 ∈ T0 := in_T0 515 (by decide +kernel) (by decide +kernel)
theorem kINL6 : Cond.instantiable RX6 26 ∈ T0 := in_T0 516 (by decide +kernel) (by decide +kernel)
theorem kIX0 : Cond.instantiable RX0 6 ∈ T0 := in_T0 172 (by decide +kernel) (by decide +kernel)
theorem kIX1 : Cond.instantiable RX1 5 ∈ T0 := in_T0 125 (by decide +kernel) (by decide +kernel)
theorem kIX2 : Cond.instantiable RX2 3 ∈ T0 := in_T0 154 (by decide +kernel) (by decide +kernel)
theorem kIX3 : Cond.instantiable RX3 3 ∈ T0 := in_T0 106 (by decide +kernel) (by decide +kernel)
theorem kIX4 : Cond.instantiable RX4 7 ∈ T0 := in_T0 69 (by decide +kernel) (by decide +kernel)
theorem kIX5 : Cond.instantiable RX5 7 ∈ T0 := in_T0 61 (by decide +kernel) (by decide +kernel)
theorem kIX6 : Cond.instantiable RX6 26 ∈ T0 := in_T0 516 (by decide +kernel) (by decide +kernel)
/-! THE CLAIM OUT OF ONE WALK OF THE LAW'S BODY. Your part is whole_start (and what it stands on); all else here is the same for every law, but numbers. -/
def R_law : String := "BillHouseLaw"
def lw_P (b : Addr) (xs : List Int32) (args : Array Value) (s : State) : Prop := args = #[.ref b] ∧ s.IntsAt b xs ∧ xs.length ≤ 2048 ∧ (Jvm.Cond.and given_1 narrow_1).before args s = true
def lw_Q (_ : Array Value) (s : State) (o : Outcome) (t : State) : Prop := o = .returned (some (.int 1)) ∧ Framed s o t [] 600000 7302250
def lw_Z (below : List Frame) (a : Array Value) (s : State) : State → Prop := fun t => ∃ o, t.status = .running ∧ Ended t below o ∧ lw_Q a s o t
/-- the law's own end, with 1 on the stack, nothing written that was there before, its room as the claim has it -/
theorem lw_ret {p : Program} {l : Launch} {e : Env} {s : State} {m : MethodId} {below : List Frame} {meth : Method} {c : Code} {b : Nat} (hx : p.tables.exec = Jvm.exec) (hb : c.code = code) (hr : meth.sig.returnType = ret) (hlocks : meth.locks = false) {pc : Nat} {H : Heap} {ls : Array Slot} (hdg : decode code pc = .ok (.ireturn, 1)) : W p l e room_1 s m #[Value.ref b] below meth c H [] 600000 7302250 (lw_Z below #[Value.ref b] s) (F0 m pc ls [.int 1]) := by
  intro T hT X
  obtain ⟨fs, hret, hrun, hended, hW, hframe⟩ := X.leave (v := some (.int 1)) (hlocks := hlocks) (fun h => by rw [hr] at h; cases h)
  have hmeth' : T.vm.method? m = some meth := X.method'
  refine ⟨T.setFrames fs, ?_, .returned (some (.int 1)), hrun, hended, rfl, ⟨_, rfl⟩, hW, hframe⟩
  jvm_step X.here [X.here.top, hx, hb, hdg, hmeth', hr, ret, narrow_b1]
  (try refine ⟨rfl, ?_⟩); (try refine ⟨rfl, ?_⟩)
  first | (intro acts; rw [hret _ acts rfl rfl rfl]) | rw [hret _ _ rfl rfl rfl]
  exact Steps.refl _
/-- what holds at the law's entry: the machine, the code, the tables' words (any of lw_tbl by 'hts w (by decide +kernel)'), the script of L ints xs at the cell b, what the Statement gives of the start (any of its parts by flat_of_before) -/
def lw_At (p : Program) (s : State) (m : MethodId) (meth : Method) (c : Code) (b L : Nat) (xs : Nat → Int32) : Prop :=
  p.tables.exec = Jvm.exec ∧ c.code = code ∧ meth.sig.returnType = ret ∧ c.maxLocals = 4 ∧ s.vm.findClass R_law = some m.cls ∧ (∀ w ∈ lw_tbl, w.before #[Value.ref b] s = true) ∧ va_X b L xs s s.heap ∧ b < s.heap.size ∧ meth.locks = false ∧ (Jvm.Cond.and given_1 narrow_1).before #[Value.ref b] s = true

/-- the tables as a new pair of objects has them -/
def S0 : St := (fun k _ => if k = 13 then -1 else 0, fun k j => if (k = 3 ∧ j = 1) ∨ (k = 4 ∧ j = 1) then 1 else 0)
theorem arr_known {s : State} {args : Array Value} {ty : FieldType} (h : (Cond.arrayClass ty).before args s = true) (hra : ∀ x, s.vm.findClass ("[" ++ ty.toString) = some x → va_RA s x ty) : ∃ c : ClassId, ArrOfT s c ty ∧ va_RA s c ty := by
  obtain ⟨c, k, comp, h1, h2, h3⟩ := Cond.arrayClass_spec h
  exact ⟨c, fun n z => ⟨fun k h => (by cases h), k, h2, comp, h3⟩, hra c h1⟩
theorem over_known {s : State} {args : Array Value} {ty : FieldType} (h : (Cond.arrayOver (.array ty)).before args s = true) : ∃ c : ClassId, ArrOfT s c (.array ty) ∧ va_RA s c (.array ty) := by
  obtain ⟨comp, c, k, h0, h2, h3, h1⟩ := Cond.arrayOver_specA h
  exact ⟨c, fun n z => ⟨fun k h => (by cases h), k, h2, comp, h3⟩, h1⟩
theorem tys_known {s : State} {args : Array Value} (hts : ∀ w ∈ lw_tbl, w.before args s = true) : ∃ cA : Nat → ClassId, ∀ (k : Nat) (q : ClassId × FieldType), (tysA cA)[k]? = some q → ArrOfT s q.1 q.2 ∧ va_RA s q.1 q.2 := by
  obtain ⟨c0, h0⟩ := arr_known (hts _ (List.mem_filter.mp kArrI).1) (fun x h => h)
  obtain ⟨c1, h1⟩ := arr_known (hts _ (List.mem_filter.mp kArrJ).1) (fun x h => h)
  obtain ⟨c2, h2⟩ := arr_known (hts _ (List.mem_filter.mp kArrZ).1) (fun x h => h)
  obtain ⟨c3, h3⟩ := over_known (hts _ kAO3)
  obtain ⟨c4, h4⟩ := over_known (hts _ kAO4)
  refine ⟨fun k => [c0, c1, c2, c3, c4].getD k 0, fun k q hq => ?_⟩
  match k, hq with
  | 0, hq => cases hq; exact h0
  | 1, hq => cases hq; exact h1
  | 2, hq => cases hq; exact h2
  | 3, hq => cases hq; exact h3
  | 4, hq => cases hq; exact h4
  | k + 5, hq => simp [tysA] at hq
theorem cls_known {s : State} {args : Array Value} (hts : ∀ w ∈ T0, w.before args s = true) : ∃ D : va_G, ∀ (k : Nat) (q : vw_C), vwCl[k]? = some q → u_Kn s q.1 q.2.1 q.2.2 (D.1 k) (D.2 k) := by
  obtain ⟨c0, i0, h0⟩ := u_known (C := RX0) (T := TX0) (N := 6) (n := 6) hts iw0 (hts _ kIX0)
  obtain ⟨c1, i1, h1⟩ := u_known (C := RX1) (T := TX1) (N := 5) (n := 5) hts iw1 (hts _ kIX1)
  obtain ⟨c2, i2, h2⟩ := u_known (C := RX2) (T := TX2) (N := 3) (n := 3) hts iw2 (hts _ kIX2)
  obtain ⟨c3, i3, h3⟩ := u_known (C := RX3) (T := TX3) (N := 3) (n := 3) hts iw3 (hts _ kIX3)
  obtain ⟨c4, i4, h4⟩ := u_known (C := RX4) (T := TX4) (N := 7) (n := 7) hts iw4 (hts _ kIX4)
  obtain ⟨c5, i5, h5⟩ := u_known (C := RX5) (T := TX5) (N := 7) (n := 7) hts iw5 (hts _ kIX5)
  obtain ⟨c6, i6, h6⟩ := u_known (C := RX6) (T := TX6) (N := 26) (n := 26) hts iw6 (hts _ kIX6)
  refine ⟨(fun k => [c0, c1, c2, c3, c4, c5, c6].getD k 0, fun k => [i0, i1, i2, i3, i4, i5, i6].getD k (fun _ => 0)), fun k q hq => ?_⟩
  match k, hq with
  | 0, hq => cases hq; exact h0
  | 1, hq => cases hq; exact h1
  | 2, hq => cases hq; exact h2
  | 3, hq => cases hq; exact h3
  | 4, hq => cases hq; exact h4
  | 5, hq => cases hq; exact h5
  | 6, hq => cases hq; exact h6
  | k + 7, hq => simp [vwCl] at hq
theorem fact_known {s : State} {args : Array Value} (hts : ∀ w ∈ lw_tbl, w.before args s = true) (hg : (Jvm.Cond.and given_1 narrow_1).before args s = true) {A : Nat → Prop} (hA : ∀ a : Nat, a < s.heap.size → ¬ A a) : Tz A s s.heap := by
  have hs := flat_of_before _ hg
  have harr : (Cond.arrayOf (.static "BillHouse" "FACTORIALS" "[J") .long).before args s = true := hs _ (by decide +kernel)
  have hlen : (Cond.eq (.length (.static "BillHouse" "FACTORIALS" "[J")) (.int 9)).before args s = true := hs _ (by decide +kernel)
  have e0 : (Cond.eq (.elem (.static "BillHouse" "FACTORIALS" "[J") (.int 0)) (.long 1)).before args s = true := hs _ (by decide +kernel)
  have e1 : (Cond.eq (.elem (.static "BillHouse" "FACTORIALS" "[J") (.int 1)) (.long 1)).before args s = true := hs _ (by decide +kernel)
  have e2 : (Cond.eq (.elem (.static "BillHouse" "FACTORIALS" "[J") (.int 2)) (.long 2)).before args s = true := hs _ (by decide +kernel)
  have e3 : (Cond.eq (.elem (.static "BillHouse" "FACTORIALS" "[J") (.int 3)) (.long 6)).before args s = true := hs _ (by decide +kernel)
  have e4 : (Cond.eq (.elem (.static "BillHouse" "FACTORIALS" "[J") (.int 4)) (.long 24)).before args s = true := hs _ (by decide +kernel)
  have e5 : (Cond.eq (.elem (.static "BillHouse" "FACTORIALS" "[J") (.int 5)) (.long 120)).before args s = true := hs _ (by decide +kernel)
  have e6 : (Cond.eq (.elem (.static "BillHouse" "FACTORIALS" "[J") (.int 6)) (.long 720)).before args s = true := hs _ (by decide +kernel)
  have e7 : (Cond.eq (.elem (.static "BillHouse" "FACTORIALS" "[J") (.int 7)) (.long 5040)).before args s = true := hs _ (by decide +kernel)
  have e8 : (Cond.eq (.elem (.static "BillHouse" "FACTORIALS" "[J") (.int 8)) (.long 40320)).before args s = true := hs _ (by decide +kernel)
  obtain ⟨t, ht, hT⟩ := va_Tof (tm := .static "BillHouse" "FACTORIALS" "[J") (N := 9) (f := fun j => .long (factT j)) (by decide) harr (va_eqt hlen) (fun j hj => by
    match j, hj with
    | 0, _ => exact va_eqtl e0
    | 1, _ => exact va_eqtl e1
    | 2, _ => exact va_eqtl e2
    | 3, _ => exact va_eqtl e3
    | 4, _ => exact va_eqtl e4
    | 5, _ => exact va_eqtl e5
    | 6, _ => exact va_eqtl e6
    | 7, _ => exact va_eqtl e7
    | 8, _ => exact va_eqtl e8
    | j + 9, hj => exact absurd hj (by omega)) hA
  exact ⟨t, va_Zof (hts _ kLS) (hts _ (List.mem_filter.mp k50_).1) ht hA, hT⟩
def adW (q0 q1 : Nat) (a b : Nat → Nat) : Nat → Nat
  | 0 => q0
  | 1 => a 0
  | 2 => a 19
  | 3 => a 21
  | 4 => a 32
  | 5 => a 35
  | 6 => a 40
  | 7 => a 41
  | 8 => a 1
  | 9 => a 2
  | 10 => a 3
  | 11 => a 10
  | 12 => a 17
  | 13 => a 18
  | 14 => a 20
  | 15 => a 22
  | 16 => a 23
  | 17 => a 30
  | 18 => a 31
  | 19 => a 33
  | 20 => a 34
  | 21 => a 36
  | 22 => a 37
  | 23 => a 38
  | 24 => a 39
  | 25 => q1
  | 26 => b 0
  | 27 => b 1
  | 28 => b 2
  | 29 => b 3
  | 30 => b 4
  | 31 => b 5
  | 32 => b 6
  | 33 => b 7
  | 34 => b 8
  | 35 => b 9
  | 36 => b 10
  | 37 => b 11
  | 38 => b 12
  | 39 => b 13
  | 40 => b 14
  | 41 => b 15
  | 42 => b 16
  | 43 => a 4
  | 44 => a 5
  | 45 => a 6
  | 46 => a 7
  | 47 => a 8
  | 48 => a 9
  | 49 => a 11
  | 50 => a 12
  | 51 => a 13
  | 52 => a 14
  | 53 => a 15
  | 54 => a 16
  | 55 => a 24
  | 56 => a 25
  | 57 => a 26
  | 58 => a 27
  | 59 => a 28
  | 60 => a 29
  | _ => 0
def piW : List Nat := [0, 1, 20, 22, 33, 36, 41, 42, 2, 3, 4, 11, 18, 19, 21, 23, 24, 31, 32, 34, 35, 37, 38, 39, 40, 43, 44, 45, 46, 47, 48, 49, 50, 51, 52, 53, 54, 55, 56, 57, 58, 59, 60, 5, 6, 7, 8, 9, 10, 12, 13, 14, 15, 16, 17, 25, 26, 27, 28, 29, 30]
theorem tw0 {cA : Nat → ClassId} {q0 q1 : Nat} {a b : Nat → Nat} : (mk_X5_init cA q0 a ++ mk_X6_init cA q1 b)[0]? = some (adW q0 q1 a b 0, lcell cA (adW q0 q1 a b) S0 0 (.inr (5, [3, 4, 5, 6, 7, 8, 9]))) := rfl
theorem tw1 {cA : Nat → ClassId} {q0 q1 : Nat} {a b : Nat → Nat} : (mk_X5_init cA q0 a ++ mk_X6_init cA q1 b)[1]? = some (adW q0 q1 a b 1, lcell cA (adW q0 q1 a b) S0 1 (.inr (4, [0, 10, 11, 12, 13, 14, 15]))) := rfl
theorem tw2 {cA : Nat → ClassId} {q0 q1 : Nat} {a b : Nat → Nat} : (mk_X5_init cA q0 a ++ mk_X6_init cA q1 b)[20]? = some (adW q0 q1 a b 2, lcell cA (adW q0 q1 a b) S0 2 (.inr (3, [0, 0, 16]))) := rfl
theorem tw3 {cA : Nat → ClassId} {q0 q1 : Nat} {a b : Nat → Nat} : (mk_X5_init cA q0 a ++ mk_X6_init cA q1 b)[22]? = some (adW q0 q1 a b 3, lcell cA (adW q0 q1 a b) S0 3 (.inr (1, [17, 1, 18, 19, 20]))) := rfl
theorem tw4 {cA : Nat → ClassId} {q0 q1 : Nat} {a b : Nat → Nat} : (mk_X5_init cA q0 a ++ mk_X6_init cA q1 b)[33]? = some (adW q0 q1 a b 4, lcell cA (adW q0 q1 a b) S0 4 (.inr (2, [21, 1, 22]))) := rfl
theorem tw5 {cA : Nat → ClassId} {q0 q1 : Nat} {a b : Nat → Nat} : (mk_X5_init cA q0 a ++ mk_X6_init cA q1 b)[36]? = some (adW q0 q1 a b 5, lcell cA (adW q0 q1 a b) S0 5 (.inr (0, [0, 0, 23, 24, 25, 26]))) := rfl
theorem tw6 {cA : Nat → ClassId} {q0 q1 : Nat} {a b : Nat → Nat} : (mk_X5_init cA q0 a ++ mk_X6_init cA q1 b)[41]? = some (adW q0 q1 a b 6, lcell cA (adW q0 q1 a b) S0 6 (.inl (0, 8, 0))) := rfl
theorem tw7 {cA : Nat → ClassId} {q0 q1 : Nat} {a b : Nat → Nat} : (mk_X5_init cA q0 a ++ mk_X6_init cA q1 b)[42]? = some (adW q0 q1 a b 7, lcell cA (adW q0 q1 a b) S0 7 (.inl (0, 8, 0))) := rfl
theorem tw8 {cA : Nat → ClassId} {q0 q1 : Nat} {a b : Nat → Nat} : (mk_X5_init cA q0 a ++ mk_X6_init cA q1 b)[2]? = some (adW q0 q1 a b 8, lcell cA (adW q0 q1 a b) S0 8 (.inl (0, 6, 0))) := rfl
theorem tw9 {cA : Nat → ClassId} {q0 q1 : Nat} {a b : Nat → Nat} : (mk_X5_init cA q0 a ++ mk_X6_init cA q1 b)[3]? = some (adW q0 q1 a b 9, lcell cA (adW q0 q1 a b) S0 9 (.inl (0, 6, 0))) := rfl
theorem tw10 {cA : Nat → ClassId} {q0 q1 : Nat} {a b : Nat → Nat} : (mk_X5_init cA q0 a ++ mk_X6_init cA q1 b)[4]? = some (adW q0 q1 a b 10, lcell cA (adW q0 q1 a b) S0 10 (.inl (3, 6, 43))) := by
  show _ = some (adW q0 q1 a b 10, Sum.inl (cA 3, 6, Sum.inr (Sum.inr (Sum.inr (Sum.inr (fun i => if i < 6 then some (adW q0 q1 a b (43 + i)) else none))))))
  rw [grid_f6 (fun i => adW q0 q1 a b (43 + i))]
  show some (_, Sum.inl (_, _, Sum.inr (Sum.inr (Sum.inr (Sum.inr _))))) = _
  rw [grid_f6]
  rfl
theorem tw11 {cA : Nat → ClassId} {q0 q1 : Nat} {a b : Nat → Nat} : (mk_X5_init cA q0 a ++ mk_X6_init cA q1 b)[11]? = some (adW q0 q1 a b 11, lcell cA (adW q0 q1 a b) S0 11 (.inl (3, 6, 49))) := by
  show _ = some (adW q0 q1 a b 11, Sum.inl (cA 3, 6, Sum.inr (Sum.inr (Sum.inr (Sum.inr (fun i => if i < 6 then some (adW q0 q1 a b (49 + i)) else none))))))
  rw [grid_f6 (fun i => adW q0 q1 a b (49 + i))]
  show some (_, Sum.inl (_, _, Sum.inr (Sum.inr (Sum.inr (Sum.inr _))))) = _
  rw [grid_f6]
  rfl
theorem tw12 {cA : Nat → ClassId} {q0 q1 : Nat} {a b : Nat → Nat} : (mk_X5_init cA q0 a ++ mk_X6_init cA q1 b)[18]? = some (adW q0 q1 a b 12, lcell cA (adW q0 q1 a b) S0 12 (.inl (0, 8, 0))) := rfl
theorem tw13 {cA : Nat → ClassId} {q0 q1 : Nat} {a b : Nat → Nat} : (mk_X5_init cA q0 a ++ mk_X6_init cA q1 b)[19]? = some (adW q0 q1 a b 13, lcell cA (adW q0 q1 a b) S0 13 (.inl (0, 256, 0))) := rfl
theorem tw14 {cA : Nat → ClassId} {q0 q1 : Nat} {a b : Nat → Nat} : (mk_X5_init cA q0 a ++ mk_X6_init cA q1 b)[21]? = some (adW q0 q1 a b 14, lcell cA (adW q0 q1 a b) S0 14 (.inl (0, 8, 0))) := rfl
theorem tw15 {cA : Nat → ClassId} {q0 q1 : Nat} {a b : Nat → Nat} : (mk_X5_init cA q0 a ++ mk_X6_init cA q1 b)[23]? = some (adW q0 q1 a b 15, lcell cA (adW q0 q1 a b) S0 15 (.inl (1, 6, 0))) := rfl
theorem tw16 {cA : Nat → ClassId} {q0 q1 : Nat} {a b : Nat → Nat} : (mk_X5_init cA q0 a ++ mk_X6_init cA q1 b)[24]? = some (adW q0 q1 a b 16, lcell cA (adW q0 q1 a b) S0 16 (.inl (4, 6, 55))) := by
  show _ = some (adW q0 q1 a b 16, Sum.inl (cA 4, 6, Sum.inr (Sum.inr (Sum.inr (Sum.inr (fun i => if i < 6 then some (adW q0 q1 a b (55 + i)) else none))))))
  rw [grid_f6 (fun i => adW q0 q1 a b (55 + i))]
  show some (_, Sum.inl (_, _, Sum.inr (Sum.inr (Sum.inr (Sum.inr _))))) = _
  rw [grid_f6]
  rfl
theorem tw17 {cA : Nat → ClassId} {q0 q1 : Nat} {a b : Nat → Nat} : (mk_X5_init cA q0 a ++ mk_X6_init cA q1 b)[31]? = some (adW q0 q1 a b 17, lcell cA (adW q0 q1 a b) S0 17 (.inl (1, 6, 0))) := rfl
theorem tw18 {cA : Nat → ClassId} {q0 q1 : Nat} {a b : Nat → Nat} : (mk_X5_init cA q0 a ++ mk_X6_init cA q1 b)[32]? = some (adW q0 q1 a b 18, lcell cA (adW q0 q1 a b) S0 18 (.inl (1, 64, 0))) := rfl
theorem tw19 {cA : Nat → ClassId} {q0 q1 : Nat} {a b : Nat → Nat} : (mk_X5_init cA q0 a ++ mk_X6_init cA q1 b)[34]? = some (adW q0 q1 a b 19, lcell cA (adW q0 q1 a b) S0 19 (.inl (1, 8, 0))) := rfl
theorem tw20 {cA : Nat → ClassId} {q0 q1 : Nat} {a b : Nat → Nat} : (mk_X5_init cA q0 a ++ mk_X6_init cA q1 b)[35]? = some (adW q0 q1 a b 20, lcell cA (adW q0 q1 a b) S0 20 (.inl (1, 8, 0))) := rfl
theorem tw21 {cA : Nat → ClassId} {q0 q1 : Nat} {a b : Nat → Nat} : (mk_X5_init cA q0 a ++ mk_X6_init cA q1 b)[37]? = some (adW q0 q1 a b 21, lcell cA (adW q0 q1 a b) S0 21 (.inl (0, 8, 0))) := rfl
theorem tw22 {cA : Nat → ClassId} {q0 q1 : Nat} {a b : Nat → Nat} : (mk_X5_init cA q0 a ++ mk_X6_init cA q1 b)[38]? = some (adW q0 q1 a b 22, lcell cA (adW q0 q1 a b) S0 22 (.inl (0, 400, 0))) := rfl
theorem tw23 {cA : Nat → ClassId} {q0 q1 : Nat} {a b : Nat → Nat} : (mk_X5_init cA q0 a ++ mk_X6_init cA q1 b)[39]? = some (adW q0 q1 a b 23, lcell cA (adW q0 q1 a b) S0 23 (.inl (0, 400, 0))) := rfl
theorem tw24 {cA : Nat → ClassId} {q0 q1 : Nat} {a b : Nat → Nat} : (mk_X5_init cA q0 a ++ mk_X6_init cA q1 b)[40]? = some (adW q0 q1 a b 24, lcell cA (adW q0 q1 a b) S0 24 (.inl (0, 400, 0))) := rfl
theorem tw25 {cA : Nat → ClassId} {q0 q1 : Nat} {a b : Nat → Nat} : (mk_X5_init cA q0 a ++ mk_X6_init cA q1 b)[43]? = some (adW q0 q1 a b 25, lcell cA (adW q0 q1 a b) S0 25 (.inr (6, [0, 28, 29, 30, 31, 32, 33, 34, 0, 0, 0, 0, 35, 36, 37, 38, 39, 40, 41, 0, 1, 42, 1, 43, 0, 44]))) := by
  have e : lcell cA (adW q0 q1 a b) S0 25 (.inr (6, [0, 28, 29, 30, 31, 32, 33, 34, 0, 0, 0, 0, 35, 36, 37, 38, 39, 40, 41, 0, 1, 42, 1, 43, 0, 44])) = .inr (6, [.int 0, .ref (b 0), .ref (b 1), .ref (b 2), .ref (b 3), .ref (b 4), .ref (b 5), .ref (b 6), .int 0, .int 0, .int 0, .int 0, .ref (b 7), .ref (b 8), .ref (b 9), .ref (b 10), .ref (b 11), .ref (b 12), .ref (b 13), .int 0, .long 0, .ref (b 14), .long 0, .ref (b 15), .int 0, .ref (b 16)]) := by
    show Sum.inr (6, List.mapIdx _ _) = _
    simp only [List.mapIdx_cons, List.mapIdx_nil]
    rfl
  rw [e]
  rfl
theorem tw26 {cA : Nat → ClassId} {q0 q1 : Nat} {a b : Nat → Nat} : (mk_X5_init cA q0 a ++ mk_X6_init cA q1 b)[44]? = some (adW q0 q1 a b 26, lcell cA (adW q0 q1 a b) S0 26 (.inl (0, 6, 0))) := rfl
theorem tw27 {cA : Nat → ClassId} {q0 q1 : Nat} {a b : Nat → Nat} : (mk_X5_init cA q0 a ++ mk_X6_init cA q1 b)[45]? = some (adW q0 q1 a b 27, lcell cA (adW q0 q1 a b) S0 27 (.inl (0, 6, 0))) := rfl
theorem tw28 {cA : Nat → ClassId} {q0 q1 : Nat} {a b : Nat → Nat} : (mk_X5_init cA q0 a ++ mk_X6_init cA q1 b)[46]? = some (adW q0 q1 a b 28, lcell cA (adW q0 q1 a b) S0 28 (.inl (0, 48, 0))) := rfl
theorem tw29 {cA : Nat → ClassId} {q0 q1 : Nat} {a b : Nat → Nat} : (mk_X5_init cA q0 a ++ mk_X6_init cA q1 b)[47]? = some (adW q0 q1 a b 29, lcell cA (adW q0 q1 a b) S0 29 (.inl (0, 36, 0))) := rfl
theorem tw30 {cA : Nat → ClassId} {q0 q1 : Nat} {a b : Nat → Nat} : (mk_X5_init cA q0 a ++ mk_X6_init cA q1 b)[48]? = some (adW q0 q1 a b 30, lcell cA (adW q0 q1 a b) S0 30 (.inl (0, 8, 0))) := rfl
theorem tw31 {cA : Nat → ClassId} {q0 q1 : Nat} {a b : Nat → Nat} : (mk_X5_init cA q0 a ++ mk_X6_init cA q1 b)[49]? = some (adW q0 q1 a b 31, lcell cA (adW q0 q1 a b) S0 31 (.inl (0, 8, 0))) := rfl
theorem tw32 {cA : Nat → ClassId} {q0 q1 : Nat} {a b : Nat → Nat} : (mk_X5_init cA q0 a ++ mk_X6_init cA q1 b)[50]? = some (adW q0 q1 a b 32, lcell cA (adW q0 q1 a b) S0 32 (.inl (2, 8, 0))) := rfl
theorem tw33 {cA : Nat → ClassId} {q0 q1 : Nat} {a b : Nat → Nat} : (mk_X5_init cA q0 a ++ mk_X6_init cA q1 b)[51]? = some (adW q0 q1 a b 33, lcell cA (adW q0 q1 a b) S0 33 (.inl (0, 400, 0))) := rfl
theorem tw34 {cA : Nat → ClassId} {q0 q1 : Nat} {a b : Nat → Nat} : (mk_X5_init cA q0 a ++ mk_X6_init cA q1 b)[52]? = some (adW q0 q1 a b 34, lcell cA (adW q0 q1 a b) S0 34 (.inl (0, 400, 0))) := rfl
theorem tw35 {cA : Nat → ClassId} {q0 q1 : Nat} {a b : Nat → Nat} : (mk_X5_init cA q0 a ++ mk_X6_init cA q1 b)[53]? = some (adW q0 q1 a b 35, lcell cA (adW q0 q1 a b) S0 35 (.inl (0, 400, 0))) := rfl
theorem tw36 {cA : Nat → ClassId} {q0 q1 : Nat} {a b : Nat → Nat} : (mk_X5_init cA q0 a ++ mk_X6_init cA q1 b)[54]? = some (adW q0 q1 a b 36, lcell cA (adW q0 q1 a b) S0 36 (.inl (0, 6, 0))) := rfl
theorem tw37 {cA : Nat → ClassId} {q0 q1 : Nat} {a b : Nat → Nat} : (mk_X5_init cA q0 a ++ mk_X6_init cA q1 b)[55]? = some (adW q0 q1 a b 37, lcell cA (adW q0 q1 a b) S0 37 (.inl (1, 36, 0))) := rfl
theorem tw38 {cA : Nat → ClassId} {q0 q1 : Nat} {a b : Nat → Nat} : (mk_X5_init cA q0 a ++ mk_X6_init cA q1 b)[56]? = some (adW q0 q1 a b 38, lcell cA (adW q0 q1 a b) S0 38 (.inl (1, 6, 0))) := rfl
theorem tw39 {cA : Nat → ClassId} {q0 q1 : Nat} {a b : Nat → Nat} : (mk_X5_init cA q0 a ++ mk_X6_init cA q1 b)[57]? = some (adW q0 q1 a b 39, lcell cA (adW q0 q1 a b) S0 39 (.inl (1, 6, 0))) := rfl
theorem tw40 {cA : Nat → ClassId} {q0 q1 : Nat} {a b : Nat → Nat} : (mk_X5_init cA q0 a ++ mk_X6_init cA q1 b)[58]? = some (adW q0 q1 a b 40, lcell cA (adW q0 q1 a b) S0 40 (.inl (1, 8, 0))) := rfl
theorem tw41 {cA : Nat → ClassId} {q0 q1 : Nat} {a b : Nat → Nat} : (mk_X5_init cA q0 a ++ mk_X6_init cA q1 b)[59]? = some (adW q0 q1 a b 41, lcell cA (adW q0 q1 a b) S0 41 (.inl (0, 256, 0))) := rfl
theorem tw42 {cA : Nat → ClassId} {q0 q1 : Nat} {a b : Nat → Nat} : (mk_X5_init cA q0 a ++ mk_X6_init cA q1 b)[60]? = some (adW q0 q1 a b 42, lcell cA (adW q0 q1 a b) S0 42 (.inl (0, 8, 0))) := rfl
theorem tw43 {cA : Nat → ClassId} {q0 q1 : Nat} {a b : Nat → Nat} : (mk_X5_init cA q0 a ++ mk_X6_init cA q1 b)[5]? = some (adW q0 q1 a b 43, lcell cA (adW q0 q1 a b) S0 43 (.inl (0, 8, 0))) := rfl
theorem tw44 {cA : Nat → ClassId} {q0 q1 : Nat} {a b : Nat → Nat} : (mk_X5_init cA q0 a ++ mk_X6_init cA q1 b)[6]? = some (adW q0 q1 a b 44, lcell cA (adW q0 q1 a b) S0 44 (.inl (0, 8, 0))) := rfl
theorem tw45 {cA : Nat → ClassId} {q0 q1 : Nat} {a b : Nat → Nat} : (mk_X5_init cA q0 a ++ mk_X6_init cA q1 b)[7]? = some (adW q0 q1 a b 45, lcell cA (adW q0 q1 a b) S0 45 (.inl (0, 8, 0))) := rfl
theorem tw46 {cA : Nat → ClassId} {q0 q1 : Nat} {a b : Nat → Nat} : (mk_X5_init cA q0 a ++ mk_X6_init cA q1 b)[8]? = some (adW q0 q1 a b 46, lcell cA (adW q0 q1 a b) S0 46 (.inl (0, 8, 0))) := rfl
theorem tw47 {cA : Nat → ClassId} {q0 q1 : Nat} {a b : Nat → Nat} : (mk_X5_init cA q0 a ++ mk_X6_init cA q1 b)[9]? = some (adW q0 q1 a b 47, lcell cA (adW q0 q1 a b) S0 47 (.inl (0, 8, 0))) := rfl
theorem tw48 {cA : Nat → ClassId} {q0 q1 : Nat} {a b : Nat → Nat} : (mk_X5_init cA q0 a ++ mk_X6_init cA q1 b)[10]? = some (adW q0 q1 a b 48, lcell cA (adW q0 q1 a b) S0 48 (.inl (0, 8, 0))) := rfl
theorem tw49 {cA : Nat → ClassId} {q0 q1 : Nat} {a b : Nat → Nat} : (mk_X5_init cA q0 a ++ mk_X6_init cA q1 b)[12]? = some (adW q0 q1 a b 49, lcell cA (adW q0 q1 a b) S0 49 (.inl (0, 6, 0))) := rfl
theorem tw50 {cA : Nat → ClassId} {q0 q1 : Nat} {a b : Nat → Nat} : (mk_X5_init cA q0 a ++ mk_X6_init cA q1 b)[13]? = some (adW q0 q1 a b 50, lcell cA (adW q0 q1 a b) S0 50 (.inl (0, 6, 0))) := rfl
theorem tw51 {cA : Nat → ClassId} {q0 q1 : Nat} {a b : Nat → Nat} : (mk_X5_init cA q0 a ++ mk_X6_init cA q1 b)[14]? = some (adW q0 q1 a b 51, lcell cA (adW q0 q1 a b) S0 51 (.inl (0, 6, 0))) := rfl
theorem tw52 {cA : Nat → ClassId} {q0 q1 : Nat} {a b : Nat → Nat} : (mk_X5_init cA q0 a ++ mk_X6_init cA q1 b)[15]? = some (adW q0 q1 a b 52, lcell cA (adW q0 q1 a b) S0 52 (.inl (0, 6, 0))) := rfl
theorem tw53 {cA : Nat → ClassId} {q0 q1 : Nat} {a b : Nat → Nat} : (mk_X5_init cA q0 a ++ mk_X6_init cA q1 b)[16]? = some (adW q0 q1 a b 53, lcell cA (adW q0 q1 a b) S0 53 (.inl (0, 6, 0))) := rfl
theorem tw54 {cA : Nat → ClassId} {q0 q1 : Nat} {a b : Nat → Nat} : (mk_X5_init cA q0 a ++ mk_X6_init cA q1 b)[17]? = some (adW q0 q1 a b 54, lcell cA (adW q0 q1 a b) S0 54 (.inl (0, 6, 0))) := rfl
theorem tw55 {cA : Nat → ClassId} {q0 q1 : Nat} {a b : Nat → Nat} : (mk_X5_init cA q0 a ++ mk_X6_init cA q1 b)[25]? = some (adW q0 q1 a b 55, lcell cA (adW q0 q1 a b) S0 55 (.inl (1, 6, 0))) := rfl
theorem tw56 {cA : Nat → ClassId} {q0 q1 : Nat} {a b : Nat → Nat} : (mk_X5_init cA q0 a ++ mk_X6_init cA q1 b)[26]? = some (adW q0 q1 a b 56, lcell cA (adW q0 q1 a b) S0 56 (.inl (1, 6, 0))) := rfl
theorem tw57 {cA : Nat → ClassId} {q0 q1 : Nat} {a b : Nat → Nat} : (mk_X5_init cA q0 a ++ mk_X6_init cA q1 b)[27]? = some (adW q0 q1 a b 57, lcell cA (adW q0 q1 a b) S0 57 (.inl (1, 6, 0))) := rfl
theorem tw58 {cA : Nat → ClassId} {q0 q1 : Nat} {a b : Nat → Nat} : (mk_X5_init cA q0 a ++ mk_X6_init cA q1 b)[28]? = some (adW q0 q1 a b 58, lcell cA (adW q0 q1 a b) S0 58 (.inl (1, 6, 0))) := rfl
theorem tw59 {cA : Nat → ClassId} {q0 q1 : Nat} {a b : Nat → Nat} : (mk_X5_init cA q0 a ++ mk_X6_init cA q1 b)[29]? = some (adW q0 q1 a b 59, lcell cA (adW q0 q1 a b) S0 59 (.inl (1, 6, 0))) := rfl
theorem tw60 {cA : Nat → ClassId} {q0 q1 : Nat} {a b : Nat → Nat} : (mk_X5_init cA q0 a ++ mk_X6_init cA q1 b)[30]? = some (adW q0 q1 a b 60, lcell cA (adW q0 q1 a b) S0 60 (.inl (1, 6, 0))) := rfl
theorem tw_all {cA : Nat → ClassId} {q0 q1 : Nat} {a b : Nat → Nat} : ∀ (k : Nat) (x : Lay), LU[k]? = some x → (mk_X5_init cA q0 a ++ mk_X6_init cA q1 b)[piW.getD k 0]? = some (adW q0 q1 a b k, lcell cA (adW q0 q1 a b) S0 k x) := by
  intro k x hx
  match k, hx with
  | 0, hx => cases hx; exact tw0
  | 1, hx => cases hx; exact tw1
  | 2, hx => cases hx; exact tw2
  | 3, hx => cases hx; exact tw3
  | 4, hx => cases hx; exact tw4
  | 5, hx => cases hx; exact tw5
  | 6, hx => cases hx; exact tw6
  | 7, hx => cases hx; exact tw7
  | 8, hx => cases hx; exact tw8
  | 9, hx => cases hx; exact tw9
  | 10, hx => cases hx; exact tw10
  | 11, hx => cases hx; exact tw11
  | 12, hx => cases hx; exact tw12
  | 13, hx => cases hx; exact tw13
  | 14, hx => cases hx; exact tw14
  | 15, hx => cases hx; exact tw15
  | 16, hx => cases hx; exact tw16
  | 17, hx => cases hx; exact tw17
  | 18, hx => cases hx; exact tw18
  | 19, hx => cases hx; exact tw19
  | 20, hx => cases hx; exact tw20
  | 21, hx => cases hx; exact tw21
  | 22, hx => cases hx; exact tw22
  | 23, hx => cases hx; exact tw23
  | 24, hx => cases hx; exact tw24
  | 25, hx => cases hx; exact tw25
  | 26, hx => cases hx; exact tw26
  | 27, hx => cases hx; exact tw27
  | 28, hx => cases hx; exact tw28
  | 29, hx => cases hx; exact tw29
  | 30, hx => cases hx; exact tw30
  | 31, hx => cases hx; exact tw31
  | 32, hx => cases hx; exact tw32
  | 33, hx => cases hx; exact tw33
  | 34, hx => cases hx; exact tw34
  | 35, hx => cases hx; exact tw35
  | 36, hx => cases hx; exact tw36
  | 37, hx => cases hx; exact tw37
  | 38, hx => cases hx; exact tw38
  | 39, hx => cases hx; exact tw39
  | 40, hx => cases hx; exact tw40
  | 41, hx => cases hx; exact tw41
  | 42, hx => cases hx; exact tw42
  | 43, hx => cases hx; exact tw43
  | 44, hx => cases hx; exact tw44
  | 45, hx => cases hx; exact tw45
  | 46, hx => cases hx; exact tw46
  | 47, hx => cases hx; exact tw47
  | 48, hx => cases hx; exact tw48
  | 49, hx => cases hx; exact tw49
  | 50, hx => cases hx; exact tw50
  | 51, hx => cases hx; exact tw51
  | 52, hx => cases hx; exact tw52
  | 53, hx => cases hx; exact tw53
  | 54, hx => cases hx; exact tw54
  | 55, hx => cases hx; exact tw55
  | 56, hx => cases hx; exact tw56
  | 57, hx => cases hx; exact tw57
  | 58, hx => cases hx; exact tw58
  | 59, hx => cases hx; exact tw59
  | 60, hx => cases hx; exact tw60
  | k + 61, hx => exact absurd (lay_lt hx) (by show ¬ k + 61 < 61; omega)
theorem two_P {D : va_G} {cA : Nat → ClassId} {q0 q1 : Nat} {a b : Nat → Nat} {H : Heap} (h : va_P D vwCl (mk_X5_init cA q0 a ++ mk_X6_init cA q1 b) H) : va_P D vwCl (wld cA (adW q0 q1 a b) LU S0) H := by
  intro k q hq
  obtain ⟨x, hx, rfl⟩ := wld_inv hq
  exact h _ _ (tw_all k x hx)
theorem piW_inj : ∀ i, i < 61 → ∀ j, j < 61 → piW.getD i 0 = piW.getD j 0 → i = j := by decide +kernel
theorem two_D {A : Nat → Prop} {cA : Nat → ClassId} {q0 q1 : Nat} {a b : Nat → Nat} (h : va_D A (mk_X5_init cA q0 a ++ mk_X6_init cA q1 b)) : va_D A (wld cA (adW q0 q1 a b) LU S0) := by
  refine ⟨fun i j p q h1 h2 e => ?_, fun k q hq => ?_⟩
  · obtain ⟨x, hx, rfl⟩ := wld_inv h1
    obtain ⟨y, hy, rfl⟩ := wld_inv h2
    exact piW_inj i (lay_lt hx) j (lay_lt hy) (h.1 _ _ _ _ (tw_all i x hx) (tw_all j y hy) e)
  · obtain ⟨x, hx, rfl⟩ := wld_inv hq
    exact h.2 _ _ (tw_all k x hx)

theorem end_go {p : Program} {l : Launch} {e : Env} {s : State} {m : MethodId} {below : List Frame} {meth : Method} {c : Code} {D : va_G} {cA : Nat → ClassId} {ad : Nat → Nat} {ex : List Lay} {b0 : Nat} (hx : p.tables.exec = Jvm.exec) (hb : c.code = code) (hr : meth.sig.returnType = ret) (hlocks : meth.locks = false) (hge : ∀ k, k < (LU ++ ex).length → s.heap.size ≤ ad k) (cc ss : Nat) (S : St) (lv : List (Nat × Value)) (h1 : cc ≤ 600000) (h2 : ss ≤ 7302250) : Go p l e room_1 s m #[Value.ref b0] below meth c D cA ad (LU ++ ex) 4 cc ss (lw_Z below #[Value.ref b0] s) S 760 lv (.int 1 :: []) := by
  intro H locs ls hP hS hl
  refine va_forget (fun q hq => ?_) ?_
  · rcases hS.2.2 q hq with ⟨k, hk, e⟩ | h
    · rw [e]; exact hge k hk
    · exact h
  refine W.widen (k := 600000) (n := 7302250) h1 h2 ?_
  exact lw_ret hx hb hr hlocks dL_law_760
theorem LU_ok : ∀ (k : Nat) (x : Lay), LU[k]? = some x → okX LU.length x := by
  have h : ∀ x ∈ LU, okX LU.length x := by
    intro x hx
    simp only [LU, List.mem_cons, List.not_mem_nil, or_false] at hx
    rcases hx with rfl | rfl | rfl | rfl | rfl | rfl | rfl | rfl | rfl | rfl | rfl | rfl | rfl | rfl | rfl | rfl | rfl | rfl | rfl | rfl | rfl | rfl | rfl | rfl | rfl | rfl | rfl | rfl | rfl | rfl | rfl | rfl | rfl | rfl | rfl | rfl | rfl | rfl | rfl | rfl | rfl | rfl | rfl | rfl | rfl | rfl | rfl | rfl | rfl | rfl | rfl | rfl | rfl | rfl | rfl | rfl | rfl | rfl | rfl | rfl | rfl <;> first | (intro h; rcases h with h | h <;> first | (cases h; done) | decide) | (intro q hq; revert q; decide)
  exact fun k x hx => h x (List.mem_of_getElem? hx)
theorem start_end (pure : ∀ (L : Nat) (xs : Nat → Int32), L ≤ 2048 → wL_law L xs 600 0 S0) {p : Program} {l : Launch} {e : Env} {s : State} {m : MethodId} {below : List Frame} {meth : Method} {c : Code} {D : va_G} {cA : Nat → ClassId} {ad : Nat → Nat} {b0 L : Nat} {xs : Nat → Int32} {A : Nat → Prop} {H : Heap} {locs : List Loc} {ls : Array Slot} {q0 q1 cells slots : Nat} (hL : L ≤ 2048) (C0 : lw_At p s m meth c b0 L xs) (hts : ∀ w ∈ T0, w.before #[Value.ref b0] s = true) (hE : Ec D cA A s) (hP : va_P D vwCl (wld cA ad LU S0) H) (hD : va_D A (wld cA ad LU S0)) (hS : va_S (fun q : Nat => s.heap.size ≤ q) s.heap H locs) (hAe : A = fun q : Nat => s.heap.size ≤ q) (e0 : q0 = ad 0) (e1 : q1 = ad 25) (hl : lv_has ls 4 [(3, .int 0), (2, .ref q1), (1, .ref q0), (0, .ref b0)]) (hc : cells ≤ 1000 := by decide) (hs : slots ≤ 10000 := by decide) : W p l e room_1 s m #[Value.ref b0] below meth c H locs cells slots (lw_Z below #[Value.ref b0] s) (F0 m 18 ls []) := by
  obtain ⟨hx, hb, hr, hml, hown, hts1, hX, hbl, hlocks, hgv⟩ := C0
  subst e0
  subst e1
  have hge : ∀ k, k < (LU ++ []).length → s.heap.size ≤ ad k := by
    intro k hk
    rw [List.append_nil] at hk
    have h9 := hD.2 k _ (wld_get (List.getElem?_eq_getElem hk))
    rw [hAe] at h9
    exact h9
  have hw1 : ∀ z, wA ad (LU ++ []) s.heap.size z → s.heap.size ≤ z := fun z hz => hz.elim (fun ⟨k, hk, e⟩ => by rw [e]; exact hge k hk) id
  have hbA : ¬ wA ad (LU ++ []) s.heap.size b0 := fun h => absurd (hw1 b0 h) (Nat.not_le.mpr hbl)
  have hS2 : va_S (wA ad (LU ++ []) s.heap.size) s.heap H locs := ⟨hS.1, fun q h1 h2 => hS.2.1 q h1 (fun h => h2 (Or.inr h)), fun q hq => Or.inr (hS.2.2 q hq)⟩
  have hinj : inj ad (LU ++ []) := by
    rw [List.append_nil]
    refine ⟨fun i j hi hj e => ?_, LU_ok⟩
    exact hD.1 i j _ _ (wld_get (List.getElem?_eq_getElem hi)) (wld_get (List.getElem?_eq_getElem hj)) e
  have hC : Cx p s m #[Value.ref b0] meth c code 4 ret RL D cA ad (LU ++ []) := ⟨hx, hb, hml, hr, hlocks, hown, hts, hE.1, hE.2.1, hinj, hE.2.2.1.narrow (fun z hz => by rw [hAe]; exact hw1 z hz)⟩
  have g := L_law (l := l) (e := e) (below := below) (Q := lw_Z below #[Value.ref b0] s) hC hX hbl hbA (end_go hx hb hr hlocks hge) 600 cells slots (by omega) (by omega) 0 S0 (pure L xs hL)
  exact g H locs ls (by rw [List.append_nil]; exact hP) hS2 (lv_sub hl [3, 2, 1, 0] rfl)

set_option maxHeartbeats 4000000 in
set_option maxRecDepth 100000 in
/-- from the entry: the pure statement over the script gives the walk -/
theorem start_of (pure : ∀ (L : Nat) (xs : Nat → Int32), L ≤ 2048 → wL_law L xs 600 0 S0) {p : Program} {e : Env} {s : State} {m : MethodId} {below : List Frame} {meth : Method} {c : Code} (l : Launch) {b0 L : Nat} {xs : Nat → Int32} (hL : L ≤ 2048) (C0 : lw_At p s m meth c b0 L xs) : W p l e room_1 s m #[Value.ref b0] below meth c s.heap [] 0 0 (lw_Z below #[Value.ref b0] s) (entryFrame m ([Value.ref b0] : List Value).toArray 4) := by
  obtain ⟨hx, hb, hr, hml, hown, hts1, hX, hbl, hlocks, hgv⟩ := id C0
  have hts : ∀ w ∈ T0, w.before #[Value.ref b0] s = true := fun w hw => hts1 w (List.mem_filter.mp hw).1
  obtain ⟨A, hAe⟩ : ∃ A : Nat → Prop, A = fun q : Nat => s.heap.size ≤ q := ⟨_, rfl⟩
  have hA : ∀ q : Nat, s.heap.size ≤ q → A q := fun q h => by rw [hAe]; exact h
  have hAn : ∀ q : Nat, q < s.heap.size → ¬ A q := fun q h => by rw [hAe]; exact Nat.not_le.mpr h
  obtain ⟨cA, hcA⟩ := tys_known hts1
  obtain ⟨D, hDk⟩ := cls_known hts
  have hK : va_K D vwCl (tysA cA) s := ⟨hDk, hcA⟩
  have hN : ∀ w ∈ N0, va_Nw w s := fun w hw => va_Nw.of (N0_tab (List.mem_filter.mp hw).2) (hts1 w (List.mem_filter.mp hw).1)
  have hTz : Tz A s s.heap := fact_known hts1 hgv hAn
  have hE : Ec D cA A s := ⟨hK, hN, hTz, hts1 _ kAO3, hts1 _ kAO4⟩
  have hS : va_S A s.heap s.heap [] := va_S.rf
  have hP : va_P D vwCl [] s.heap := fun k q h => by simp at h
  have hD : va_D A [] := ⟨fun i j p q h => by simp at h, fun k q h => by simp at h⟩
  have hl := lv_entry ([.ref b0]) (n := 4) (Nat.le_of_ble_eq_true rfl)
  rw [lg_entry_eq]
  generalize (lg_sl ([.ref b0]) ++ List.replicate (4 - (lg_sl ([.ref b0])).length) Slot.unset).toArray = ls at hl ⊢
  have hl : lv_has ls 4 [(0, .ref b0)] := hl
  refine va_new (ci := 5) (fs := [.null, .null, .null, .null, .null, .null, .null]) (C := RX5) (T := TX5) (N := 7) hx hb hts iw5 tyX5 tyX5_ok hown (hts _ kCLL7) (hts _ kINL5) (hts _ k50_) hK hP hD hS hA rfl (fun j hj => by rcases (show j = 0 ∨ j = 1 ∨ j = 2 ∨ j = 3 ∨ j = 4 ∨ j = 5 ∨ j = 6 by omega) with rfl | rfl | rfl | rfl | rfl | rfl | rfl <;> rfl) (by decide) (by decide) dL_law_0 (fun q0 H hP hD hS => ?_)
  have hP : va_P D vwCl [(q0, .inr (5, [.null, .null, .null, .null, .null, .null, .null]))] H := hP
  have hD : va_D A [(q0, .inr (5, [.null, .null, .null, .null, .null, .null, .null]))] := hD
  refine lv_dup hx hb dL_law_3 rfl ?_
  have hFc := va_free (wc := [(q0, .inr (5, [.null, .null, .null, .null, .null, .null, .null]))]) hD hS hA [0] rfl
  refine va_callv (va_runI (As := []) (rest := [.ref q0]) ⟨hx, hb, hml, hown, hts⟩ (c_X5_init (l := l) (D := D) (cA := cA) q0 H.size) ⟨callB_of 0 hts (T0_call k64_) rfl rfl rfl (hts _ k50_) (hts _ k62_) ⟨by decide +kernel, by decide +kernel, by decide +kernel⟩ (by decide), rfl, hts _ k63_⟩ ⟨PreC.blind, fun U hU hW => ⟨rfl, by rw [hU], by rw [hU]; exact hP, hE.warm hW hU hS hFc⟩⟩ rfl rfl hl.1 rfl (lv_room (Nat.le_of_ble_eq_true rfl)) dL_law_4 (by decide)) hS (fun q _ h => hFc q h) hFc (fun a t H1 locs ht hvm hw hB hz1 hk1 hS => ?_)
  obtain ⟨hP1, hD1⟩ := hB
  rw [ht] at hP1
  replace hD : va_D A (mk_X5_init cA q0 a) := hD1.weaken (fun _ q _ h => hFc q.1 h)
  replace hP : va_P D vwCl (mk_X5_init cA q0 a) H1 := hP1
  clear hP1 hD1 hw hz1 hk1 hFc ht hvm t
  generalize H1 = H at hP hS ⊢
  refine lv_astore_n (lv' := [(1, .ref q0), (0, .ref b0)]) hx hb dL_law_7 rfl hl (by decide) rfl (fun ls hl => ?_)
  refine va_new (ci := 6) (fs := [.int 0, .null, .null, .null, .null, .null, .null, .null, .int 0, .int 0, .int 0, .int 0, .null, .null, .null, .null, .null, .null, .null, .int 0, .long 0, .null, .long 0, .null, .int 0, .null]) (C := RX6) (T := TX6) (N := 26) hx hb hts iw6 tyX6 tyX6_ok hown (hts _ kCLL10) (hts _ kINL6) (hts _ k57_) hK hP hD hS hA rfl (fun j hj => by rcases (show j = 0 ∨ j = 1 ∨ j = 2 ∨ j = 3 ∨ j = 4 ∨ j = 5 ∨ j = 6 ∨ j = 7 ∨ j = 8 ∨ j = 9 ∨ j = 10 ∨ j = 11 ∨ j = 12 ∨ j = 13 ∨ j = 14 ∨ j = 15 ∨ j = 16 ∨ j = 17 ∨ j = 18 ∨ j = 19 ∨ j = 20 ∨ j = 21 ∨ j = 22 ∨ j = 23 ∨ j = 24 ∨ j = 25 by omega) with rfl | rfl | rfl | rfl | rfl | rfl | rfl | rfl | rfl | rfl | rfl | rfl | rfl | rfl | rfl | rfl | rfl | rfl | rfl | rfl | rfl | rfl | rfl | rfl | rfl | rfl <;> rfl) (by decide) (by decide) dL_law_8 (fun q1 H hP hD hS => ?_)
  refine lv_dup hx hb dL_law_11 rfl ?_
  have hPc := hP.sub (ws' := [(q1, .inr (6, [.int 0, .null, .null, .null, .null, .null, .null, .null, .int 0, .int 0, .int 0, .int 0, .null, .null, .null, .null, .null, .null, .null, .int 0, .long 0, .null, .long 0, .null, .int 0, .null]))]) [43] rfl
  have hFc := va_free (wc := [(q1, .inr (6, [.int 0, .null, .null, .null, .null, .null, .null, .null, .int 0, .int 0, .int 0, .int 0, .null, .null, .null, .null, .null, .null, .null, .int 0, .long 0, .null, .long 0, .null, .int 0, .null]))]) hD hS hA [43] rfl
  refine va_callv (va_runI (As := []) (rest := [.ref q1]) ⟨hx, hb, hml, hown, hts⟩ (c_X6_init (l := l) (D := D) (cA := cA) q1 H.size) ⟨callB_of 0 hts (T0_call k519_) rfl rfl rfl (hts _ k57_) (hts _ k517_) ⟨by decide +kernel, by decide +kernel, by decide +kernel⟩ (by decide), rfl, hts _ k518_⟩ ⟨PreC.blind, fun U hU hW => ⟨rfl, by rw [hU], by rw [hU]; exact hPc, hE.warm hW hU hS hFc⟩⟩ rfl rfl hl.1 rfl (lv_room (Nat.le_of_ble_eq_true rfl)) dL_law_12 (by decide)) hS (fun q _ h => hFc q h) hFc (fun b t H1 locs ht hvm hw hB hz1 hk1 hS => ?_)
  obtain ⟨hP1, hD1⟩ := hB
  rw [ht] at hP1
  obtain ⟨hP, hD⟩ := va_join (wr := mk_X5_init cA q0 a) (w1 := mk_X6_init cA q1 b) hP hD [43] [0, 1, 2, 3, 4, 5, 6, 7, 8, 9, 10, 11, 12, 13, 14, 15, 16, 17, 18, 19, 20, 21, 22, 23, 24, 25, 26, 27, 28, 29, 30, 31, 32, 33, 34, 35, 36, 37, 38, 39, 40, 41, 42] rfl rfl (by decide) (by decide) hk1 hFc hP1 hD1
  clear hP1 hD1 hw hz1 hk1 hFc hPc ht hvm t
  generalize H1 = H at hP hS ⊢
  refine lv_astore_n (lv' := [(2, .ref q1), (1, .ref q0), (0, .ref b0)]) hx hb dL_law_15 rfl hl (by decide) rfl (fun ls hl => ?_)
  refine lv_iconst (v := 0) hx hb dL_law_16 (by decide) ?_
  refine lv_istore_n (lv' := [(3, .int 0), (2, .ref q1), (1, .ref q0), (0, .ref b0)]) hx hb dL_law_17 rfl hl (by decide) rfl (fun ls hl => ?_)
  have hPw : va_P D vwCl (wld cA (adW q0 q1 a b) LU S0) H := two_P hP
  have hDw : va_D A (wld cA (adW q0 q1 a b) LU S0) := two_D hD
  exact start_end pure hL C0 hts hE hPw hDw (by rw [hAe] at hS; exact hS) hAe rfl rfl hl
