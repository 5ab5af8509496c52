theorem k400_ : Cond.constant RJ6 265 (1431655765) ∈ T0 := in_T0 400 (by decide +kernel) (by decide +kernel)
theorem k401_ : Cond.constant RJ6 266 (858993459) ∈ T0 := in_T0 401 (by decide +kernel) (by decide +kernel)
theorem k402_ : Cond.constant RJ6 267 (252645135) ∈ T0 := in_T0 402 (by decide +kernel) (by decide +kernel)
theorem k80_ : Cond.fieldLink RX4 38 RX4 "made" "I" ∈ T0 := in_T0 80 (by decide +kernel) (by decide +kernel)
theorem k81_ : Cond.fieldLink RX4 9 RX4 "fixedCosts" "[I" ∈ T0 := in_T0 81 (by decide +kernel) (by decide +kernel)
theorem k82_ : Cond.fieldLink RX4 15 RX4 "stepPrices" "[I" ∈ T0 := in_T0 82 (by decide +kernel) (by decide +kernel)
theorem k88_ : Cond.fieldLink RX4 29 RX4 "knownCosts" "[I" ∈ T0 := in_T0 88 (by decide +kernel) (by decide +kernel)
theorem k76_ : Cond.methodLink RX4 32 yJ7_fill_53178 ∈ T0 := in_T0 76 (by decide +kernel) (by decide +kernel)
theorem k78_ : Cond.code yJ7_fill_53178 cJ7_fill_53178 4 none ∈ T0 := in_T0 78 (by decide +kernel) (by decide +kernel)
theorem k52_ : Cond.initialized RJ7 ∈ T0 := in_T0 52 (by decide +kernel) (by decide +kernel)
theorem k77_ : Cond.static yJ7_fill_53178 ∈ T0 := in_T0 77 (by decide +kernel) (by decide +kernel)
theorem k235_ : Cond.methodLink RX4 42 yX4_putCosts ∈ T0 := in_T0 235 (by decide +kernel) (by decide +kernel)
theorem k238_ : Cond.code yX4_putCosts cX4_putCosts 4 none ∈ T0 := in_T0 238 (by decide +kernel) (by decide +kernel)
theorem k51_ : Cond.initialized RX4 ∈ T0 := in_T0 51 (by decide +kernel) (by decide +kernel)
theorem k237_ : Cond.instanceMethod yX4_putCosts ∈ T0 := in_T0 237 (by decide +kernel) (by decide +kernel)
theorem k1_ : Cond.selects RX4 yX4_putCosts yX4_putCosts ∈ T0 := in_T0 1 (by decide +kernel) (by decide +kernel)
theorem k85_ : Cond.fieldLink RX4 23 RX4 "unitsByWork" "[[I" ∈ T0 := in_T0 85 (by decide +kernel) (by decide +kernel)
theorem k279_ : Cond.methodLink RX4 49 yX4_usedBy ∈ T0 := in_T0 279 (by decide +kernel) (by decide +kernel)
theorem k282_ : Cond.code yX4_usedBy cX4_usedBy 5 (some .int) ∈ T0 := in_T0 282 (by decide +kernel) (by decide +kernel)
theorem k281_ : Cond.instanceMethod yX4_usedBy ∈ T0 := in_T0 281 (by decide +kernel) (by decide +kernel)
theorem k8_ : Cond.selects RX4 yX4_usedBy yX4_usedBy ∈ T0 := in_T0 8 (by decide +kernel) (by decide +kernel)
theorem n287_ : Cond.methodLinkNest RX4 57 yX5_isIn "BillHouse" ∈ N0 := in_N0 287 (by decide +kernel) (by decide +kernel)
theorem k289_ : Cond.code yX5_isIn cX5_isIn 2 (some .boolean) ∈ T0 := in_T0 289 (by decide +kernel) (by decide +kernel)
theorem k50_ : Cond.initialized RX5 ∈ T0 := in_T0 50 (by decide +kernel) (by decide +kernel)
theorem k288_ : Cond.static yX5_isIn ∈ T0 := in_T0 288 (by decide +kernel) (by decide +kernel)
theorem k87_ : Cond.fieldLink RX4 26 RX4 "needsOfUser" "[I" ∈ T0 := in_T0 87 (by decide +kernel) (by decide +kernel)
theorem k83_ : Cond.fieldLink RX4 20 RX4 "unitsByUser" "[[I" ∈ T0 := in_T0 83 (by decide +kernel) (by decide +kernel)
theorem k283_ : Cond.methodLink RX4 53 yX4_withAllTheyUse ∈ T0 := in_T0 283 (by decide +kernel) (by decide +kernel)
theorem k286_ : Cond.code yX4_withAllTheyUse cX4_withAllTheyUse 5 (some .int) ∈ T0 := in_T0 286 (by decide +kernel) (by decide +kernel)
theorem k285_ : Cond.instanceMethod yX4_withAllTheyUse ∈ T0 := in_T0 285 (by decide +kernel) (by decide +kernel)
theorem k9_ : Cond.selects RX4 yX4_withAllTheyUse yX4_withAllTheyUse ∈ T0 := in_T0 9 (by decide +kernel) (by decide +kernel)
theorem k275_ : Cond.methodLink RX4 46 yX4_learnNeeds ∈ T0 := in_T0 275 (by decide +kernel) (by decide +kernel)
theorem k278_ : Cond.code yX4_learnNeeds cX4_learnNeeds 2 none ∈ T0 := in_T0 278 (by decide +kernel) (by decide +kernel)
theorem k277_ : Cond.instanceMethod yX4_learnNeeds ∈ T0 := in_T0 277 (by decide +kernel) (by decide +kernel)
theorem k7_ : Cond.selects RX4 yX4_learnNeeds yX4_learnNeeds ∈ T0 := in_T0 7 (by decide +kernel) (by decide +kernel)
theorem k358_ : Cond.methodLink RX4 68 yX4_costAt ∈ T0 := in_T0 358 (by decide +kernel) (by decide +kernel)
theorem k361_ : Cond.code yX4_costAt cX4_costAt 4 (some .int) ∈ T0 := in_T0 361 (by decide +kernel) (by decide +kernel)
theorem k360_ : Cond.instanceMethod yX4_costAt ∈ T0 := in_T0 360 (by decide +kernel) (by decide +kernel)
theorem k18_ : Cond.selects RX4 yX4_costAt yX4_costAt ∈ T0 := in_T0 18 (by decide +kernel) (by decide +kernel)
theorem k357_ : Cond.methodLink RX4 64 yX4_unitsOf ∈ T0 := in_T0 357 (by decide +kernel) (by decide +kernel)
theorem k343_ : Cond.code yX4_unitsOf cX4_unitsOf 6 (some .int) ∈ T0 := in_T0 343 (by decide +kernel) (by decide +kernel)
theorem k342_ : Cond.instanceMethod yX4_unitsOf ∈ T0 := in_T0 342 (by decide +kernel) (by decide +kernel)
theorem k15_ : Cond.selects RX4 yX4_unitsOf yX4_unitsOf ∈ T0 := in_T0 15 (by decide +kernel) (by decide +kernel)
theorem k356_ : Cond.methodLink RX4 61 yX4_neededBy ∈ T0 := in_T0 356 (by decide +kernel) (by decide +kernel)
theorem k322_ : Cond.code yX4_neededBy cX4_neededBy 4 (some .int) ∈ T0 := in_T0 322 (by decide +kernel) (by decide +kernel)
theorem k321_ : Cond.instanceMethod yX4_neededBy ∈ T0 := in_T0 321 (by decide +kernel) (by decide +kernel)
theorem k12_ : Cond.selects RX4 yX4_neededBy yX4_neededBy ∈ T0 := in_T0 12 (by decide +kernel) (by decide +kernel)
-- java/lang/Integer.bitCount(I)I
theorem qJ6_bitCount_0f7a4 : (parseMethodDescriptor yJ6_bitCount_0f7a4.desc).map (fun d => d.parameters.length) = some 1 := by decide +kernel
theorem mhJ6_bitCount_0f7a4 : yJ6_bitCount_0f7a4.cls ≠ "java/lang/invoke/MethodHandle" ∧ yJ6_bitCount_0f7a4.cls ≠ "java/lang/invoke/VarHandle" := by decide +kernel
def rJ6_bitCount_0f7a4 : Room := { frames := 0, cells := 0, slots := 0, locals := 0 }
def wp_J6_bitCount_0f7a4 (S : St) (a1 : Int32) (post : Int32 → St → Prop) : Prop :=
  ∀ x1 : Int32, x1 = (a1 - ((((a1).toUInt32 >>> (((1 : Int32)).toUInt32 &&& Int32.toUInt32 31)).toInt32) &&& (1431655765 : Int32))) → ∀ x2 : Int32, x2 = ((x1 &&& (858993459 : Int32)) + ((((x1).toUInt32 >>> (((2 : Int32)).toUInt32 &&& Int32.toUInt32 31)).toInt32) &&& (858993459 : Int32))) → ∀ x3 : Int32, x3 = ((x2 + (((x2).toUInt32 >>> (((4 : Int32)).toUInt32 &&& Int32.toUInt32 31)).toInt32)) &&& (252645135 : Int32)) → ∀ x4 : Int32, x4 = (x3 + (((x3).toUInt32 >>> (((8 : Int32)).toUInt32 &&& Int32.toUInt32 31)).toInt32)) → ∀ x5 : Int32, x5 = (x4 + (((x4).toUInt32 >>> (((16 : Int32)).toUInt32 &&& Int32.toUInt32 31)).toInt32)) → post (x5 &&& (63 : Int32)) S
set_option maxHeartbeats 4000000 in
set_option maxRecDepth 100000 in
theorem c_J6_bitCount_0f7a4 {l : Launch} {D : va_G} {cA : Nat → ClassId} {ad : Nat → Nat} {L : List Lay} (S : St) (a1 : Int32)  {post : Int32 → St → Prop} (h : wp_J6_bitCount_0f7a4 S a1 post) : MetI l yJ6_bitCount_0f7a4 cJ6_bitCount_0f7a4 1 (some .int) rJ6_bitCount_0f7a4 D cA ad L [.int a1] S post 0 0 := by
  refine MetI.of (by decide) (Nat.le_of_ble_eq_true rfl) ?_
  intro p e s m args below meth c C
  unfold wp_J6_bitCount_0f7a4 at h
  show Go p l e rJ6_bitCount_0f7a4 s m args below meth c D cA ad L 1 0 0 _ S 0 [(0, .int a1)] []
  replace C : Cx p s m args meth c cJ6_bitCount_0f7a4 1 (some .int) RJ6 D cA ad L := C
  refine go_iload_n C 0 1 0 0 dJ6_bitCount_0f7a4_0 rfl rfl rfl ?_
  refine go_iload_n C 1 2 0 0 dJ6_bitCount_0f7a4_1 rfl rfl rfl ?_
  refine go_iconst C 2 3 (1) dJ6_bitCount_0f7a4_2 (by decide) rfl ?_
  refine go_iushr C 3 4 dJ6_bitCount_0f7a4_3 rfl ?_
  refine go_ldcw C 4 7 k400_ dJ6_bitCount_0f7a4_4 rfl ?_
  refine go_iand C 7 8 dJ6_bitCount_0f7a4_7 rfl ?_
  refine go_isub C 8 9 dJ6_bitCount_0f7a4_8 rfl ?_
  refine go_topi (fun x1 hx1 => ?_)
  replace h := h x1 hx1
  refine go_istore_n C 9 10 0 [(0, .int _)] dJ6_bitCount_0f7a4_9 rfl (by decide) rfl rfl ?_
  refine go_iload_n C 10 11 0 0 dJ6_bitCount_0f7a4_10 rfl rfl rfl ?_
  refine go_ldcw C 11 14 k401_ dJ6_bitCount_0f7a4_11 rfl ?_
  refine go_iand C 14 15 dJ6_bitCount_0f7a4_14 rfl ?_
  refine go_iload_n C 15 16 0 0 dJ6_bitCount_0f7a4_15 rfl rfl rfl ?_
  refine go_iconst C 16 17 (2) dJ6_bitCount_0f7a4_16 (by decide) rfl ?_
  refine go_iushr C 17 18 dJ6_bitCount_0f7a4_17 rfl ?_
  refine go_ldcw C 18 21 k401_ dJ6_bitCount_0f7a4_18 rfl ?_
  refine go_iand C 21 22 dJ6_bitCount_0f7a4_21 rfl ?_
  refine go_iadd C 22 23 dJ6_bitCount_0f7a4_22 rfl ?_
  refine go_topi (fun x2 hx2 => ?_)
  replace h := h x2 hx2
  refine go_istore_n C 23 24 0 [(0, .int _)] dJ6_bitCount_0f7a4_23 rfl (by decide) rfl rfl ?_
  refine go_iload_n C 24 25 0 0 dJ6_bitCount_0f7a4_24 rfl rfl rfl ?_
  refine go_iload_n C 25 26 0 0 dJ6_bitCount_0f7a4_25 rfl rfl rfl ?_
  refine go_iconst C 26 27 (4) dJ6_bitCount_0f7a4_26 (by decide) rfl ?_
  refine go_iushr C 27 28 dJ6_bitCount_0f7a4_27 rfl ?_
  refine go_iadd C 28 29 dJ6_bitCount_0f7a4_28 rfl ?_
  refine go_ldcw C 29 32 k402_ dJ6_bitCount_0f7a4_29 rfl ?_
  refine go_iand C 32 33 dJ6_bitCount_0f7a4_32 rfl ?_
  refine go_topi (fun x3 hx3 => ?_)
  replace h := h x3 hx3
  refine go_istore_n C 33 34 0 [(0, .int _)] dJ6_bitCount_0f7a4_33 rfl (by decide) rfl rfl ?_
  refine go_iload_n C 34 35 0 0 dJ6_bitCount_0f7a4_34 rfl rfl rfl ?_
  refine go_iload_n C 35 36 0 0 dJ6_bitCount_0f7a4_35 rfl rfl rfl ?_
  refine go_bipush C 36 38 (8) dJ6_bitCount_0f7a4_36 (by decide) rfl ?_
  refine go_iushr C 38 39 dJ6_bitCount_0f7a4_38 rfl ?_
  refine go_iadd C 39 40 dJ6_bitCount_0f7a4_39 rfl ?_
  refine go_topi (fun x4 hx4 => ?_)
  replace h := h x4 hx4
  refine go_istore_n C 40 41 0 [(0, .int _)] dJ6_bitCount_0f7a4_40 rfl (by decide) rfl rfl ?_
  refine go_iload_n C 41 42 0 0 dJ6_bitCount_0f7a4_41 rfl rfl rfl ?_
  refine go_iload_n C 42 43 0 0 dJ6_bitCount_0f7a4_42 rfl rfl rfl ?_
  refine go_bipush C 43 45 (16) dJ6_bitCount_0f7a4_43 (by decide) rfl ?_
  refine go_iushr C 45 46 dJ6_bitCount_0f7a4_45 rfl ?_
  refine go_iadd C 46 47 dJ6_bitCount_0f7a4_46 rfl ?_
  refine go_topi (fun x5 hx5 => ?_)
  replace h := h x5 hx5
  refine go_istore_n C 47 48 0 [(0, .int _)] dJ6_bitCount_0f7a4_47 rfl (by decide) rfl rfl ?_
  refine go_iload_n C 48 49 0 0 dJ6_bitCount_0f7a4_48 rfl rfl rfl ?_
  refine go_bipush C 49 51 (63) dJ6_bitCount_0f7a4_49 (by decide) rfl ?_
  refine go_iand C 51 52 dJ6_bitCount_0f7a4_51 rfl ?_
  exact go_iret C 52 rfl dJ6_bitCount_0f7a4_52 h
-- java/util/Arrays.fill([JJ)V
theorem qJ7_fill_d0a16 : (parseMethodDescriptor yJ7_fill_d0a16.desc).map (fun d => d.parameters.length) = some 2 := by decide +kernel
theorem mhJ7_fill_d0a16 : yJ7_fill_d0a16.cls ≠ "java/lang/invoke/MethodHandle" ∧ yJ7_fill_d0a16.cls ≠ "java/lang/invoke/VarHandle" := by decide +kernel
def rJ7_fill_d0a16 : Room := { frames := 0, cells := 0, slots := 0, locals := 0 }
def wB_J7_fill_d0a16_6 (k1 n1 : Nat) (p1 : Int64) (p4 : Int32) (k rec : Int32 → St → Prop) (v3 : Int32) (S : St) : Prop :=
  (p4 ≤ v3 → k v3 S) ∧ (¬ (p4 ≤ v3) → (vp_in v3 n1) ∧ (∀ S2 : St, S2 = uJ S k1 v3.toNatClampNeg p1 → rec (v3 + 1) S2))
def wL_J7_fill_d0a16_6 (k1 n1 : Nat) (p1 : Int64) (p4 : Int32) (k : Int32 → St → Prop) : Nat → Int32 → St → Prop
  | 0, _, _ => False
  | n + 1, v3, S => wB_J7_fill_d0a16_6 k1 n1 p1 p4 k (wL_J7_fill_d0a16_6 k1 n1 p1 p4 k n) v3 S
set_option maxHeartbeats 4000000 in
set_option maxRecDepth 100000 in
theorem L_J7_fill_d0a16_6 {p : Program} {l : Launch} {e : Env} {s : State} {m : MethodId} {args : Array Value} {below : List Frame} {meth : Method} {c : Code} {D : va_G} {cA : Nat → ClassId} {ad : Nat → Nat} {L : List Lay} {Q : State → Prop} (C : Cx p s m args meth c cJ7_fill_d0a16 5 none RJ7 D cA ad L) (k1 n1 : Nat) (hk1 : L[k1]? = some (.inl (1, n1, 0))) (p1 : Int64) (p4 : Int32) {k : Int32 → St → Prop} (hk : ∀ (v3 : Int32) (S : St), k v3 S → Go p l e rJ7_fill_d0a16 s m args below meth c D cA ad L 5 0 0 Q S 22 [] []) : ∀ (n : Nat) (v3 : Int32) (S : St), wL_J7_fill_d0a16_6 k1 n1 p1 p4 k n v3 S → Go p l e rJ7_fill_d0a16 s m args below meth c D cA ad L 5 0 0 Q S 6 [(0, .ref (ad k1)), (1, .long p1), (3, .int v3), (4, .int p4)] [] := by
  intro n
  induction n with
  | zero => intro v3 S h; exact h.elim
  | succ n ih =>
    intro v3 S h
    replace h : wB_J7_fill_d0a16_6 k1 n1 p1 p4 k (wL_J7_fill_d0a16_6 k1 n1 p1 p4 k n) v3 S := h
    unfold wB_J7_fill_d0a16_6 at h
    refine go_iload_n C 6 7 3 2 dJ7_fill_d0a16_6 rfl rfl rfl ?_
    refine go_iload C 7 9 4 3 dJ7_fill_d0a16_7 rfl rfl ?_
    refine go_icmp_ge C 9 12 22 dJ7_fill_d0a16_9 (by decide) rfl (fun hc => ?_) (fun hc => ?_)
    · have h := h.1 hc
      exact go_perm [] rfl (hk _ _ h)
    · have h := h.2 hc
      refine go_aload_n C 12 13 0 0 dJ7_fill_d0a16_12 rfl rfl rfl ?_
      refine go_iload_n C 13 14 3 2 dJ7_fill_d0a16_13 rfl rfl rfl ?_
      refine go_lload_n C 14 15 1 1 dJ7_fill_d0a16_14 rfl rfl rfl ?_
      obtain ⟨hi1, h⟩ := h
      refine go_last C 15 16 k1 hk1 hi1 dJ7_fill_d0a16_15 rfl ?_
      refine go_nm (fun S2 hS2 => ?_)
      replace h := h S2 hS2
      refine go_iinc C 16 19 3 2 (v3 + 1) [(3, .int _), (0, .ref _), (1, .long _), (4, .int _)] dJ7_fill_d0a16_16 rfl rfl (by decide) rfl rfl ?_
      refine go_goto C 19 6 dJ7_fill_d0a16_19 (by decide) ?_
      exact go_perm [1, 2, 0, 3] rfl (ih _ _ h)
def wp_J7_fill_d0a16 (S : St) (a2 : Int64) (k1 n1 : Nat) (post : St → Prop) : Prop :=
  ∀ x1 : Int32, x1 = (Int32.ofNat n1) → ∃ fu4, wL_J7_fill_d0a16_6 k1 n1 a2 x1 (fun (z3 : Int32) (S2 : St) => post S2) fu4 (0 : Int32) S
set_option maxHeartbeats 4000000 in
set_option maxRecDepth 100000 in
theorem c_J7_fill_d0a16 {l : Launch} {D : va_G} {cA : Nat → ClassId} {ad : Nat → Nat} {L : List Lay} (S : St) (a2 : Int64) (k1 n1 : Nat) (hk1 : L[k1]? = some (.inl (1, n1, 0))) {post : St → Prop} (h : wp_J7_fill_d0a16 S a2 k1 n1 post) : MetV l yJ7_fill_d0a16 cJ7_fill_d0a16 5 none rJ7_fill_d0a16 D cA ad L [.ref (ad k1), .long a2] S post 0 0 := by
  refine MetV.of (by decide) (Nat.le_of_ble_eq_true rfl) ?_
  intro p e s m args below meth c C
  unfold wp_J7_fill_d0a16 at h
  show Go p l e rJ7_fill_d0a16 s m args below meth c D cA ad L 5 0 0 _ S 0 [(0, .ref (ad k1)), (1, .long a2)] []
  replace C : Cx p s m args meth c cJ7_fill_d0a16 5 none RJ7 D cA ad L := C
  refine go_iconst C 0 1 (0) dJ7_fill_d0a16_0 (by decide) rfl ?_
  refine go_istore_n C 1 2 3 [(3, .int _), (0, .ref _), (1, .long _)] dJ7_fill_d0a16_1 rfl (by decide) rfl rfl ?_
  refine go_aload_n C 2 3 0 1 dJ7_fill_d0a16_2 rfl rfl rfl ?_
  refine go_alen C 3 4 k1 hk1 rfl (fun _ => rfl) dJ7_fill_d0a16_3 rfl ?_
  refine go_topi (fun x1 hx1 => ?_)
  replace h := h x1 hx1
  refine go_istore C 4 6 4 [(4, .int _), (3, .int _), (0, .ref _), (1, .long _)] dJ7_fill_d0a16_4 (by decide) rfl rfl ?_
  obtain ⟨fu4, h⟩ := h
  refine go_perm [2, 3, 1, 0] rfl (L_J7_fill_d0a16_6 C k1 n1 hk1 _ _ (fun z3 S2 h => ?_) _ _ _ h)
  exact go_vret C 22 rfl dJ7_fill_d0a16_22 h
-- java/util/Arrays.fill([II)V
theorem qJ7_fill_53178 : (parseMethodDescriptor yJ7_fill_53178.desc).map (fun d => d.parameters.length) = some 2 := by decide +kernel
theorem mhJ7_fill_53178 : yJ7_fill_53178.cls ≠ "java/lang/invoke/MethodHandle" ∧ yJ7_fill_53178.cls ≠ "java/lang/invoke/VarHandle" := by decide +kernel
def rJ7_fill_53178 : Room := { frames := 0, cells := 0, slots := 0, locals := 0 }
def wB_J7_fill_53178_5 (k1 n1 : Nat) (p1 : Int32) (p3 : Int32) (k rec : Int32 → St → Prop) (v2 : Int32) (S : St) : Prop :=
  (p3 ≤ v2 → k v2 S) ∧ (¬ (p3 ≤ v2) → (vp_in v2 n1) ∧ (∀ S2 : St, S2 = uI S k1 v2.toNatClampNeg p1 → rec (v2 + 1) S2))
def wL_J7_fill_53178_5 (k1 n1 : Nat) (p1 : Int32) (p3 : Int32) (k : Int32 → St → Prop) : Nat → Int32 → St → Prop
  | 0, _, _ => False
  | n + 1, v2, S => wB_J7_fill_53178_5 k1 n1 p1 p3 k (wL_J7_fill_53178_5 k1 n1 p1 p3 k n) v2 S
set_option maxHeartbeats 4000000 in
set_option maxRecDepth 100000 in
theorem L_J7_fill_53178_5 {p : Program} {l : Launch} {e : Env} {s : State} {m : MethodId} {args : Array Value} {below : List Frame} {meth : Method} {c : Code} {D : va_G} {cA : Nat → ClassId} {ad : Nat → Nat} {L : List Lay} {Q : State → Prop} (C : Cx p s m args meth c cJ7_fill_53178 4 none RJ7 D cA ad L) (k1 n1 : Nat) (hk1 : L[k1]? = some (.inl (0, n1, 0))) (p1 : Int32) (p3 : Int32) {k : Int32 → St → Prop} (hk : ∀ (v2 : Int32) (S : St), k v2 S → Go p l e rJ7_fill_53178 s m args below meth c D cA ad L 4 0 0 Q S 20 [] []) : ∀ (n : Nat) (v2 : Int32) (S : St), wL_J7_fill_53178_5 k1 n1 p1 p3 k n v2 S → Go p l e rJ7_fill_53178 s m args below meth c D cA ad L 4 0 0 Q S 5 [(0, .ref (ad k1)), (1, .int p1), (2, .int v2), (3, .int p3)] [] := by
  intro n
  induction n with
  | zero => intro v2 S h; exact h.elim
  | succ n ih =>
    intro v2 S h
    replace h : wB_J7_fill_53178_5 k1 n1 p1 p3 k (wL_J7_fill_53178_5 k1 n1 p1 p3 k n) v2 S := h
    unfold wB_J7_fill_53178_5 at h
    refine go_iload_n C 5 6 2 2 dJ7_fill_53178_5 rfl rfl rfl ?_
    refine go_iload_n C 6 7 3 3 dJ7_fill_53178_6 rfl rfl rfl ?_
    refine go_icmp_ge C 7 10 20 dJ7_fill_53178_7 (by decide) rfl (fun hc => ?_) (fun hc => ?_)
    · have h := h.1 hc
      exact go_perm [] rfl (hk _ _ h)
    · have h := h.2 hc
      refine go_aload_n C 10 11 0 0 dJ7_fill_53178_10 rfl rfl rfl ?_
      refine go_iload_n C 11 12 2 2 dJ7_fill_53178_11 rfl rfl rfl ?_
      refine go_iload_n C 12 13 1 1 dJ7_fill_53178_12 rfl rfl rfl ?_
      obtain ⟨hi1, h⟩ := h
      refine go_iast C 13 14 k1 hk1 hi1 dJ7_fill_53178_13 rfl ?_
      refine go_nm (fun S2 hS2 => ?_)
      replace h := h S2 hS2
      refine go_iinc C 14 17 2 2 (v2 + 1) [(2, .int _), (0, .ref _), (1, .int _), (3, .int _)] dJ7_fill_53178_14 rfl rfl (by decide) rfl rfl ?_
      refine go_goto C 17 5 dJ7_fill_53178_17 (by decide) ?_
      exact go_perm [1, 2, 0, 3] rfl (ih _ _ h)
def wp_J7_fill_53178 (S : St) (a2 : Int32) (k1 n1 : Nat) (post : St → Prop) : Prop :=
  ∀ x1 : Int32, x1 = (Int32.ofNat n1) → ∃ fu4, wL_J7_fill_53178_5 k1 n1 a2 x1 (fun (z3 : Int32) (S2 : St) => post S2) fu4 (0 : Int32) S
set_option maxHeartbeats 4000000 in
set_option maxRecDepth 100000 in
theorem c_J7_fill_53178 {l : Launch} {D : va_G} {cA : Nat → ClassId} {ad : Nat → Nat} {L : List Lay} (S : St) (a2 : Int32) (k1 n1 : Nat) (hk1 : L[k1]? = some (.inl (0, n1, 0))) {post : St → Prop} (h : wp_J7_fill_53178 S a2 k1 n1 post) : MetV l yJ7_fill_53178 cJ7_fill_53178 4 none rJ7_fill_53178 D cA ad L [.ref (ad k1), .int a2] S post 0 0 := by
  refine MetV.of (by decide) (Nat.le_of_ble_eq_true rfl) ?_
  intro p e s m args below meth c C
  unfold wp_J7_fill_53178 at h
  show Go p l e rJ7_fill_53178 s m args below meth c D cA ad L 4 0 0 _ S 0 [(0, .ref (ad k1)), (1, .int a2)] []
  replace C : Cx p s m args meth c cJ7_fill_53178 4 none RJ7 D cA ad L := C
  refine go_iconst C 0 1 (0) dJ7_fill_53178_0 (by decide) rfl ?_
  refine go_istore_n C 1 2 2 [(2, .int _), (0, .ref _), (1, .int _)] dJ7_fill_53178_1 rfl (by decide) rfl rfl ?_
  refine go_aload_n C 2 3 0 1 dJ7_fill_53178_2 rfl rfl rfl ?_
  refine go_alen C 3 4 k1 hk1 rfl (fun _ => rfl) dJ7_fill_53178_3 rfl ?_
  refine go_topi (fun x1 hx1 => ?_)
  replace h := h x1 hx1
  refine go_istore_n C 4 5 3 [(3, .int _), (2, .int _), (0, .ref _), (1, .int _)] dJ7_fill_53178_4 rfl (by decide) rfl rfl ?_
  obtain ⟨fu4, h⟩ := h
  refine go_perm [2, 3, 1, 0] rfl (L_J7_fill_53178_5 C k1 n1 hk1 _ _ (fun z3 S2 h => ?_) _ _ _ h)
  exact go_vret C 20 rfl dJ7_fill_53178_20 h
-- BillHouse.isIn(II)Z
theorem qX5_isIn : (parseMethodDescriptor yX5_isIn.desc).map (fun d => d.parameters.length) = some 2 := by decide +kernel
theorem mhX5_isIn : yX5_isIn.cls ≠ "java/lang/invoke/MethodHandle" ∧ yX5_isIn.cls ≠ "java/lang/invoke/VarHandle" := by decide +kernel
def rX5_isIn : Room := { frames := 0, cells := 0, slots := 0, locals := 0 }
def wp_X5_isIn (S : St) (a1 : Int32) (a2 : Int32) (post : Int32 → St → Prop) : Prop :=
  (((a1 >>> (a2 &&& 31)) &&& (1 : Int32)) = 0 → post (0 : Int32) S) ∧ (¬ (((a1 >>> (a2 &&& 31)) &&& (1 : Int32)) = 0) → post (1 : Int32) S)
set_option maxHeartbeats 4000000 in
set_option maxRecDepth 100000 in
theorem c_X5_isIn {l : Launch} {D : va_G} {cA : Nat → ClassId} {ad : Nat → Nat} {ex : List Lay} (S : St) (a1 : Int32) (a2 : Int32)  {post : Int32 → St → Prop} (h : wp_X5_isIn S a1 a2 post) : MetI l yX5_isIn cX5_isIn 2 (some .boolean) rX5_isIn D cA ad (LU ++ ex) [.int a1, .int a2] S post 0 0 := by
  refine MetI.of (by decide) (Nat.le_of_ble_eq_true rfl) ?_
  intro p e s m args below meth c C
  unfold wp_X5_isIn at h
  show Go p l e rX5_isIn s m args below meth c D cA ad (LU ++ ex) 2 0 0 _ S 0 [(0, .int a1), (1, .int a2)] []
  replace C : Cx p s m args meth c cX5_isIn 2 (some .boolean) RX5 D cA ad (LU ++ ex) := C
  refine go_iload_n C 0 1 0 0 dX5_isIn_0 rfl rfl rfl ?_
  refine go_iload_n C 1 2 1 1 dX5_isIn_1 rfl rfl rfl ?_
  refine go_ishr C 2 3 dX5_isIn_2 rfl ?_
  refine go_iconst C 3 4 (1) dX5_isIn_3 (by decide) rfl ?_
  refine go_iand C 4 5 dX5_isIn_4 rfl ?_
  refine go_if_eq C 5 8 12 dX5_isIn_5 (by decide) rfl (fun hc => ?_) (fun hc => ?_)
  · have h := h.1 hc
    refine go_iconst C 12 13 (0) dX5_isIn_12 (by decide) rfl ?_
    exact go_zret C 13 (by decide) rfl dX5_isIn_13 h
  · have h := h.2 hc
    refine go_iconst C 8 9 (1) dX5_isIn_8 (by decide) rfl ?_
    refine go_goto C 9 13 dX5_isIn_9 (by decide) ?_
    exact go_zret C 13 (by decide) rfl dX5_isIn_13 h
-- BillHouse$Works.has(I)Z
theorem qX4_has : (parseMethodDescriptor yX4_has.desc).map (fun d => d.parameters.length) = some 1 := by decide +kernel
theorem mhX4_has : yX4_has.cls ≠ "java/lang/invoke/MethodHandle" ∧ yX4_has.cls ≠ "java/lang/invoke/VarHandle" := by decide +kernel
def rX4_has : Room := { frames := 0, cells := 0, slots := 0, locals := 0 }
def wp_X4_has (S : St) (a1 : Int32) (post : Int32 → St → Prop) : Prop :=
  (a1 < 0 → post (0 : Int32) S) ∧ (¬ (a1 < 0) → ((S.1 1 0) ≤ a1 → post (0 : Int32) S) ∧ (¬ ((S.1 1 0) ≤ a1) → post (1 : Int32) S))
set_option maxHeartbeats 4000000 in
set_option maxRecDepth 100000 in
theorem c_X4_has {l : Launch} {D : va_G} {cA : Nat → ClassId} {ad : Nat → Nat} {ex : List Lay} (S : St) (a1 : Int32)  {post : Int32 → St → Prop} (h : wp_X4_has S a1 post) : MetI l yX4_has cX4_has 2 (some .boolean) rX4_has D cA ad (LU ++ ex) [.ref (ad 1), .int a1] S post 0 0 := by
  refine MetI.of (by decide) (Nat.le_of_ble_eq_true rfl) ?_
  intro p e s m args below meth c C
  unfold wp_X4_has at h
  show Go p l e rX4_has s m args below meth c D cA ad (LU ++ ex) 2 0 0 _ S 0 [(0, .ref (ad 1)), (1, .int a1)] []
  replace C : Cx p s m args meth c cX4_has 2 (some .boolean) RX4 D cA ad (LU ++ ex) := C
  refine go_iload_n C 0 1 1 1 dX4_has_0 rfl rfl rfl ?_
  refine go_if_lt C 1 4 16 dX4_has_1 (by decide) rfl (fun hc => ?_) (fun hc => ?_)
  · have h := h.1 hc
    refine go_iconst C 16 17 (0) dX4_has_16 (by decide) rfl ?_
    exact go_zret C 17 (by decide) rfl dX4_has_17 h
  · have h := h.2 hc
    refine go_iload_n C 4 5 1 1 dX4_has_4 rfl rfl rfl ?_
    refine go_aload_n C 5 6 0 0 dX4_has_5 rfl rfl rfl ?_
    refine go_getI C 6 9 iw4 1 (lu1 ex) rfl 0 (by decide) k80_ rfl rfl dX4_has_6 rfl ?_
    refine go_icmp_ge C 9 12 16 dX4_has_9 (by decide) rfl (fun hc => ?_) (fun hc => ?_)
    · have h := h.1 hc
      refine go_iconst C 16 17 (0) dX4_has_16 (by decide) rfl ?_
      exact go_zret C 17 (by decide) rfl dX4_has_17 h
    · have h := h.2 hc
      refine go_iconst C 12 13 (1) dX4_has_12 (by decide) rfl ?_
      refine go_goto C 13 17 dX4_has_13 (by decide) ?_
      exact go_zret C 17 (by decide) rfl dX4_has_17 h
-- BillHouse$Works.putCosts(III)V
theorem qX4_putCosts : (parseMethodDescriptor yX4_putCosts.desc).map (fun d => d.parameters.length) = some 3 := by decide +kernel
theorem mhX4_putCosts : yX4_putCosts.cls ≠ "java/lang/invoke/MethodHandle" ∧ yX4_putCosts.cls ≠ "java/lang/invoke/VarHandle" := by decide +kernel
def rX4_putCosts : Room := { frames := 1, cells := 0, slots := 0, locals := 23 }
def wp_X4_putCosts (S : St) (a1 : Int32) (a2 : Int32) (a3 : Int32) (post : St → Prop) : Prop :=
  (vp_in a1 6) ∧ (∀ S2 : St, S2 = uI S 8 a1.toNatClampNeg a2 → (vp_in a1 6) ∧ (∀ S4 : St, S4 = uI S2 9 a1.toNatClampNeg a3 → wp_J7_fill_53178 S4 (-1 : Int32) 13 256 (fun (S5 : St) => post S5)))
set_option maxHeartbeats 4000000 in
set_option maxRecDepth 100000 in
theorem c_X4_putCosts {l : Launch} {D : va_G} {cA : Nat → ClassId} {ad : Nat → Nat} {ex : List Lay} (S : St) (a1 : Int32) (a2 : Int32) (a3 : Int32)  {post : St → Prop} (h : wp_X4_putCosts S a1 a2 a3 post) : MetV l yX4_putCosts cX4_putCosts 4 none rX4_putCosts D cA ad (LU ++ ex) [.ref (ad 1), .int a1, .int a2, .int a3] S post 0 0 := by
  refine MetV.of (by decide) (Nat.le_of_ble_eq_true rfl) ?_
  intro p e s m args below meth c C
  unfold wp_X4_putCosts at h
  show Go p l e rX4_putCosts s m args below meth c D cA ad (LU ++ ex) 4 0 0 _ S 0 [(0, .ref (ad 1)), (1, .int a1), (2, .int a2), (3, .int a3)] []
  replace C : Cx p s m args meth c cX4_putCosts 4 none RX4 D cA ad (LU ++ ex) := C
  refine go_aload_n C 0 1 0 0 dX4_putCosts_0 rfl rfl rfl ?_
  refine go_getR C 1 4 iw4 1 (lu1 ex) rfl 1 (by decide) k81_ rfl rfl dX4_putCosts_1 rfl ?_
  refine go_iload_n C 4 5 1 1 dX4_putCosts_4 rfl rfl rfl ?_
  refine go_iload_n C 5 6 2 2 dX4_putCosts_5 rfl rfl rfl ?_
  obtain ⟨hi1, h⟩ := h
  refine go_iast C 6 7 8 (lu8 ex) hi1 dX4_putCosts_6 rfl ?_
  refine go_nm (fun S2 hS2 => ?_)
  replace h := h S2 hS2
  refine go_aload_n C 7 8 0 0 dX4_putCosts_7 rfl rfl rfl ?_
  refine go_getR C 8 11 iw4 1 (lu1 ex) rfl 2 (by decide) k82_ rfl rfl dX4_putCosts_8 rfl ?_
  refine go_iload_n C 11 12 1 1 dX4_putCosts_11 rfl rfl rfl ?_
  refine go_iload_n C 12 13 3 3 dX4_putCosts_12 rfl rfl rfl ?_
  obtain ⟨hi3, h⟩ := h
  refine go_iast C 13 14 9 (lu9 ex) hi3 dX4_putCosts_13 rfl ?_
  refine go_nm (fun S4 hS4 => ?_)
  replace h := h S4 hS4
  refine go_aload_n C 14 15 0 0 dX4_putCosts_14 rfl rfl rfl ?_
  refine go_getR C 15 18 iw4 1 (lu1 ex) rfl 6 (by decide) k88_ rfl rfl dX4_putCosts_15 rfl ?_
  refine go_iconst C 18 19 (-1) dX4_putCosts_18 (by decide) rfl ?_
  refine go_sv C 19 22 0 0 [.ref (ad 13), .int (-1 : Int32)] (c_J7_fill_53178 _ _ 13 256 (lu13 ex) h) k76_ k78_ k52_ k77_ qJ7_fill_53178 mhJ7_fill_53178 (by decide) (by decide) rfl rfl rfl rfl (Nat.le_of_ble_eq_true rfl) rfl rfl dX4_putCosts_19 (fun S5 h => ?_)
  exact go_vret C 22 rfl dX4_putCosts_22 h
-- BillHouse$Works.add(II)I
theorem qX4_add : (parseMethodDescriptor yX4_add.desc).map (fun d => d.parameters.length) = some 2 := by decide +kernel
theorem mhX4_add : yX4_add.cls ≠ "java/lang/invoke/MethodHandle" ∧ yX4_add.cls ≠ "java/lang/invoke/VarHandle" := by decide +kernel
def rX4_add : Room := { frames := 2, cells := 0, slots := 0, locals := 46 }
def wp_X4_add (S : St) (a1 : Int32) (a2 : Int32) (post : Int32 → St → Prop) : Prop :=
  ∀ x1 : Int32, x1 = (S.1 1 0) → ∀ S2 : St, S2 = uI S 1 0 ((S.1 1 0) + (1 : Int32)) → wp_X4_putCosts S2 x1 a1 a2 (fun (S3 : St) => post x1 S3)
set_option maxHeartbeats 4000000 in
set_option maxRecDepth 100000 in
theorem c_X4_add {l : Launch} {D : va_G} {cA : Nat → ClassId} {ad : Nat → Nat} {ex : List Lay} (S : St) (a1 : Int32) (a2 : Int32)  {post : Int32 → St → Prop} (h : wp_X4_add S a1 a2 post) : MetI l yX4_add cX4_add 4 (some .int) rX4_add D cA ad (LU ++ ex) [.ref (ad 1), .int a1, .int a2] S post 0 0 := by
  refine MetI.of (by decide) (Nat.le_of_ble_eq_true rfl) ?_
  intro p e s m args below meth c C
  unfold wp_X4_add at h
  show Go p l e rX4_add s m args below meth c D cA ad (LU ++ ex) 4 0 0 _ S 0 [(0, .ref (ad 1)), (1, .int a1), (2, .int a2)] []
  replace C : Cx p s m args meth c cX4_add 4 (some .int) RX4 D cA ad (LU ++ ex) := C
  refine go_aload_n C 0 1 0 0 dX4_add_0 rfl rfl rfl ?_
  refine go_getI C 1 4 iw4 1 (lu1 ex) rfl 0 (by decide) k80_ rfl rfl dX4_add_1 rfl ?_
  refine go_topi (fun x1 hx1 => ?_)
  replace h := h x1 hx1
  refine go_istore_n C 4 5 3 [(3, .int _), (0, .ref _), (1, .int _), (2, .int _)] dX4_add_4 rfl (by decide) rfl rfl ?_
  refine go_aload_n C 5 6 0 1 dX4_add_5 rfl rfl rfl ?_
  refine go_dup C 6 7 rfl dX4_add_6 rfl ?_
  refine go_getI C 7 10 iw4 1 (lu1 ex) rfl 0 (by decide) k80_ rfl rfl dX4_add_7 rfl ?_
  refine go_iconst C 10 11 (1) dX4_add_10 (by decide) rfl ?_
  refine go_iadd C 11 12 dX4_add_11 rfl ?_
  refine go_putI C 12 15 iw4 1 (lu1 ex) rfl 0 (by decide) tyX4 tyX4_ok nmX4 k80_ rfl rfl rfl (by decide +kernel) dX4_add_12 rfl ?_
  refine go_nm (fun S2 hS2 => ?_)
  replace h := h S2 hS2
  refine go_aload_n C 15 16 0 1 dX4_add_15 rfl rfl rfl ?_
  refine go_iload_n C 16 17 3 0 dX4_add_16 rfl rfl rfl ?_
  refine go_iload_n C 17 18 1 2 dX4_add_17 rfl rfl rfl ?_
  refine go_iload_n C 18 19 2 3 dX4_add_18 rfl rfl rfl ?_
  refine go_vv C 19 22 0 0 [.int x1, .int a1, .int a2] 1 (lu1 ex) rfl (c_X4_putCosts _ _ _ _  h) k235_ k238_ k51_ k237_ k1_ qX4_putCosts mhX4_putCosts (by decide) (by decide) rfl rfl rfl rfl (Nat.le_of_ble_eq_true rfl) rfl rfl dX4_add_19 (fun S3 h => ?_)
  refine go_iload_n C 22 23 3 0 dX4_add_22 rfl rfl rfl ?_
  exact go_iret C 23 rfl dX4_add_23 h
-- BillHouse$Works.usedBy(I[[I)I
theorem qX4_usedBy : (parseMethodDescriptor yX4_usedBy.desc).map (fun d => d.parameters.length) = some 2 := by decide +kernel
theorem mhX4_usedBy : yX4_usedBy.cls ≠ "java/lang/invoke/MethodHandle" ∧ yX4_usedBy.cls ≠ "java/lang/invoke/VarHandle" := by decide +kernel
def rX4_usedBy : Room := { frames := 0, cells := 0, slots := 0, locals := 0 }
def wB_X4_usedBy_5 (k2 b2 n2 : Nat) (p1 : Int32) (k rec : Int32 → Int32 → St → Prop) (v3 : Int32) (v4 : Int32) (S : St) : Prop :=
  ((S.1 1 0) ≤ v4 → k v3 v4 S) ∧ (¬ ((S.1 1 0) ≤ v4) → (vp_in v4 6) ∧ ((vp_in p1 n2) ∧ (((S.1 (b2 + v4.toNatClampNeg) p1.toNatClampNeg) ≤ 0 → rec v3 (v4 + 1) S) ∧ (¬ ((S.1 (b2 + v4.toNatClampNeg) p1.toNatClampNeg) ≤ 0) → ∀ x3 : Int32, x3 = (v3 ||| ((1 : Int32) <<< (v4 &&& 31))) → rec x3 (v4 + 1) S))))
def wL_X4_usedBy_5 (k2 b2 n2 : Nat) (p1 : Int32) (k : Int32 → Int32 → St → Prop) : Nat → Int32 → Int32 → St → Prop
  | 0, _, _, _ => False
  | n + 1, v3, v4, S => wB_X4_usedBy_5 k2 b2 n2 p1 k (wL_X4_usedBy_5 k2 b2 n2 p1 k n) v3 v4 S
set_option maxHeartbeats 4000000 in
set_option maxRecDepth 100000 in
theorem L_X4_usedBy_5 {p : Program} {l : Launch} {e : Env} {s : State} {m : MethodId} {args : Array Value} {below : List Frame} {meth : Method} {c : Code} {D : va_G} {cA : Nat → ClassId} {ad : Nat → Nat} {ex : List Lay} {Q : State → Prop} (C : Cx p s m args meth c cX4_usedBy 5 (some .int) RX4 D cA ad (LU ++ ex)) (k2 b2 n2 : Nat) (hk2 : (LU ++ ex)[k2]? = some (.inl (3, 6, b2))) (hr2 : ∀ i, i < 6 → (LU ++ ex)[b2 + i]? = some (.inl (0, n2, 0))) (p1 : Int32) {k : Int32 → Int32 → St → Prop} (hk : ∀ (v3 : Int32) (v4 : Int32) (S : St), k v3 v4 S → Go p l e rX4_usedBy s m args below meth c D cA ad (LU ++ ex) 5 0 0 Q S 36 [(3, .int v3)] []) : ∀ (n : Nat) (v3 : Int32) (v4 : Int32) (S : St), wL_X4_usedBy_5 k2 b2 n2 p1 k n v3 v4 S → Go p l e rX4_usedBy s m args below meth c D cA ad (LU ++ ex) 5 0 0 Q S 5 [(0, .ref (ad 1)), (1, .int p1), (2, .ref (ad k2)), (3, .int v3), (4, .int v4)] [] := by
  intro n
  induction n with
  | zero => intro v3 v4 S h; exact h.elim
  | succ n ih =>
    intro v3 v4 S h
    replace h : wB_X4_usedBy_5 k2 b2 n2 p1 k (wL_X4_usedBy_5 k2 b2 n2 p1 k n) v3 v4 S := h
    unfold wB_X4_usedBy_5 at h
    refine go_iload C 5 7 4 4 dX4_usedBy_5 rfl rfl ?_
    refine go_aload_n C 7 8 0 0 dX4_usedBy_7 rfl rfl rfl ?_
    refine go_getI C 8 11 iw4 1 (lu1 ex) rfl 0 (by decide) k80_ rfl rfl dX4_usedBy_8 rfl ?_
    refine go_icmp_ge C 11 14 36 dX4_usedBy_11 (by decide) rfl (fun hc => ?_) (fun hc => ?_)
    · have h := h.1 hc
      exact go_perm [3] rfl (hk _ _ _ h)
    · have h := h.2 hc
      refine go_aload_n C 14 15 2 2 dX4_usedBy_14 rfl rfl rfl ?_
      refine go_iload C 15 17 4 4 dX4_usedBy_15 rfl rfl ?_
      obtain ⟨hi1, h⟩ := h
      refine go_aald3 C 17 18 k2 hk2 hi1 dX4_usedBy_17 rfl ?_
      refine go_iload_n C 18 19 1 1 dX4_usedBy_18 rfl rfl rfl ?_
      obtain ⟨hi2, h⟩ := h
      refine go_iald C 19 20 (b2 + v4.toNatClampNeg) (hr2 _ (vi_lt hi1)) hi2 dX4_usedBy_19 rfl ?_
      refine go_if_le C 20 23 30 dX4_usedBy_20 (by decide) rfl (fun hc => ?_) (fun hc => ?_)
      · have h := h.1 hc
        refine go_iinc C 30 33 4 4 (v4 + 1) [(4, .int _), (0, .ref _), (1, .int _), (2, .ref _), (3, .int _)] dX4_usedBy_30 rfl rfl (by decide) rfl rfl ?_
        refine go_goto C 33 5 dX4_usedBy_33 (by decide) ?_
        exact go_perm [1, 2, 3, 4, 0] rfl (ih _ _ _ h)
      · have h := h.2 hc
        refine go_iload_n C 23 24 3 3 dX4_usedBy_23 rfl rfl rfl ?_
        refine go_iconst C 24 25 (1) dX4_usedBy_24 (by decide) rfl ?_
        refine go_iload C 25 27 4 4 dX4_usedBy_25 rfl rfl ?_
        refine go_ishl C 27 28 dX4_usedBy_27 rfl ?_
        refine go_ior C 28 29 dX4_usedBy_28 rfl ?_
        refine go_topi (fun x3 hx3 => ?_)
        replace h := h x3 hx3
        refine go_istore_n C 29 30 3 [(3, .int _), (0, .ref _), (1, .int _), (2, .ref _), (4, .int _)] dX4_usedBy_29 rfl (by decide) rfl rfl ?_
        refine go_iinc C 30 33 4 4 (v4 + 1) [(4, .int _), (3, .int _), (0, .ref _), (1, .int _), (2, .ref _)] dX4_usedBy_30 rfl rfl (by decide) rfl rfl ?_
        refine go_goto C 33 5 dX4_usedBy_33 (by decide) ?_
        exact go_perm [2, 3, 4, 1, 0] rfl (ih _ _ _ h)
def wp_X4_usedBy (S : St) (a1 : Int32) (k2 b2 n2 : Nat) (post : Int32 → St → Prop) : Prop :=
  ∃ fu4, wL_X4_usedBy_5 k2 b2 n2 a1 (fun (z2 : Int32) (z3 : Int32) (S1 : St) => post z2 S1) fu4 (0 : Int32) (0 : Int32) S
set_option maxHeartbeats 4000000 in
set_option maxRecDepth 100000 in
theorem c_X4_usedBy {l : Launch} {D : va_G} {cA : Nat → ClassId} {ad : Nat → Nat} {ex : List Lay} (S : St) (a1 : Int32) (k2 b2 n2 : Nat) (hk2 : (LU ++ ex)[k2]? = some (.inl (3, 6, b2))) (hr2 : ∀ i, i < 6 → (LU ++ ex)[b2 + i]? = some (.inl (0, n2, 0))) {post : Int32 → St → Prop} (h : wp_X4_usedBy S a1 k2 b2 n2 post) : MetI l yX4_usedBy cX4_usedBy 5 (some .int) rX4_usedBy D cA ad (LU ++ ex) [.ref (ad 1), .int a1, .ref (ad k2)] S post 0 0 := by
  refine MetI.of (by decide) (Nat.le_of_ble_eq_true rfl) ?_
  intro p e s m args below meth c C
  unfold wp_X4_usedBy at h
  show Go p l e rX4_usedBy s m args below meth c D cA ad (LU ++ ex) 5 0 0 _ S 0 [(0, .ref (ad 1)), (1, .int a1), (2, .ref (ad k2))] []
  replace C : Cx p s m args meth c cX4_usedBy 5 (some .int) RX4 D cA ad (LU ++ ex) := C
  refine go_iconst C 0 1 (0) dX4_usedBy_0 (by decide) rfl ?_
  refine go_istore_n C 1 2 3 [(3, .int _), (0, .ref _), (1, .int _), (2, .ref _)] dX4_usedBy_1 rfl (by decide) rfl rfl ?_
  refine go_iconst C 2 3 (0) dX4_usedBy_2 (by decide) rfl ?_
  refine go_istore C 3 5 4 [(4, .int _), (3, .int _), (0, .ref _), (1, .int _), (2, .ref _)] dX4_usedBy_3 (by decide) rfl rfl ?_
  obtain ⟨fu4, h⟩ := h
  refine go_perm [2, 3, 4, 1, 0] rfl (L_X4_usedBy_5 C k2 b2 n2 hk2 hr2 _ (fun z2 z3 S1 h => ?_) _ _ _ _ h)
  refine go_iload_n C 36 37 3 0 dX4_usedBy_36 rfl rfl rfl ?_
  exact go_iret C 37 rfl dX4_usedBy_37 h
-- BillHouse$Works.withAllTheyUse(I)I
theorem qX4_withAllTheyUse : (parseMethodDescriptor yX4_withAllTheyUse.desc).map (fun d => d.parameters.length) = some 1 := by decide +kernel
theorem mhX4_withAllTheyUse : yX4_withAllTheyUse.cls ≠ "java/lang/invoke/MethodHandle" ∧ yX4_withAllTheyUse.cls ≠ "java/lang/invoke/VarHandle" := by decide +kernel
def rX4_withAllTheyUse : Room := { frames := 1, cells := 0, slots := 0, locals := 24 }
def wB_X4_withAllTheyUse_15 (p3 : Int32) (k rec : Int32 → Int32 → St → Prop) (v2 : Int32) (v4 : Int32) (S : St) : Prop :=
  ((S.1 1 0) ≤ v4 → k v2 v4 S) ∧ (¬ ((S.1 1 0) ≤ v4) → wp_X5_isIn S v2 v4 (fun (r2 : Int32) (S1 : St) => (r2 = 0 → rec v2 (v4 + 1) S1) ∧ (¬ (r2 = 0) → wp_X4_usedBy S1 v4 11 49 6 (fun (r4 : Int32) (S3 : St) => ∀ x5 : Int32, x5 = (v2 ||| r4) → rec x5 (v4 + 1) S3))))
def wL_X4_withAllTheyUse_15 (p3 : Int32) (k : Int32 → Int32 → St → Prop) : Nat → Int32 → Int32 → St → Prop
  | 0, _, _, _ => False
  | n + 1, v2, v4, S => wB_X4_withAllTheyUse_15 p3 k (wL_X4_withAllTheyUse_15 p3 k n) v2 v4 S
set_option maxHeartbeats 4000000 in
set_option maxRecDepth 100000 in
theorem L_X4_withAllTheyUse_15 {p : Program} {l : Launch} {e : Env} {s : State} {m : MethodId} {args : Array Value} {below : List Frame} {meth : Method} {c : Code} {D : va_G} {cA : Nat → ClassId} {ad : Nat → Nat} {ex : List Lay} {Q : State → Prop} (C : Cx p s m args meth c cX4_withAllTheyUse 5 (some .int) RX4 D cA ad (LU ++ ex))   (p3 : Int32) {k : Int32 → Int32 → St → Prop} (hk : ∀ (v2 : Int32) (v4 : Int32) (S : St), k v2 v4 S → Go p l e rX4_withAllTheyUse s m args below meth c D cA ad (LU ++ ex) 5 0 0 Q S 52 [(0, .ref (ad 1)), (2, .int v2), (3, .int p3)] []) : ∀ (n : Nat) (v2 : Int32) (v4 : Int32) (S : St), wL_X4_withAllTheyUse_15 p3 k n v2 v4 S → Go p l e rX4_withAllTheyUse s m args below meth c D cA ad (LU ++ ex) 5 0 0 Q S 15 [(0, .ref (ad 1)), (2, .int v2), (3, .int p3), (4, .int v4)] [] := by
  intro n
  induction n with
  | zero => intro v2 v4 S h; exact h.elim
  | succ n ih =>
    intro v2 v4 S h
    replace h : wB_X4_withAllTheyUse_15 p3 k (wL_X4_withAllTheyUse_15 p3 k n) v2 v4 S := h
    unfold wB_X4_withAllTheyUse_15 at h
    refine go_iload C 15 17 4 3 dX4_withAllTheyUse_15 rfl rfl ?_
    refine go_aload_n C 17 18 0 0 dX4_withAllTheyUse_17 rfl rfl rfl ?_
    refine go_getI C 18 21 iw4 1 (lu1 ex) rfl 0 (by decide) k80_ rfl rfl dX4_withAllTheyUse_18 rfl ?_
    refine go_icmp_ge C 21 24 52 dX4_withAllTheyUse_21 (by decide) rfl (fun hc => ?_) (fun hc => ?_)
    · have h := h.1 hc
      exact go_perm [0, 1, 2] rfl (hk _ _ _ h)
    · have h := h.2 hc
      refine go_iload_n C 24 25 2 1 dX4_withAllTheyUse_24 rfl rfl rfl ?_
      refine go_iload C 25 27 4 3 dX4_withAllTheyUse_25 rfl rfl ?_
      refine go_siN C 27 30 0 0 [.int v2, .int v4] (c_X5_isIn _ _ _  h) n287_ k289_ k50_ k288_ qX5_isIn mhX5_isIn (by decide) (by decide) rfl rfl rfl rfl (Nat.le_of_ble_eq_true rfl) rfl rfl dX4_withAllTheyUse_27 (fun r2 S1 h => ?_)
      refine go_if_eq C 30 33 46 dX4_withAllTheyUse_30 (by decide) rfl (fun hc => ?_) (fun hc => ?_)
      · have h := h.1 hc
        refine go_iinc C 46 49 4 3 (v4 + 1) [(4, .int _), (0, .ref _), (2, .int _), (3, .int _)] dX4_withAllTheyUse_46 rfl rfl (by decide) rfl rfl ?_
        refine go_goto C 49 15 dX4_withAllTheyUse_49 (by decide) ?_
        exact go_perm [1, 2, 3, 0] rfl (ih _ _ _ h)
      · have h := h.2 hc
        refine go_iload_n C 33 34 2 1 dX4_withAllTheyUse_33 rfl rfl rfl ?_
        refine go_aload_n C 34 35 0 0 dX4_withAllTheyUse_34 rfl rfl rfl ?_
        refine go_iload C 35 37 4 3 dX4_withAllTheyUse_35 rfl rfl ?_
        refine go_aload_n C 37 38 0 0 dX4_withAllTheyUse_37 rfl rfl rfl ?_
        refine go_getR C 38 41 iw4 1 (lu1 ex) rfl 4 (by decide) k85_ rfl rfl dX4_withAllTheyUse_38 rfl ?_
        refine go_vi C 41 44 0 0 [.int v4, .ref (ad 11)] 1 (lu1 ex) rfl (c_X4_usedBy _ _ 11 49 6 (lu11 ex) (fun _ h => lg49 ex h) h) k279_ k282_ k51_ k281_ k8_ qX4_usedBy mhX4_usedBy (by decide) (by decide) rfl rfl rfl rfl (Nat.le_of_ble_eq_true rfl) rfl rfl dX4_withAllTheyUse_41 (fun r4 S3 h => ?_)
        refine go_ior C 44 45 dX4_withAllTheyUse_44 rfl ?_
        refine go_topi (fun x5 hx5 => ?_)
        replace h := h x5 hx5
        refine go_istore_n C 45 46 2 [(2, .int _), (0, .ref _), (3, .int _), (4, .int _)] dX4_withAllTheyUse_45 rfl (by decide) rfl rfl ?_
        refine go_iinc C 46 49 4 3 (v4 + 1) [(4, .int _), (2, .int _), (0, .ref _), (3, .int _)] dX4_withAllTheyUse_46 rfl rfl (by decide) rfl rfl ?_
        refine go_goto C 49 15 dX4_withAllTheyUse_49 (by decide) ?_
        exact go_perm [2, 1, 3, 0] rfl (ih _ _ _ h)
def wB_X4_withAllTheyUse_4 (k rec : Int32 → Int32 → St → Prop) (v2 : Int32) (v3 : Int32) (S : St) : Prop :=
  ((S.1 1 0) ≤ v3 → k v2 v3 S) ∧ (¬ ((S.1 1 0) ≤ v3) → ∃ fu4, wL_X4_withAllTheyUse_15 v3 (fun (z2 : Int32) (z3 : Int32) (S1 : St) => rec z2 (v3 + 1) S1) fu4 v2 (0 : Int32) S)
def wL_X4_withAllTheyUse_4 (k : Int32 → Int32 → St → Prop) : Nat → Int32 → Int32 → St → Prop
  | 0, _, _, _ => False
  | n + 1, v2, v3, S => wB_X4_withAllTheyUse_4 k (wL_X4_withAllTheyUse_4 k n) v2 v3 S
set_option maxHeartbeats 4000000 in
set_option maxRecDepth 100000 in
theorem L_X4_withAllTheyUse_4 {p : Program} {l : Launch} {e : Env} {s : State} {m : MethodId} {args : Array Value} {below : List Frame} {meth : Method} {c : Code} {D : va_G} {cA : Nat → ClassId} {ad : Nat → Nat} {ex : List Lay} {Q : State → Prop} (C : Cx p s m args meth c cX4_withAllTheyUse 5 (some .int) RX4 D cA ad (LU ++ ex))   {k : Int32 → Int32 → St → Prop} (hk : ∀ (v2 : Int32) (v3 : Int32) (S : St), k v2 v3 S → Go p l e rX4_withAllTheyUse s m args below meth c D cA ad (LU ++ ex) 5 0 0 Q S 58 [(2, .int v2)] []) : ∀ (n : Nat) (v2 : Int32) (v3 : Int32) (S : St), wL_X4_withAllTheyUse_4 k n v2 v3 S → Go p l e rX4_withAllTheyUse s m args below meth c D cA ad (LU ++ ex) 5 0 0 Q S 4 [(0, .ref (ad 1)), (2, .int v2), (3, .int v3)] [] := by
  intro n
  induction n with
  | zero => intro v2 v3 S h; exact h.elim
  | succ n ih =>
    intro v2 v3 S h
    replace h : wB_X4_withAllTheyUse_4 k (wL_X4_withAllTheyUse_4 k n) v2 v3 S := h
    unfold wB_X4_withAllTheyUse_4 at h
    refine go_iload_n C 4 5 3 2 dX4_withAllTheyUse_4 rfl rfl rfl ?_
    refine go_aload_n C 5 6 0 0 dX4_withAllTheyUse_5 rfl rfl rfl ?_
    refine go_getI C 6 9 iw4 1 (lu1 ex) rfl 0 (by decide) k80_ rfl rfl dX4_withAllTheyUse_6 rfl ?_
    refine go_icmp_ge C 9 12 58 dX4_withAllTheyUse_9 (by decide) rfl (fun hc => ?_) (fun hc => ?_)
    · have h := h.1 hc
      exact go_perm [1] rfl (hk _ _ _ h)
    · have h := h.2 hc
      refine go_iconst C 12 13 (0) dX4_withAllTheyUse_12 (by decide) rfl ?_
      refine go_istore C 13 15 4 [(4, .int _), (0, .ref _), (2, .int _), (3, .int _)] dX4_withAllTheyUse_13 (by decide) rfl rfl ?_
      obtain ⟨fu4, h⟩ := h
      refine go_perm [1, 2, 3, 0] rfl (L_X4_withAllTheyUse_15 C   _ (fun z2 z3 S1 h => ?_) _ _ _ _ h)
      refine go_iinc C 52 55 3 2 (v3 + 1) [(3, .int _), (0, .ref _), (2, .int _)] dX4_withAllTheyUse_52 rfl rfl (by decide) rfl rfl ?_
      refine go_goto C 55 4 dX4_withAllTheyUse_55 (by decide) ?_
      exact go_perm [1, 2, 0] rfl (ih _ _ _ h)
def wp_X4_withAllTheyUse (S : St) (a1 : Int32) (post : Int32 → St → Prop) : Prop :=
  ∃ fu4, wL_X4_withAllTheyUse_4 (fun (z2 : Int32) (z3 : Int32) (S1 : St) => post z2 S1) fu4 a1 (1 : Int32) S
set_option maxHeartbeats 4000000 in
set_option maxRecDepth 100000 in
theorem c_X4_withAllTheyUse {l : Launch} {D : va_G} {cA : Nat → ClassId} {ad : Nat → Nat} {ex : List Lay} (S : St) (a1 : Int32)  {post : Int32 → St → Prop} (h : wp_X4_withAllTheyUse S a1 post) : MetI l yX4_withAllTheyUse cX4_withAllTheyUse 5 (some .int) rX4_withAllTheyUse D cA ad (LU ++ ex) [.ref (ad 1), .int a1] S post 0 0 := by
  refine MetI.of (by decide) (Nat.le_of_ble_eq_true rfl) ?_
  intro p e s m args below meth c C
  unfold wp_X4_withAllTheyUse at h
  show Go p l e rX4_withAllTheyUse s m args below meth c D cA ad (LU ++ ex) 5 0 0 _ S 0 [(0, .ref (ad 1)), (1, .int a1)] []
  replace C : Cx p s m args meth c cX4_withAllTheyUse 5 (some .int) RX4 D cA ad (LU ++ ex) := C
  refine go_iload_n C 0 1 1 1 dX4_withAllTheyUse_0 rfl rfl rfl ?_
  refine go_istore_n C 1 2 2 [(2, .int _), (0, .ref _), (1, .int _)] dX4_withAllTheyUse_1 rfl (by decide) rfl rfl ?_
  refine go_iconst C 2 3 (1) dX4_withAllTheyUse_2 (by decide) rfl ?_
  refine go_istore_n C 3 4 3 [(3, .int _), (2, .int _), (0, .ref _), (1, .int _)] dX4_withAllTheyUse_3 rfl (by decide) rfl rfl ?_
  obtain ⟨fu4, h⟩ := h
  refine go_perm [2, 1, 0] rfl (L_X4_withAllTheyUse_4 C   (fun z2 z3 S1 h => ?_) _ _ _ _ h)
  refine go_iload_n C 58 59 2 0 dX4_withAllTheyUse_58 rfl rfl rfl ?_
  exact go_iret C 59 rfl dX4_withAllTheyUse_59 h
-- BillHouse$Works.learnNeeds()V
theorem qX4_learnNeeds : (parseMethodDescriptor yX4_learnNeeds.desc).map (fun d => d.parameters.length) = some 0 := by decide +kernel
theorem mhX4_learnNeeds : yX4_learnNeeds.cls ≠ "java/lang/invoke/MethodHandle" ∧ yX4_learnNeeds.cls ≠ "java/lang/invoke/VarHandle" := by decide +kernel
def rX4_learnNeeds : Room := { frames := 2, cells := 0, slots := 0, locals := 48 }
def wB_X4_learnNeeds_2 (k rec : Int32 → St → Prop) (v1 : Int32) (S : St) : Prop :=
  ((8 : Int32) ≤ v1 → k v1 S) ∧ (¬ ((8 : Int32) ≤ v1) → wp_X4_usedBy S v1 10 43 8 (fun (r2 : Int32) (S1 : St) => wp_X4_withAllTheyUse S1 r2 (fun (r4 : Int32) (S3 : St) => (vp_in v1 8) ∧ (∀ S6 : St, S6 = uI S3 12 v1.toNatClampNeg r4 → rec (v1 + 1) S6))))
def wL_X4_learnNeeds_2 (k : Int32 → St → Prop) : Nat → Int32 → St → Prop
  | 0, _, _ => False
  | n + 1, v1, S => wB_X4_learnNeeds_2 k (wL_X4_learnNeeds_2 k n) v1 S
set_option maxHeartbeats 4000000 in
set_option maxRecDepth 100000 in
theorem L_X4_learnNeeds_2 {p : Program} {l : Launch} {e : Env} {s : State} {m : MethodId} {args : Array Value} {below : List Frame} {meth : Method} {c : Code} {D : va_G} {cA : Nat → ClassId} {ad : Nat → Nat} {ex : List Lay} {Q : State → Prop} (C : Cx p s m args meth c cX4_learnNeeds 2 none RX4 D cA ad (LU ++ ex))   {k : Int32 → St → Prop} (hk : ∀ (v1 : Int32) (S : St), k v1 S → Go p l e rX4_learnNeeds s m args below meth c D cA ad (LU ++ ex) 2 0 0 Q S 33 [(0, .ref (ad 1))] []) : ∀ (n : Nat) (v1 : Int32) (S : St), wL_X4_learnNeeds_2 k n v1 S → Go p l e rX4_learnNeeds s m args below meth c D cA ad (LU ++ ex) 2 0 0 Q S 2 [(0, .ref (ad 1)), (1, .int v1)] [] := by
  intro n
  induction n with
  | zero => intro v1 S h; exact h.elim
  | succ n ih =>
    intro v1 S h
    replace h : wB_X4_learnNeeds_2 k (wL_X4_learnNeeds_2 k n) v1 S := h
    unfold wB_X4_learnNeeds_2 at h
    refine go_iload_n C 2 3 1 1 dX4_learnNeeds_2 rfl rfl rfl ?_
    refine go_bipush C 3 5 (8) dX4_learnNeeds_3 (by decide) rfl ?_
    refine go_icmp_ge C 5 8 33 dX4_learnNeeds_5 (by decide) rfl (fun hc => ?_) (fun hc => ?_)
    · have h := h.1 hc
      exact go_perm [0] rfl (hk _ _ h)
    · have h := h.2 hc
      refine go_aload_n C 8 9 0 0 dX4_learnNeeds_8 rfl rfl rfl ?_
      refine go_getR C 9 12 iw4 1 (lu1 ex) rfl 5 (by decide) k87_ rfl rfl dX4_learnNeeds_9 rfl ?_
      refine go_iload_n C 12 13 1 1 dX4_learnNeeds_12 rfl rfl rfl ?_
      refine go_aload_n C 13 14 0 0 dX4_learnNeeds_13 rfl rfl rfl ?_
      refine go_aload_n C 14 15 0 0 dX4_learnNeeds_14 rfl rfl rfl ?_
      refine go_iload_n C 15 16 1 1 dX4_learnNeeds_15 rfl rfl rfl ?_
      refine go_aload_n C 16 17 0 0 dX4_learnNeeds_16 rfl rfl rfl ?_
      refine go_getR C 17 20 iw4 1 (lu1 ex) rfl 3 (by decide) k83_ rfl rfl dX4_learnNeeds_17 rfl ?_
      refine go_vi C 20 23 0 0 [.int v1, .ref (ad 10)] 1 (lu1 ex) rfl (c_X4_usedBy _ _ 10 43 8 (lu10 ex) (fun _ h => lg43 ex h) h) k279_ k282_ k51_ k281_ k8_ qX4_usedBy mhX4_usedBy (by decide) (by decide) rfl rfl rfl rfl (Nat.le_of_ble_eq_true rfl) rfl rfl dX4_learnNeeds_20 (fun r2 S1 h => ?_)
      refine go_vi C 23 26 0 0 [.int r2] 1 (lu1 ex) rfl (c_X4_withAllTheyUse _ _  h) k283_ k286_ k51_ k285_ k9_ qX4_withAllTheyUse mhX4_withAllTheyUse (by decide) (by decide) rfl rfl rfl rfl (Nat.le_of_ble_eq_true rfl) rfl rfl dX4_learnNeeds_23 (fun r4 S3 h => ?_)
      obtain ⟨hi5, h⟩ := h
      refine go_iast C 26 27 12 (lu12 ex) hi5 dX4_learnNeeds_26 rfl ?_
      refine go_nm (fun S6 hS6 => ?_)
      replace h := h S6 hS6
      refine go_iinc C 27 30 1 1 (v1 + 1) [(1, .int _), (0, .ref _)] dX4_learnNeeds_27 rfl rfl (by decide) rfl rfl ?_
      refine go_goto C 30 2 dX4_learnNeeds_30 (by decide) ?_
      exact go_perm [1, 0] rfl (ih _ _ h)
def wp_X4_learnNeeds (S : St) (post : St → Prop) : Prop :=
  ∃ fu5, wL_X4_learnNeeds_2 (fun (z2 : Int32) (S1 : St) => wp_J7_fill_53178 S1 (-1 : Int32) 13 256 (fun (S3 : St) => post S3)) fu5 (0 : Int32) S
set_option maxHeartbeats 4000000 in
set_option maxRecDepth 100000 in
theorem c_X4_learnNeeds {l : Launch} {D : va_G} {cA : Nat → ClassId} {ad : Nat → Nat} {ex : List Lay} (S : St)  {post : St → Prop} (h : wp_X4_learnNeeds S post) : MetV l yX4_learnNeeds cX4_learnNeeds 2 none rX4_learnNeeds D cA ad (LU ++ ex) [.ref (ad 1)] S post 0 0 := by
  refine MetV.of (by decide) (Nat.le_of_ble_eq_true rfl) ?_
  intro p e s m args below meth c C
  unfold wp_X4_learnNeeds at h
  show Go p l e rX4_learnNeeds s m args below meth c D cA ad (LU ++ ex) 2 0 0 _ S 0 [(0, .ref (ad 1))] []
  replace C : Cx p s m args meth c cX4_learnNeeds 2 none RX4 D cA ad (LU ++ ex) := C
  refine go_iconst C 0 1 (0) dX4_learnNeeds_0 (by decide) rfl ?_
  refine go_istore_n C 1 2 1 [(1, .int _), (0, .ref _)] dX4_learnNeeds_1 rfl (by decide) rfl rfl ?_
  obtain ⟨fu5, h⟩ := h
  refine go_perm [1, 0] rfl (L_X4_learnNeeds_2 C   (fun z2 S1 h => ?_) _ _ _ h)
  refine go_aload_n C 33 34 0 0 dX4_learnNeeds_33 rfl rfl rfl ?_
  refine go_getR C 34 37 iw4 1 (lu1 ex) rfl 6 (by decide) k88_ rfl rfl dX4_learnNeeds_34 rfl ?_
  refine go_iconst C 37 38 (-1) dX4_learnNeeds_37 (by decide) rfl ?_
  refine go_sv C 38 41 0 0 [.ref (ad 13), .int (-1 : Int32)] (c_J7_fill_53178 _ _ 13 256 (lu13 ex) h) k76_ k78_ k52_ k77_ qJ7_fill_53178 mhJ7_fill_53178 (by decide) (by decide) rfl rfl rfl rfl (Nat.le_of_ble_eq_true rfl) rfl rfl dX4_learnNeeds_38 (fun S3 h => ?_)
  exact go_vret C 41 rfl dX4_learnNeeds_41 h
-- BillHouse$Works.putUnitsByUser(III)V
theorem qX4_putUnitsByUser : (parseMethodDescriptor yX4_putUnitsByUser.desc).map (fun d => d.parameters.length) = some 3 := by decide +kernel
theorem mhX4_putUnitsByUser : yX4_putUnitsByUser.cls ≠ "java/lang/invoke/MethodHandle" ∧ yX4_putUnitsByUser.cls ≠ "java/lang/invoke/VarHandle" := by decide +kernel
def rX4_putUnitsByUser : Room := { frames := 3, cells := 0, slots := 0, locals := 69 }
def wp_X4_putUnitsByUser (S : St) (a1 : Int32) (a2 : Int32) (a3 : Int32) (post : St → Prop) : Prop :=
  (vp_in a1 6) ∧ ((vp_in a2 8) ∧ (∀ S3 : St, S3 = uI S (43 + a1.toNatClampNeg) a2.toNatClampNeg a3 → wp_X4_learnNeeds S3 (fun (S4 : St) => post S4)))
set_option maxHeartbeats 4000000 in
set_option maxRecDepth 100000 in
theorem c_X4_putUnitsByUser {l : Launch} {D : va_G} {cA : Nat → ClassId} {ad : Nat → Nat} {ex : List Lay} (S : St) (a1 : Int32) (a2 : Int32) (a3 : Int32)  {post : St → Prop} (h : wp_X4_putUnitsByUser S a1 a2 a3 post) : MetV l yX4_putUnitsByUser cX4_putUnitsByUser 4 none rX4_putUnitsByUser D cA ad (LU ++ ex) [.ref (ad 1), .int a1, .int a2, .int a3] S post 0 0 := by
  refine MetV.of (by decide) (Nat.le_of_ble_eq_true rfl) ?_
  intro p e s m args below meth c C
  unfold wp_X4_putUnitsByUser at h
  show Go p l e rX4_putUnitsByUser s m args below meth c D cA ad (LU ++ ex) 4 0 0 _ S 0 [(0, .ref (ad 1)), (1, .int a1), (2, .int a2), (3, .int a3)] []
  replace C : Cx p s m args meth c cX4_putUnitsByUser 4 none RX4 D cA ad (LU ++ ex) := C
  refine go_aload_n C 0 1 0 0 dX4_putUnitsByUser_0 rfl rfl rfl ?_
  refine go_getR C 1 4 iw4 1 (lu1 ex) rfl 3 (by decide) k83_ rfl rfl dX4_putUnitsByUser_1 rfl ?_
  refine go_iload_n C 4 5 1 1 dX4_putUnitsByUser_4 rfl rfl rfl ?_
  obtain ⟨hi1, h⟩ := h
  refine go_aald3 C 5 6 10 (lu10 ex) hi1 dX4_putUnitsByUser_5 rfl ?_
  refine go_iload_n C 6 7 2 2 dX4_putUnitsByUser_6 rfl rfl rfl ?_
  refine go_iload_n C 7 8 3 3 dX4_putUnitsByUser_7 rfl rfl rfl ?_
  obtain ⟨hi2, h⟩ := h
  refine go_iast C 8 9 (43 + a1.toNatClampNeg) (lg43 ex (vi_lt hi1)) hi2 dX4_putUnitsByUser_8 rfl ?_
  refine go_nm (fun S3 hS3 => ?_)
  replace h := h S3 hS3
  refine go_aload_n C 9 10 0 0 dX4_putUnitsByUser_9 rfl rfl rfl ?_
  refine go_vv C 10 13 0 0 [] 1 (lu1 ex) rfl (c_X4_learnNeeds _  h) k275_ k278_ k51_ k277_ k7_ qX4_learnNeeds mhX4_learnNeeds (by decide) (by decide) rfl rfl rfl rfl (Nat.le_of_ble_eq_true rfl) rfl rfl dX4_putUnitsByUser_10 (fun S4 h => ?_)
  exact go_vret C 13 rfl dX4_putUnitsByUser_13 h
-- BillHouse$Works.putUnitsByWork(III)V
theorem qX4_putUnitsByWork : (parseMethodDescriptor yX4_putUnitsByWork.desc).map (fun d => d.parameters.length) = some 3 := by decide +kernel
theorem mhX4_putUnitsByWork : yX4_putUnitsByWork.cls ≠ "java/lang/invoke/MethodHandle" ∧ yX4_putUnitsByWork.cls ≠ "java/lang/invoke/VarHandle" := by decide +kernel
def rX4_putUnitsByWork : Room := { frames := 3, cells := 0, slots := 0, locals := 69 }
def wp_X4_putUnitsByWork (S : St) (a1 : Int32) (a2 : Int32) (a3 : Int32) (post : St → Prop) : Prop :=
  (vp_in a1 6) ∧ ((vp_in a2 6) ∧ (∀ S3 : St, S3 = uI S (49 + a1.toNatClampNeg) a2.toNatClampNeg a3 → wp_X4_learnNeeds S3 (fun (S4 : St) => post S4)))
set_option maxHeartbeats 4000000 in
set_option maxRecDepth 100000 in
theorem c_X4_putUnitsByWork {l : Launch} {D : va_G} {cA : Nat → ClassId} {ad : Nat → Nat} {ex : List Lay} (S : St) (a1 : Int32) (a2 : Int32) (a3 : Int32)  {post : St → Prop} (h : wp_X4_putUnitsByWork S a1 a2 a3 post) : MetV l yX4_putUnitsByWork cX4_putUnitsByWork 4 none rX4_putUnitsByWork D cA ad (LU ++ ex) [.ref (ad 1), .int a1, .int a2, .int a3] S post 0 0 := by
  refine MetV.of (by decide) (Nat.le_of_ble_eq_true rfl) ?_
  intro p e s m args below meth c C
  unfold wp_X4_putUnitsByWork at h
  show Go p l e rX4_putUnitsByWork s m args below meth c D cA ad (LU ++ ex) 4 0 0 _ S 0 [(0, .ref (ad 1)), (1, .int a1), (2, .int a2), (3, .int a3)] []
  replace C : Cx p s m args meth c cX4_putUnitsByWork 4 none RX4 D cA ad (LU ++ ex) := C
  refine go_aload_n C 0 1 0 0 dX4_putUnitsByWork_0 rfl rfl rfl ?_
  refine go_getR C 1 4 iw4 1 (lu1 ex) rfl 4 (by decide) k85_ rfl rfl dX4_putUnitsByWork_1 rfl ?_
  refine go_iload_n C 4 5 1 1 dX4_putUnitsByWork_4 rfl rfl rfl ?_
  obtain ⟨hi1, h⟩ := h
  refine go_aald3 C 5 6 11 (lu11 ex) hi1 dX4_putUnitsByWork_5 rfl ?_
  refine go_iload_n C 6 7 2 2 dX4_putUnitsByWork_6 rfl rfl rfl ?_
  refine go_iload_n C 7 8 3 3 dX4_putUnitsByWork_7 rfl rfl rfl ?_
  obtain ⟨hi2, h⟩ := h
  refine go_iast C 8 9 (49 + a1.toNatClampNeg) (lg49 ex (vi_lt hi1)) hi2 dX4_putUnitsByWork_8 rfl ?_
  refine go_nm (fun S3 hS3 => ?_)
  replace h := h S3 hS3
  refine go_aload_n C 9 10 0 0 dX4_putUnitsByWork_9 rfl rfl rfl ?_
  refine go_vv C 10 13 0 0 [] 1 (lu1 ex) rfl (c_X4_learnNeeds _  h) k275_ k278_ k51_ k277_ k7_ qX4_learnNeeds mhX4_learnNeeds (by decide) (by decide) rfl rfl rfl rfl (Nat.le_of_ble_eq_true rfl) rfl rfl dX4_putUnitsByWork_10 (fun S4 h => ?_)
  exact go_vret C 13 rfl dX4_putUnitsByWork_13 h
-- BillHouse$Works.neededBy(I)I
theorem qX4_neededBy : (parseMethodDescriptor yX4_neededBy.desc).map (fun d => d.parameters.length) = some 1 := by decide +kernel
theorem mhX4_neededBy : yX4_neededBy.cls ≠ "java/lang/invoke/MethodHandle" ∧ yX4_neededBy.cls ≠ "java/lang/invoke/VarHandle" := by decide +kernel
def rX4_neededBy : Room := { frames := 1, cells := 0, slots := 0, locals := 21 }
def wB_X4_neededBy_4 (p1 : Int32) (k rec : Int32 → Int32 → St → Prop) (v2 : Int32) (v3 : Int32) (S : St) : Prop :=
  ((8 : Int32) ≤ v3 → k v2 v3 S) ∧ (¬ ((8 : Int32) ≤ v3) → wp_X5_isIn S p1 v3 (fun (r2 : Int32) (S1 : St) => (r2 = 0 → rec v2 (v3 + 1) S1) ∧ (¬ (r2 = 0) → (vp_in v3 8) ∧ (∀ x4 : Int32, x4 = (v2 ||| (S1.1 12 v3.toNatClampNeg)) → rec x4 (v3 + 1) S1))))
def wL_X4_neededBy_4 (p1 : Int32) (k : Int32 → Int32 → St → Prop) : Nat → Int32 → Int32 → St → Prop
  | 0, _, _, _ => False
  | n + 1, v2, v3, S => wB_X4_neededBy_4 p1 k (wL_X4_neededBy_4 p1 k n) v2 v3 S
set_option maxHeartbeats 4000000 in
set_option maxRecDepth 100000 in
theorem L_X4_neededBy_4 {p : Program} {l : Launch} {e : Env} {s : State} {m : MethodId} {args : Array Value} {below : List Frame} {meth : Method} {c : Code} {D : va_G} {cA : Nat → ClassId} {ad : Nat → Nat} {ex : List Lay} {Q : State → Prop} (C : Cx p s m args meth c cX4_neededBy 4 (some .int) RX4 D cA ad (LU ++ ex))   (p1 : Int32) {k : Int32 → Int32 → St → Prop} (hk : ∀ (v2 : Int32) (v3 : Int32) (S : St), k v2 v3 S → Go p l e rX4_neededBy s m args below meth c D cA ad (LU ++ ex) 4 0 0 Q S 33 [(2, .int v2)] []) : ∀ (n : Nat) (v2 : Int32) (v3 : Int32) (S : St), wL_X4_neededBy_4 p1 k n v2 v3 S → Go p l e rX4_neededBy s m args below meth c D cA ad (LU ++ ex) 4 0 0 Q S 4 [(0, .ref (ad 1)), (1, .int p1), (2, .int v2), (3, .int v3)] [] := by
  intro n
  induction n with
  | zero => intro v2 v3 S h; exact h.elim
  | succ n ih =>
    intro v2 v3 S h
    replace h : wB_X4_neededBy_4 p1 k (wL_X4_neededBy_4 p1 k n) v2 v3 S := h
    unfold wB_X4_neededBy_4 at h
    refine go_iload_n C 4 5 3 3 dX4_neededBy_4 rfl rfl rfl ?_
    refine go_bipush C 5 7 (8) dX4_neededBy_5 (by decide) rfl ?_
    refine go_icmp_ge C 7 10 33 dX4_neededBy_7 (by decide) rfl (fun hc => ?_) (fun hc => ?_)
    · have h := h.1 hc
      exact go_perm [2] rfl (hk _ _ _ h)
    · have h := h.2 hc
      refine go_iload_n C 10 11 1 1 dX4_neededBy_10 rfl rfl rfl ?_
      refine go_iload_n C 11 12 3 3 dX4_neededBy_11 rfl rfl rfl ?_
      refine go_siN C 12 15 0 0 [.int p1, .int v3] (c_X5_isIn _ _ _  h) n287_ k289_ k50_ k288_ qX5_isIn mhX5_isIn (by decide) (by decide) rfl rfl rfl rfl (Nat.le_of_ble_eq_true rfl) rfl rfl dX4_neededBy_12 (fun r2 S1 h => ?_)
      refine go_if_eq C 15 18 27 dX4_neededBy_15 (by decide) rfl (fun hc => ?_) (fun hc => ?_)
      · have h := h.1 hc
        refine go_iinc C 27 30 3 3 (v3 + 1) [(3, .int _), (0, .ref _), (1, .int _), (2, .int _)] dX4_neededBy_27 rfl rfl (by decide) rfl rfl ?_
        refine go_goto C 30 4 dX4_neededBy_30 (by decide) ?_
        exact go_perm [1, 2, 3, 0] rfl (ih _ _ _ h)
      · have h := h.2 hc
        refine go_iload_n C 18 19 2 2 dX4_neededBy_18 rfl rfl rfl ?_
        refine go_aload_n C 19 20 0 0 dX4_neededBy_19 rfl rfl rfl ?_
        refine go_getR C 20 23 iw4 1 (lu1 ex) rfl 5 (by decide) k87_ rfl rfl dX4_neededBy_20 rfl ?_
        refine go_iload_n C 23 24 3 3 dX4_neededBy_23 rfl rfl rfl ?_
        obtain ⟨hi3, h⟩ := h
        refine go_iald C 24 25 12 (lu12 ex) hi3 dX4_neededBy_24 rfl ?_
        refine go_ior C 25 26 dX4_neededBy_25 rfl ?_
        refine go_topi (fun x4 hx4 => ?_)
        replace h := h x4 hx4
        refine go_istore_n C 26 27 2 [(2, .int _), (0, .ref _), (1, .int _), (3, .int _)] dX4_neededBy_26 rfl (by decide) rfl rfl ?_
        refine go_iinc C 27 30 3 3 (v3 + 1) [(3, .int _), (2, .int _), (0, .ref _), (1, .int _)] dX4_neededBy_27 rfl rfl (by decide) rfl rfl ?_
        refine go_goto C 30 4 dX4_neededBy_30 (by decide) ?_
        exact go_perm [2, 3, 1, 0] rfl (ih _ _ _ h)
def wp_X4_neededBy (S : St) (a1 : Int32) (post : Int32 → St → Prop) : Prop :=
  ∃ fu4, wL_X4_neededBy_4 a1 (fun (z2 : Int32) (z3 : Int32) (S1 : St) => post z2 S1) fu4 (0 : Int32) (0 : Int32) S
set_option maxHeartbeats 4000000 in
set_option maxRecDepth 100000 in
theorem c_X4_neededBy {l : Launch} {D : va_G} {cA : Nat → ClassId} {ad : Nat → Nat} {ex : List Lay} (S : St) (a1 : Int32)  {post : Int32 → St → Prop} (h : wp_X4_neededBy S a1 post) : MetI l yX4_neededBy cX4_neededBy 4 (some .int) rX4_neededBy D cA ad (LU ++ ex) [.ref (ad 1), .int a1] S post 0 0 := by
  refine MetI.of (by decide) (Nat.le_of_ble_eq_true rfl) ?_
  intro p e s m args below meth c C
  unfold wp_X4_neededBy at h
  show Go p l e rX4_neededBy s m args below meth c D cA ad (LU ++ ex) 4 0 0 _ S 0 [(0, .ref (ad 1)), (1, .int a1)] []
  replace C : Cx p s m args meth c cX4_neededBy 4 (some .int) RX4 D cA ad (LU ++ ex) := C
  refine go_iconst C 0 1 (0) dX4_neededBy_0 (by decide) rfl ?_
  refine go_istore_n C 1 2 2 [(2, .int _), (0, .ref _), (1, .int _)] dX4_neededBy_1 rfl (by decide) rfl rfl ?_
  refine go_iconst C 2 3 (0) dX4_neededBy_2 (by decide) rfl ?_
  refine go_istore_n C 3 4 3 [(3, .int _), (2, .int _), (0, .ref _), (1, .int _)] dX4_neededBy_3 rfl (by decide) rfl rfl ?_
  obtain ⟨fu4, h⟩ := h
  refine go_perm [2, 3, 1, 0] rfl (L_X4_neededBy_4 C   _ (fun z2 z3 S1 h => ?_) _ _ _ _ h)
  refine go_iload_n C 33 34 2 0 dX4_neededBy_33 rfl rfl rfl ?_
  exact go_iret C 34 rfl dX4_neededBy_34 h
-- BillHouse$Works.onRings()I
theorem qX4_onRings : (parseMethodDescriptor yX4_onRings.desc).map (fun d => d.parameters.length) = some 0 := by decide +kernel
theorem mhX4_onRings : yX4_onRings.cls ≠ "java/lang/invoke/MethodHandle" ∧ yX4_onRings.cls ≠ "java/lang/invoke/VarHandle" := by decide +kernel
def rX4_onRings : Room := { frames := 2, cells := 0, slots := 0, locals := 48 }
def wB_X4_onRings_4 (k rec : Int32 → Int32 → St → Prop) (v1 : Int32) (v2 : Int32) (S : St) : Prop :=
  ((S.1 1 0) ≤ v2 → k v1 v2 S) ∧ (¬ ((S.1 1 0) ≤ v2) → wp_X4_usedBy S v2 11 49 6 (fun (r2 : Int32) (S1 : St) => wp_X4_withAllTheyUse S1 r2 (fun (r4 : Int32) (S3 : St) => wp_X5_isIn S3 r4 v2 (fun (r6 : Int32) (S5 : St) => (r6 = 0 → rec v1 (v2 + 1) S5) ∧ (¬ (r6 = 0) → ∀ x7 : Int32, x7 = (v1 ||| ((1 : Int32) <<< (v2 &&& 31))) → rec x7 (v2 + 1) S5)))))
def wL_X4_onRings_4 (k : Int32 → Int32 → St → Prop) : Nat → Int32 → Int32 → St → Prop
  | 0, _, _, _ => False
  | n + 1, v1, v2, S => wB_X4_onRings_4 k (wL_X4_onRings_4 k n) v1 v2 S
set_option maxHeartbeats 4000000 in
set_option maxRecDepth 100000 in
theorem L_X4_onRings_4 {p : Program} {l : Launch} {e : Env} {s : State} {m : MethodId} {args : Array Value} {below : List Frame} {meth : Method} {c : Code} {D : va_G} {cA : Nat → ClassId} {ad : Nat → Nat} {ex : List Lay} {Q : State → Prop} (C : Cx p s m args meth c cX4_onRings 3 (some .int) RX4 D cA ad (LU ++ ex))   {k : Int32 → Int32 → St → Prop} (hk : ∀ (v1 : Int32) (v2 : Int32) (S : St), k v1 v2 S → Go p l e rX4_onRings s m args below meth c D cA ad (LU ++ ex) 3 0 0 Q S 44 [(1, .int v1)] []) : ∀ (n : Nat) (v1 : Int32) (v2 : Int32) (S : St), wL_X4_onRings_4 k n v1 v2 S → Go p l e rX4_onRings s m args below meth c D cA ad (LU ++ ex) 3 0 0 Q S 4 [(0, .ref (ad 1)), (1, .int v1), (2, .int v2)] [] := by
  intro n
  induction n with
  | zero => intro v1 v2 S h; exact h.elim
  | succ n ih =>
    intro v1 v2 S h
    replace h : wB_X4_onRings_4 k (wL_X4_onRings_4 k n) v1 v2 S := h
    unfold wB_X4_onRings_4 at h
    refine go_iload_n C 4 5 2 2 dX4_onRings_4 rfl rfl rfl ?_
    refine go_aload_n C 5 6 0 0 dX4_onRings_5 rfl rfl rfl ?_
    refine go_getI C 6 9 iw4 1 (lu1 ex) rfl 0 (by decide) k80_ rfl rfl dX4_onRings_6 rfl ?_
    refine go_icmp_ge C 9 12 44 dX4_onRings_9 (by decide) rfl (fun hc => ?_) (fun hc => ?_)
    · have h := h.1 hc
      exact go_perm [1] rfl (hk _ _ _ h)
    · have h := h.2 hc
      refine go_aload_n C 12 13 0 0 dX4_onRings_12 rfl rfl rfl ?_
      refine go_aload_n C 13 14 0 0 dX4_onRings_13 rfl rfl rfl ?_
      refine go_iload_n C 14 15 2 2 dX4_onRings_14 rfl rfl rfl ?_
      refine go_aload_n C 15 16 0 0 dX4_onRings_15 rfl rfl rfl ?_
      refine go_getR C 16 19 iw4 1 (lu1 ex) rfl 4 (by decide) k85_ rfl rfl dX4_onRings_16 rfl ?_
      refine go_vi C 19 22 0 0 [.int v2, .ref (ad 11)] 1 (lu1 ex) rfl (c_X4_usedBy _ _ 11 49 6 (lu11 ex) (fun _ h => lg49 ex h) h) k279_ k282_ k51_ k281_ k8_ qX4_usedBy mhX4_usedBy (by decide) (by decide) rfl rfl rfl rfl (Nat.le_of_ble_eq_true rfl) rfl rfl dX4_onRings_19 (fun r2 S1 h => ?_)
      refine go_vi C 22 25 0 0 [.int r2] 1 (lu1 ex) rfl (c_X4_withAllTheyUse _ _  h) k283_ k286_ k51_ k285_ k9_ qX4_withAllTheyUse mhX4_withAllTheyUse (by decide) (by decide) rfl rfl rfl rfl (Nat.le_of_ble_eq_true rfl) rfl rfl dX4_onRings_22 (fun r4 S3 h => ?_)
      refine go_iload_n C 25 26 2 2 dX4_onRings_25 rfl rfl rfl ?_
      refine go_siN C 26 29 0 0 [.int r4, .int v2] (c_X5_isIn _ _ _  h) n287_ k289_ k50_ k288_ qX5_isIn mhX5_isIn (by decide) (by decide) rfl rfl rfl rfl (Nat.le_of_ble_eq_true rfl) rfl rfl dX4_onRings_26 (fun r6 S5 h => ?_)
      refine go_if_eq C 29 32 38 dX4_onRings_29 (by decide) rfl (fun hc => ?_) (fun hc => ?_)
      · have h := h.1 hc
        refine go_iinc C 38 41 2 2 (v2 + 1) [(2, .int _), (0, .ref _), (1, .int _)] dX4_onRings_38 rfl rfl (by decide) rfl rfl ?_
        refine go_goto C 41 4 dX4_onRings_41 (by decide) ?_
        exact go_perm [1, 2, 0] rfl (ih _ _ _ h)
      · have h := h.2 hc
        refine go_iload_n C 32 33 1 1 dX4_onRings_32 rfl rfl rfl ?_
        refine go_iconst C 33 34 (1) dX4_onRings_33 (by decide) rfl ?_
        refine go_iload_n C 34 35 2 2 dX4_onRings_34 rfl rfl rfl ?_
        refine go_ishl C 35 36 dX4_onRings_35 rfl ?_
        refine go_ior C 36 37 dX4_onRings_36 rfl ?_
        refine go_topi (fun x7 hx7 => ?_)
        replace h := h x7 hx7
        refine go_istore_n C 37 38 1 [(1, .int _), (0, .ref _), (2, .int _)] dX4_onRings_37 rfl (by decide) rfl rfl ?_
        refine go_iinc C 38 41 2 2 (v2 + 1) [(2, .int _), (1, .int _), (0, .ref _)] dX4_onRings_38 rfl rfl (by decide) rfl rfl ?_
        refine go_goto C 41 4 dX4_onRings_41 (by decide) ?_
        exact go_perm [2, 1, 0] rfl (ih _ _ _ h)
def wp_X4_onRings (S : St) (post : Int32 → St → Prop) : Prop :=
  ∃ fu4, wL_X4_onRings_4 (fun (z2 : Int32) (z3 : Int32) (S1 : St) => post z2 S1) fu4 (0 : Int32) (0 : Int32) S
set_option maxHeartbeats 4000000 in
set_option maxRecDepth 100000 in
theorem c_X4_onRings {l : Launch} {D : va_G} {cA : Nat → ClassId} {ad : Nat → Nat} {ex : List Lay} (S : St)  {post : Int32 → St → Prop} (h : wp_X4_onRings S post) : MetI l yX4_onRings cX4_onRings 3 (some .int) rX4_onRings D cA ad (LU ++ ex) [.ref (ad 1)] S post 0 0 := by
  refine MetI.of (by decide) (Nat.le_of_ble_eq_true rfl) ?_
  intro p e s m args below meth c C
  unfold wp_X4_onRings at h
  show Go p l e rX4_onRings s m args below meth c D cA ad (LU ++ ex) 3 0 0 _ S 0 [(0, .ref (ad 1))] []
  replace C : Cx p s m args meth c cX4_onRings 3 (some .int) RX4 D cA ad (LU ++ ex) := C
  refine go_iconst C 0 1 (0) dX4_onRings_0 (by decide) rfl ?_
  refine go_istore_n C 1 2 1 [(1, .int _), (0, .ref _)] dX4_onRings_1 rfl (by decide) rfl rfl ?_
  refine go_iconst C 2 3 (0) dX4_onRings_2 (by decide) rfl ?_
  refine go_istore_n C 3 4 2 [(2, .int _), (1, .int _), (0, .ref _)] dX4_onRings_3 rfl (by decide) rfl rfl ?_
  obtain ⟨fu4, h⟩ := h
  refine go_perm [2, 1, 0] rfl (L_X4_onRings_4 C   (fun z2 z3 S1 h => ?_) _ _ _ _ h)
  refine go_iload_n C 44 45 1 0 dX4_onRings_44 rfl rfl rfl ?_
  exact go_iret C 45 rfl dX4_onRings_45 h
-- BillHouse$Works.unitsOf(III)I
theorem qX4_unitsOf : (parseMethodDescriptor yX4_unitsOf.desc).map (fun d => d.parameters.length) = some 3 := by decide +kernel
theorem mhX4_unitsOf : yX4_unitsOf.cls ≠ "java/lang/invoke/MethodHandle" ∧ yX4_unitsOf.cls ≠ "java/lang/invoke/VarHandle" := by decide +kernel
def rX4_unitsOf : Room := { frames := 1, cells := 0, slots := 0, locals := 21 }
def wB_X4_unitsOf_6 (p1 : Int32) (p2 : Int32) (p3 : Int32) (k rec : Int32 → Int32 → St → Prop) (v4 : Int32) (v5 : Int32) (S : St) : Prop :=
  ((8 : Int32) ≤ v5 → k v4 v5 S) ∧ (¬ ((8 : Int32) ≤ v5) → wp_X5_isIn S p2 v5 (fun (r2 : Int32) (S1 : St) => (r2 = 0 → rec v4 (v5 + 1) S1) ∧ (¬ (r2 = 0) → (vp_in p1 6) ∧ ((vp_in v5 8) ∧ (∀ x5 : Int32, x5 = (v4 + (S1.1 (43 + p1.toNatClampNeg) v5.toNatClampNeg)) → rec x5 (v5 + 1) S1)))))
def wL_X4_unitsOf_6 (p1 : Int32) (p2 : Int32) (p3 : Int32) (k : Int32 → Int32 → St → Prop) : Nat → Int32 → Int32 → St → Prop
  | 0, _, _, _ => False
  | n + 1, v4, v5, S => wB_X4_unitsOf_6 p1 p2 p3 k (wL_X4_unitsOf_6 p1 p2 p3 k n) v4 v5 S
set_option maxHeartbeats 4000000 in
set_option maxRecDepth 100000 in
theorem L_X4_unitsOf_6 {p : Program} {l : Launch} {e : Env} {s : State} {m : MethodId} {args : Array Value} {below : List Frame} {meth : Method} {c : Code} {D : va_G} {cA : Nat → ClassId} {ad : Nat → Nat} {ex : List Lay} {Q : State → Prop} (C : Cx p s m args meth c cX4_unitsOf 6 (some .int) RX4 D cA ad (LU ++ ex))   (p1 : Int32) (p2 : Int32) (p3 : Int32) {k : Int32 → Int32 → St → Prop} (hk : ∀ (v4 : Int32) (v5 : Int32) (S : St), k v4 v5 S → Go p l e rX4_unitsOf s m args below meth c D cA ad (LU ++ ex) 6 0 0 Q S 42 [(0, .ref (ad 1)), (1, .int p1), (3, .int p3), (4, .int v4)] []) : ∀ (n : Nat) (v4 : Int32) (v5 : Int32) (S : St), wL_X4_unitsOf_6 p1 p2 p3 k n v4 v5 S → Go p l e rX4_unitsOf s m args below meth c D cA ad (LU ++ ex) 6 0 0 Q S 6 [(0, .ref (ad 1)), (1, .int p1), (2, .int p2), (3, .int p3), (4, .int v4), (5, .int v5)] [] := by
  intro n
  induction n with
  | zero => intro v4 v5 S h; exact h.elim
  | succ n ih =>
    intro v4 v5 S h
    replace h : wB_X4_unitsOf_6 p1 p2 p3 k (wL_X4_unitsOf_6 p1 p2 p3 k n) v4 v5 S := h
    unfold wB_X4_unitsOf_6 at h
    refine go_iload C 6 8 5 5 dX4_unitsOf_6 rfl rfl ?_
    refine go_bipush C 8 10 (8) dX4_unitsOf_8 (by decide) rfl ?_
    refine go_icmp_ge C 10 13 42 dX4_unitsOf_10 (by decide) rfl (fun hc => ?_) (fun hc => ?_)
    · have h := h.1 hc
      exact go_perm [0, 1, 3, 4] rfl (hk _ _ _ h)
    · have h := h.2 hc
      refine go_iload_n C 13 14 2 2 dX4_unitsOf_13 rfl rfl rfl ?_
      refine go_iload C 14 16 5 5 dX4_unitsOf_14 rfl rfl ?_
      refine go_siN C 16 19 0 0 [.int p2, .int v5] (c_X5_isIn _ _ _  h) n287_ k289_ k50_ k288_ qX5_isIn mhX5_isIn (by decide) (by decide) rfl rfl rfl rfl (Nat.le_of_ble_eq_true rfl) rfl rfl dX4_unitsOf_16 (fun r2 S1 h => ?_)
      refine go_if_eq C 19 22 36 dX4_unitsOf_19 (by decide) rfl (fun hc => ?_) (fun hc => ?_)
      · have h := h.1 hc
        refine go_iinc C 36 39 5 5 (v5 + 1) [(5, .int _), (0, .ref _), (1, .int _), (2, .int _), (3, .int _), (4, .int _)] dX4_unitsOf_36 rfl rfl (by decide) rfl rfl ?_
        refine go_goto C 39 6 dX4_unitsOf_39 (by decide) ?_
        exact go_perm [1, 2, 3, 4, 5, 0] rfl (ih _ _ _ h)
      · have h := h.2 hc
        refine go_iload C 22 24 4 4 dX4_unitsOf_22 rfl rfl ?_
        refine go_aload_n C 24 25 0 0 dX4_unitsOf_24 rfl rfl rfl ?_
        refine go_getR C 25 28 iw4 1 (lu1 ex) rfl 3 (by decide) k83_ rfl rfl dX4_unitsOf_25 rfl ?_
        refine go_iload_n C 28 29 1 1 dX4_unitsOf_28 rfl rfl rfl ?_
        obtain ⟨hi3, h⟩ := h
        refine go_aald3 C 29 30 10 (lu10 ex) hi3 dX4_unitsOf_29 rfl ?_
        refine go_iload C 30 32 5 5 dX4_unitsOf_30 rfl rfl ?_
        obtain ⟨hi4, h⟩ := h
        refine go_iald C 32 33 (43 + p1.toNatClampNeg) (lg43 ex (vi_lt hi3)) hi4 dX4_unitsOf_32 rfl ?_
        refine go_iadd C 33 34 dX4_unitsOf_33 rfl ?_
        refine go_topi (fun x5 hx5 => ?_)
        replace h := h x5 hx5
        refine go_istore C 34 36 4 [(4, .int _), (0, .ref _), (1, .int _), (2, .int _), (3, .int _), (5, .int _)] dX4_unitsOf_34 (by decide) rfl rfl ?_
        refine go_iinc C 36 39 5 5 (v5 + 1) [(5, .int _), (4, .int _), (0, .ref _), (1, .int _), (2, .int _), (3, .int _)] dX4_unitsOf_36 rfl rfl (by decide) rfl rfl ?_
        refine go_goto C 39 6 dX4_unitsOf_39 (by decide) ?_
        exact go_perm [2, 3, 4, 5, 1, 0] rfl (ih _ _ _ h)
def wB_X4_unitsOf_45 (p1 : Int32) (p3 : Int32) (k rec : Int32 → Int32 → St → Prop) (v4 : Int32) (v5 : Int32) (S : St) : Prop :=
  ((S.1 1 0) ≤ v5 → k v4 v5 S) ∧ (¬ ((S.1 1 0) ≤ v5) → wp_X5_isIn S p3 v5 (fun (r2 : Int32) (S1 : St) => (r2 = 0 → rec v4 (v5 + 1) S1) ∧ (¬ (r2 = 0) → (vp_in p1 6) ∧ ((vp_in v5 6) ∧ (∀ x5 : Int32, x5 = (v4 + (S1.1 (49 + p1.toNatClampNeg) v5.toNatClampNeg)) → rec x5 (v5 + 1) S1)))))
def wL_X4_unitsOf_45 (p1 : Int32) (p3 : Int32) (k : Int32 → Int32 → St → Prop) : Nat → Int32 → Int32 → St → Prop
  | 0, _, _, _ => False
  | n + 1, v4, v5, S => wB_X4_unitsOf_45 p1 p3 k (wL_X4_unitsOf_45 p1 p3 k n) v4 v5 S
set_option maxHeartbeats 4000000 in
set_option maxRecDepth 100000 in
theorem L_X4_unitsOf_45 {p : Program} {l : Launch} {e : Env} {s : State} {m : MethodId} {args : Array Value} {below : List Frame} {meth : Method} {c : Code} {D : va_G} {cA : Nat → ClassId} {ad : Nat → Nat} {ex : List Lay} {Q : State → Prop} (C : Cx p s m args meth c cX4_unitsOf 6 (some .int) RX4 D cA ad (LU ++ ex))   (p1 : Int32) (p3 : Int32) {k : Int32 → Int32 → St → Prop} (hk : ∀ (v4 : Int32) (v5 : Int32) (S : St), k v4 v5 S → Go p l e rX4_unitsOf s m args below meth c D cA ad (LU ++ ex) 6 0 0 Q S 83 [(4, .int v4)] []) : ∀ (n : Nat) (v4 : Int32) (v5 : Int32) (S : St), wL_X4_unitsOf_45 p1 p3 k n v4 v5 S → Go p l e rX4_unitsOf s m args below meth c D cA ad (LU ++ ex) 6 0 0 Q S 45 [(0, .ref (ad 1)), (1, .int p1), (3, .int p3), (4, .int v4), (5, .int v5)] [] := by
  intro n
  induction n with
  | zero => intro v4 v5 S h; exact h.elim
  | succ n ih =>
    intro v4 v5 S h
    replace h : wB_X4_unitsOf_45 p1 p3 k (wL_X4_unitsOf_45 p1 p3 k n) v4 v5 S := h
    unfold wB_X4_unitsOf_45 at h
    refine go_iload C 45 47 5 4 dX4_unitsOf_45 rfl rfl ?_
    refine go_aload_n C 47 48 0 0 dX4_unitsOf_47 rfl rfl rfl ?_
    refine go_getI C 48 51 iw4 1 (lu1 ex) rfl 0 (by decide) k80_ rfl rfl dX4_unitsOf_48 rfl ?_
    refine go_icmp_ge C 51 54 83 dX4_unitsOf_51 (by decide) rfl (fun hc => ?_) (fun hc => ?_)
    · have h := h.1 hc
      exact go_perm [3] rfl (hk _ _ _ h)
    · have h := h.2 hc
      refine go_iload_n C 54 55 3 2 dX4_unitsOf_54 rfl rfl rfl ?_
      refine go_iload C 55 57 5 4 dX4_unitsOf_55 rfl rfl ?_
      refine go_siN C 57 60 0 0 [.int p3, .int v5] (c_X5_isIn _ _ _  h) n287_ k289_ k50_ k288_ qX5_isIn mhX5_isIn (by decide) (by decide) rfl rfl rfl rfl (Nat.le_of_ble_eq_true rfl) rfl rfl dX4_unitsOf_57 (fun r2 S1 h => ?_)
      refine go_if_eq C 60 63 77 dX4_unitsOf_60 (by decide) rfl (fun hc => ?_) (fun hc => ?_)
      · have h := h.1 hc
        refine go_iinc C 77 80 5 4 (v5 + 1) [(5, .int _), (0, .ref _), (1, .int _), (3, .int _), (4, .int _)] dX4_unitsOf_77 rfl rfl (by decide) rfl rfl ?_
        refine go_goto C 80 45 dX4_unitsOf_80 (by decide) ?_
        exact go_perm [1, 2, 3, 4, 0] rfl (ih _ _ _ h)
      · have h := h.2 hc
        refine go_iload C 63 65 4 3 dX4_unitsOf_63 rfl rfl ?_
        refine go_aload_n C 65 66 0 0 dX4_unitsOf_65 rfl rfl rfl ?_
        refine go_getR C 66 69 iw4 1 (lu1 ex) rfl 4 (by decide) k85_ rfl rfl dX4_unitsOf_66 rfl ?_
        refine go_iload_n C 69 70 1 1 dX4_unitsOf_69 rfl rfl rfl ?_
        obtain ⟨hi3, h⟩ := h
        refine go_aald3 C 70 71 11 (lu11 ex) hi3 dX4_unitsOf_70 rfl ?_
        refine go_iload C 71 73 5 4 dX4_unitsOf_71 rfl rfl ?_
        obtain ⟨hi4, h⟩ := h
        refine go_iald C 73 74 (49 + p1.toNatClampNeg) (lg49 ex (vi_lt hi3)) hi4 dX4_unitsOf_73 rfl ?_
        refine go_iadd C 74 75 dX4_unitsOf_74 rfl ?_
        refine go_topi (fun x5 hx5 => ?_)
        replace h := h x5 hx5
        refine go_istore C 75 77 4 [(4, .int _), (0, .ref _), (1, .int _), (3, .int _), (5, .int _)] dX4_unitsOf_75 (by decide) rfl rfl ?_
        refine go_iinc C 77 80 5 4 (v5 + 1) [(5, .int _), (4, .int _), (0, .ref _), (1, .int _), (3, .int _)] dX4_unitsOf_77 rfl rfl (by decide) rfl rfl ?_
        refine go_goto C 80 45 dX4_unitsOf_80 (by decide) ?_
        exact go_perm [2, 3, 4, 1, 0] rfl (ih _ _ _ h)
def wp_X4_unitsOf (S : St) (a1 : Int32) (a2 : Int32) (a3 : Int32) (post : Int32 → St → Prop) : Prop :=
  ∃ fu8, wL_X4_unitsOf_6 a1 a2 a3 (fun (z2 : Int32) (z3 : Int32) (S1 : St) => ∃ fu7, wL_X4_unitsOf_45 a1 a3 (fun (z5 : Int32) (z6 : Int32) (S4 : St) => post z5 S4) fu7 z2 (0 : Int32) S1) fu8 (0 : Int32) (0 : Int32) S
set_option maxHeartbeats 4000000 in
set_option maxRecDepth 100000 in
theorem c_X4_unitsOf {l : Launch} {D : va_G} {cA : Nat → ClassId} {ad : Nat → Nat} {ex : List Lay} (S : St) (a1 : Int32) (a2 : Int32) (a3 : Int32)  {post : Int32 → St → Prop} (h : wp_X4_unitsOf S a1 a2 a3 post) : MetI l yX4_unitsOf cX4_unitsOf 6 (some .int) rX4_unitsOf D cA ad (LU ++ ex) [.ref (ad 1), .int a1, .int a2, .int a3] S post 0 0 := by
  refine MetI.of (by decide) (Nat.le_of_ble_eq_true rfl) ?_
  intro p e s m args below meth c C
  unfold wp_X4_unitsOf at h
  show Go p l e rX4_unitsOf s m args below meth c D cA ad (LU ++ ex) 6 0 0 _ S 0 [(0, .ref (ad 1)), (1, .int a1), (2, .int a2), (3, .int a3)] []
  replace C : Cx p s m args meth c cX4_unitsOf 6 (some .int) RX4 D cA ad (LU ++ ex) := C
  refine go_iconst C 0 1 (0) dX4_unitsOf_0 (by decide) rfl ?_
  refine go_istore C 1 3 4 [(4, .int _), (0, .ref _), (1, .int _), (2, .int _), (3, .int _)] dX4_unitsOf_1 (by decide) rfl rfl ?_
  refine go_iconst C 3 4 (0) dX4_unitsOf_3 (by decide) rfl ?_
  refine go_istore C 4 6 5 [(5, .int _), (4, .int _), (0, .ref _), (1, .int _), (2, .int _), (3, .int _)] dX4_unitsOf_4 (by decide) rfl rfl ?_
  obtain ⟨fu8, h⟩ := h
  refine go_perm [2, 3, 4, 5, 1, 0] rfl (L_X4_unitsOf_6 C   _ _ _ (fun z2 z3 S1 h => ?_) _ _ _ _ h)
  refine go_iconst C 42 43 (0) dX4_unitsOf_42 (by decide) rfl ?_
  refine go_istore C 43 45 5 [(5, .int _), (0, .ref _), (1, .int _), (3, .int _), (4, .int _)] dX4_unitsOf_43 (by decide) rfl rfl ?_
  obtain ⟨fu7, h⟩ := h
  refine go_perm [1, 2, 3, 4, 0] rfl (L_X4_unitsOf_45 C   _ _ (fun z5 z6 S4 h => ?_) _ _ _ _ h)
  refine go_iload C 83 85 4 0 dX4_unitsOf_83 rfl rfl ?_
  exact go_iret C 85 rfl dX4_unitsOf_85 h
-- BillHouse$Works.costAt(II)I
theorem qX4_costAt : (parseMethodDescriptor yX4_costAt.desc).map (fun d => d.parameters.length) = some 2 := by decide +kernel
theorem mhX4_costAt : yX4_costAt.cls ≠ "java/lang/invoke/MethodHandle" ∧ yX4_costAt.cls ≠ "java/lang/invoke/VarHandle" := by decide +kernel
def rX4_costAt : Room := { frames := 0, cells := 0, slots := 0, locals := 0 }
def wp_X4_costAt (S : St) (a1 : Int32) (a2 : Int32) (post : Int32 → St → Prop) : Prop :=
  ∀ x1 : Int32, x1 = (((a2 + (10 : Int32)) - (1 : Int32)) / (10 : Int32)) → (vp_in a1 6) ∧ ((vp_in a1 6) ∧ (post ((S.1 8 a1.toNatClampNeg) + ((S.1 9 a1.toNatClampNeg) * x1)) S))
set_option maxHeartbeats 4000000 in
set_option maxRecDepth 100000 in
theorem c_X4_costAt {l : Launch} {D : va_G} {cA : Nat → ClassId} {ad : Nat → Nat} {ex : List Lay} (S : St) (a1 : Int32) (a2 : Int32)  {post : Int32 → St → Prop} (h : wp_X4_costAt S a1 a2 post) : MetI l yX4_costAt cX4_costAt 4 (some .int) rX4_costAt D cA ad (LU ++ ex) [.ref (ad 1), .int a1, .int a2] S post 0 0 := by
  refine MetI.of (by decide) (Nat.le_of_ble_eq_true rfl) ?_
  intro p e s m args below meth c C
  unfold wp_X4_costAt at h
  show Go p l e rX4_costAt s m args below meth c D cA ad (LU ++ ex) 4 0 0 _ S 0 [(0, .ref (ad 1)), (1, .int a1), (2, .int a2)] []
  replace C : Cx p s m args meth c cX4_costAt 4 (some .int) RX4 D cA ad (LU ++ ex) := C
  refine go_iload_n C 0 1 2 2 dX4_costAt_0 rfl rfl rfl ?_
  refine go_bipush C 1 3 (10) dX4_costAt_1 (by decide) rfl ?_
  refine go_iadd C 3 4 dX4_costAt_3 rfl ?_
  refine go_iconst C 4 5 (1) dX4_costAt_4 (by decide) rfl ?_
  refine go_isub C 5 6 dX4_costAt_5 rfl ?_
  refine go_bipush C 6 8 (10) dX4_costAt_6 (by decide) rfl ?_
  refine go_idiv C 8 9 (by decide) dX4_costAt_8 rfl ?_
  refine go_topi (fun x1 hx1 => ?_)
  replace h := h x1 hx1
  refine go_istore_n C 9 10 3 [(3, .int _), (0, .ref _), (1, .int _), (2, .int _)] dX4_costAt_9 rfl (by decide) rfl rfl ?_
  refine go_aload_n C 10 11 0 1 dX4_costAt_10 rfl rfl rfl ?_
  refine go_getR C 11 14 iw4 1 (lu1 ex) rfl 1 (by decide) k81_ rfl rfl dX4_costAt_11 rfl ?_
  refine go_iload_n C 14 15 1 2 dX4_costAt_14 rfl rfl rfl ?_
  obtain ⟨hi2, h⟩ := h
  refine go_iald C 15 16 8 (lu8 ex) hi2 dX4_costAt_15 rfl ?_
  refine go_aload_n C 16 17 0 1 dX4_costAt_16 rfl rfl rfl ?_
  refine go_getR C 17 20 iw4 1 (lu1 ex) rfl 2 (by decide) k82_ rfl rfl dX4_costAt_17 rfl ?_
  refine go_iload_n C 20 21 1 2 dX4_costAt_20 rfl rfl rfl ?_
  obtain ⟨hi3, h⟩ := h
  refine go_iald C 21 22 9 (lu9 ex) hi3 dX4_costAt_21 rfl ?_
  refine go_iload_n C 22 23 3 0 dX4_costAt_22 rfl rfl rfl ?_
  refine go_imul C 23 24 dX4_costAt_23 rfl ?_
  refine go_iadd C 24 25 dX4_costAt_24 rfl ?_
  exact go_iret C 25 rfl dX4_costAt_25 h
-- BillHouse$Works.costOf(I)I
theorem qX4_costOf : (parseMethodDescriptor yX4_costOf.desc).map (fun d => d.parameters.length) = some 1 := by decide +kernel
theorem mhX4_costOf : yX4_costOf.cls ≠ "java/lang/invoke/MethodHandle" ∧ yX4_costOf.cls ≠ "java/lang/invoke/VarHandle" := by decide +kernel
def rX4_costOf : Room := { frames := 2, cells := 0, slots := 0, locals := 46 }
def wB_X4_costOf_28 (p1 : Int32) (p2 : Int32) (k rec : Int32 → Int32 → St → Prop) (v3 : Int32) (v4 : Int32) (S : St) : Prop :=
  ((S.1 1 0) ≤ v4 → k v3 v4 S) ∧ (¬ ((S.1 1 0) ≤ v4) → wp_X5_isIn S p2 v4 (fun (r2 : Int32) (S1 : St) => (r2 = 0 → rec v3 (v4 + 1) S1) ∧ (¬ (r2 = 0) → wp_X4_unitsOf S1 v4 p1 p2 (fun (r4 : Int32) (S3 : St) => wp_X4_costAt S3 v4 r4 (fun (r6 : Int32) (S5 : St) => ∀ x7 : Int32, x7 = (v3 + r6) → rec x7 (v4 + 1) S5)))))
def wL_X4_costOf_28 (p1 : Int32) (p2 : Int32) (k : Int32 → Int32 → St → Prop) : Nat → Int32 → Int32 → St → Prop
  | 0, _, _, _ => False
  | n + 1, v3, v4, S => wB_X4_costOf_28 p1 p2 k (wL_X4_costOf_28 p1 p2 k n) v3 v4 S
set_option maxHeartbeats 4000000 in
set_option maxRecDepth 100000 in
theorem L_X4_costOf_28 {p : Program} {l : Launch} {e : Env} {s : State} {m : MethodId} {args : Array Value} {below : List Frame} {meth : Method} {c : Code} {D : va_G} {cA : Nat → ClassId} {ad : Nat → Nat} {ex : List Lay} {Q : State → Prop} (C : Cx p s m args meth c cX4_costOf 5 (some .int) RX4 D cA ad (LU ++ ex))   (p1 : Int32) (p2 : Int32) {k : Int32 → Int32 → St → Prop} (hk : ∀ (v3 : Int32) (v4 : Int32) (S : St), k v3 v4 S → Go p l e rX4_costOf s m args below meth c D cA ad (LU ++ ex) 5 0 0 Q S 69 [(0, .ref (ad 1)), (1, .int p1), (3, .int v3)] []) : ∀ (n : Nat) (v3 : Int32) (v4 : Int32) (S : St), wL_X4_costOf_28 p1 p2 k n v3 v4 S → Go p l e rX4_costOf s m args below meth c D cA ad (LU ++ ex) 5 0 0 Q S 28 [(0, .ref (ad 1)), (1, .int p1), (2, .int p2), (3, .int v3), (4, .int v4)] [] := by
  intro n
  induction n with
  | zero => intro v3 v4 S h; exact h.elim
  | succ n ih =>
    intro v3 v4 S h
    replace h : wB_X4_costOf_28 p1 p2 k (wL_X4_costOf_28 p1 p2 k n) v3 v4 S := h
    unfold wB_X4_costOf_28 at h
    refine go_iload C 28 30 4 4 dX4_costOf_28 rfl rfl ?_
    refine go_aload_n C 30 31 0 0 dX4_costOf_30 rfl rfl rfl ?_
    refine go_getI C 31 34 iw4 1 (lu1 ex) rfl 0 (by decide) k80_ rfl rfl dX4_costOf_31 rfl ?_
    refine go_icmp_ge C 34 37 69 dX4_costOf_34 (by decide) rfl (fun hc => ?_) (fun hc => ?_)
    · have h := h.1 hc
      exact go_perm [0, 1, 3] rfl (hk _ _ _ h)
    · have h := h.2 hc
      refine go_iload_n C 37 38 2 2 dX4_costOf_37 rfl rfl rfl ?_
      refine go_iload C 38 40 4 4 dX4_costOf_38 rfl rfl ?_
      refine go_siN C 40 43 0 0 [.int p2, .int v4] (c_X5_isIn _ _ _  h) n287_ k289_ k50_ k288_ qX5_isIn mhX5_isIn (by decide) (by decide) rfl rfl rfl rfl (Nat.le_of_ble_eq_true rfl) rfl rfl dX4_costOf_40 (fun r2 S1 h => ?_)
      refine go_if_eq C 43 46 63 dX4_costOf_43 (by decide) rfl (fun hc => ?_) (fun hc => ?_)
      · have h := h.1 hc
        refine go_iinc C 63 66 4 4 (v4 + 1) [(4, .int _), (0, .ref _), (1, .int _), (2, .int _), (3, .int _)] dX4_costOf_63 rfl rfl (by decide) rfl rfl ?_
        refine go_goto C 66 28 dX4_costOf_66 (by decide) ?_
        exact go_perm [1, 2, 3, 4, 0] rfl (ih _ _ _ h)
      · have h := h.2 hc
        refine go_iload_n C 46 47 3 3 dX4_costOf_46 rfl rfl rfl ?_
        refine go_aload_n C 47 48 0 0 dX4_costOf_47 rfl rfl rfl ?_
        refine go_iload C 48 50 4 4 dX4_costOf_48 rfl rfl ?_
        refine go_aload_n C 50 51 0 0 dX4_costOf_50 rfl rfl rfl ?_
        refine go_iload C 51 53 4 4 dX4_costOf_51 rfl rfl ?_
        refine go_iload_n C 53 54 1 1 dX4_costOf_53 rfl rfl rfl ?_
        refine go_iload_n C 54 55 2 2 dX4_costOf_54 rfl rfl rfl ?_
        refine go_vi C 55 58 0 0 [.int v4, .int p1, .int p2] 1 (lu1 ex) rfl (c_X4_unitsOf _ _ _ _  h) k357_ k343_ k51_ k342_ k15_ qX4_unitsOf mhX4_unitsOf (by decide) (by decide) rfl rfl rfl rfl (Nat.le_of_ble_eq_true rfl) rfl rfl dX4_costOf_55 (fun r4 S3 h => ?_)
        refine go_vi C 58 61 0 0 [.int v4, .int r4] 1 (lu1 ex) rfl (c_X4_costAt _ _ _  h) k358_ k361_ k51_ k360_ k18_ qX4_costAt mhX4_costAt (by decide) (by decide) rfl rfl rfl rfl (Nat.le_of_ble_eq_true rfl) rfl rfl dX4_costOf_58 (fun r6 S5 h => ?_)
        refine go_iadd C 61 62 dX4_costOf_61 rfl ?_
        refine go_topi (fun x7 hx7 => ?_)
        replace h := h x7 hx7
        refine go_istore_n C 62 63 3 [(3, .int _), (0, .ref _), (1, .int _), (2, .int _), (4, .int _)] dX4_costOf_62 rfl (by decide) rfl rfl ?_
        refine go_iinc C 63 66 4 4 (v4 + 1) [(4, .int _), (3, .int _), (0, .ref _), (1, .int _), (2, .int _)] dX4_costOf_63 rfl rfl (by decide) rfl rfl ?_
        refine go_goto C 66 28 dX4_costOf_66 (by decide) ?_
        exact go_perm [2, 3, 4, 1, 0] rfl (ih _ _ _ h)
def wp_X4_costOf (S : St) (a1 : Int32) (post : Int32 → St → Prop) : Prop :=
  (vp_in a1 256) ∧ (((S.1 13 a1.toNatClampNeg) = (-1 : Int32) → wp_X4_neededBy S a1 (fun (r3 : Int32) (S2 : St) => ∃ fu9, wL_X4_costOf_28 a1 r3 (fun (z5 : Int32) (z6 : Int32) (S4 : St) => (vp_in a1 256) ∧ (∀ S8 : St, S8 = uI S4 13 a1.toNatClampNeg z5 → post z5 S8)) fu9 (0 : Int32) (0 : Int32) S2)) ∧ (¬ ((S.1 13 a1.toNatClampNeg) = (-1 : Int32)) → (vp_in a1 256) ∧ (post (S.1 13 a1.toNatClampNeg) S)))
set_option maxHeartbeats 4000000 in
set_option maxRecDepth 100000 in
theorem c_X4_costOf {l : Launch} {D : va_G} {cA : Nat → ClassId} {ad : Nat → Nat} {ex : List Lay} (S : St) (a1 : Int32)  {post : Int32 → St → Prop} (h : wp_X4_costOf S a1 post) : MetI l yX4_costOf cX4_costOf 5 (some .int) rX4_costOf D cA ad (LU ++ ex) [.ref (ad 1), .int a1] S post 0 0 := by
  refine MetI.of (by decide) (Nat.le_of_ble_eq_true rfl) ?_
  intro p e s m args below meth c C
  unfold wp_X4_costOf at h
  show Go p l e rX4_costOf s m args below meth c D cA ad (LU ++ ex) 5 0 0 _ S 0 [(0, .ref (ad 1)), (1, .int a1)] []
  replace C : Cx p s m args meth c cX4_costOf 5 (some .int) RX4 D cA ad (LU ++ ex) := C
  refine go_aload_n C 0 1 0 0 dX4_costOf_0 rfl rfl rfl ?_
  refine go_getR C 1 4 iw4 1 (lu1 ex) rfl 6 (by decide) k88_ rfl rfl dX4_costOf_1 rfl ?_
  refine go_iload_n C 4 5 1 1 dX4_costOf_4 rfl rfl rfl ?_
  obtain ⟨hi1, h⟩ := h
  refine go_iald C 5 6 13 (lu13 ex) hi1 dX4_costOf_5 rfl ?_
  refine go_iconst C 6 7 (-1) dX4_costOf_6 (by decide) rfl ?_
  refine go_icmp_eq C 7 10 17 dX4_costOf_7 (by decide) rfl (fun hc => ?_) (fun hc => ?_)
  · have h := h.1 hc
    refine go_aload_n C 17 18 0 0 dX4_costOf_17 rfl rfl rfl ?_
    refine go_iload_n C 18 19 1 1 dX4_costOf_18 rfl rfl rfl ?_
    refine go_vi C 19 22 0 0 [.int a1] 1 (lu1 ex) rfl (c_X4_neededBy _ _  h) k356_ k322_ k51_ k321_ k12_ qX4_neededBy mhX4_neededBy (by decide) (by decide) rfl rfl rfl rfl (Nat.le_of_ble_eq_true rfl) rfl rfl dX4_costOf_19 (fun r3 S2 h => ?_)
    refine go_istore_n C 22 23 2 [(2, .int _), (0, .ref _), (1, .int _)] dX4_costOf_22 rfl (by decide) rfl rfl ?_
    refine go_iconst C 23 24 (0) dX4_costOf_23 (by decide) rfl ?_
    refine go_istore_n C 24 25 3 [(3, .int _), (2, .int _), (0, .ref _), (1, .int _)] dX4_costOf_24 rfl (by decide) rfl rfl ?_
    refine go_iconst C 25 26 (0) dX4_costOf_25 (by decide) rfl ?_
    refine go_istore C 26 28 4 [(4, .int _), (3, .int _), (2, .int _), (0, .ref _), (1, .int _)] dX4_costOf_26 (by decide) rfl rfl ?_
    obtain ⟨fu9, h⟩ := h
    refine go_perm [3, 4, 2, 1, 0] rfl (L_X4_costOf_28 C   _ _ (fun z5 z6 S4 h => ?_) _ _ _ _ h)
    refine go_aload_n C 69 70 0 0 dX4_costOf_69 rfl rfl rfl ?_
    refine go_getR C 70 73 iw4 1 (lu1 ex) rfl 6 (by decide) k88_ rfl rfl dX4_costOf_70 rfl ?_
    refine go_iload_n C 73 74 1 1 dX4_costOf_73 rfl rfl rfl ?_
    refine go_iload_n C 74 75 3 2 dX4_costOf_74 rfl rfl rfl ?_
    obtain ⟨hi7, h⟩ := h
    refine go_iast C 75 76 13 (lu13 ex) hi7 dX4_costOf_75 rfl ?_
    refine go_nm (fun S8 hS8 => ?_)
    replace h := h S8 hS8
    refine go_iload_n C 76 77 3 2 dX4_costOf_76 rfl rfl rfl ?_
    exact go_iret C 77 rfl dX4_costOf_77 h
  · have h := h.2 hc
    refine go_aload_n C 10 11 0 0 dX4_costOf_10 rfl rfl rfl ?_
    refine go_getR C 11 14 iw4 1 (lu1 ex) rfl 6 (by decide) k88_ rfl rfl dX4_costOf_11 rfl ?_
    refine go_iload_n C 14 15 1 1 dX4_costOf_14 rfl rfl rfl ?_
    obtain ⟨hi10, h⟩ := h
    refine go_iald C 15 16 13 (lu13 ex) hi10 dX4_costOf_15 rfl ?_
    exact go_iret C 16 rfl dX4_costOf_16 h
