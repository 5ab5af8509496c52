theorem k111_ : Cond.fieldLink RX3 15 RX3 "made" "I" ∈ T0 := in_T0 111 (by decide +kernel) (by decide +kernel)
theorem k113_ : Cond.fieldLink RX3 23 RX3 "thereSet" "I" ∈ T0 := in_T0 113 (by decide +kernel) (by decide +kernel)
theorem n307_ : Cond.methodLinkNest RX3 26 yX5_isIn "BillHouse" ∈ N0 := in_N0 307 (by decide +kernel) (by decide +kernel)
theorem k306_ : Cond.methodLink RX3 19 yX3_has ∈ T0 := in_T0 306 (by decide +kernel) (by decide +kernel)
theorem k267_ : Cond.code yX3_has cX3_has 2 (some .boolean) ∈ T0 := in_T0 267 (by decide +kernel) (by decide +kernel)
theorem k53_ : Cond.initialized RX3 ∈ T0 := in_T0 53 (by decide +kernel) (by decide +kernel)
theorem k266_ : Cond.instanceMethod yX3_has ∈ T0 := in_T0 266 (by decide +kernel) (by decide +kernel)
theorem k5_ : Cond.selects RX3 yX3_has yX3_has ∈ T0 := in_T0 5 (by decide +kernel) (by decide +kernel)
theorem k247_ : Cond.methodLink RX3 30 yX3_turn ∈ T0 := in_T0 247 (by decide +kernel) (by decide +kernel)
theorem k250_ : Cond.code yX3_turn cX3_turn 2 none ∈ T0 := in_T0 250 (by decide +kernel) (by decide +kernel)
theorem k249_ : Cond.instanceMethod yX3_turn ∈ T0 := in_T0 249 (by decide +kernel) (by decide +kernel)
theorem k3_ : Cond.selects RX3 yX3_turn yX3_turn ∈ T0 := in_T0 3 (by decide +kernel) (by decide +kernel)
theorem k115_ : Cond.fieldLink RX3 9 RX3 "marked" "[I" ∈ T0 := in_T0 115 (by decide +kernel) (by decide +kernel)
theorem k510_ : Cond.methodLink RX3 34 yX3_isThere ∈ T0 := in_T0 510 (by decide +kernel) (by decide +kernel)
theorem k305_ : Cond.code yX3_isThere cX3_isThere 2 (some .boolean) ∈ T0 := in_T0 305 (by decide +kernel) (by decide +kernel)
theorem k304_ : Cond.instanceMethod yX3_isThere ∈ T0 := in_T0 304 (by decide +kernel) (by decide +kernel)
theorem k11_ : Cond.selects RX3 yX3_isThere yX3_isThere ∈ T0 := in_T0 11 (by decide +kernel) (by decide +kernel)
theorem k138_ : Cond.fieldLink RX1 21 RX1 "factors" "[[J" ∈ T0 := in_T0 138 (by decide +kernel) (by decide +kernel)
theorem n86_ : Cond.fieldLinkNest RX1 56 RX4 "unitsByWork" "[[I" "BillHouse" ∈ N0 := in_N0 86 (by decide +kernel) (by decide +kernel)
theorem k139_ : Cond.fieldLink RX1 24 RX1 "costs" "[J" ∈ T0 := in_T0 139 (by decide +kernel) (by decide +kernel)
theorem n381_ : Cond.methodLinkNest RX1 60 yX4_costAt "BillHouse" ∈ N0 := in_N0 381 (by decide +kernel) (by decide +kernel)
theorem k386_ : Cond.methodLink RX1 64 yJ7_fill_d0a16 ∈ T0 := in_T0 386 (by decide +kernel) (by decide +kernel)
theorem k388_ : Cond.code yJ7_fill_d0a16 cJ7_fill_d0a16 5 none ∈ T0 := in_T0 388 (by decide +kernel) (by decide +kernel)
theorem k387_ : Cond.static yJ7_fill_d0a16 ∈ T0 := in_T0 387 (by decide +kernel) (by decide +kernel)
theorem k140_ : Cond.fieldLink RX1 27 RX1 "minors" "[J" ∈ T0 := in_T0 140 (by decide +kernel) (by decide +kernel)
theorem k397_ : Cond.methodLink RX1 74 yJ6_bitCount_0f7a4 ∈ T0 := in_T0 397 (by decide +kernel) (by decide +kernel)
theorem k399_ : Cond.code yJ6_bitCount_0f7a4 cJ6_bitCount_0f7a4 1 (some .int) ∈ T0 := in_T0 399 (by decide +kernel) (by decide +kernel)
theorem k58_ : Cond.initialized RJ6 ∈ T0 := in_T0 58 (by decide +kernel) (by decide +kernel)
theorem k398_ : Cond.static yJ6_bitCount_0f7a4 ∈ T0 := in_T0 398 (by decide +kernel) (by decide +kernel)
theorem n375_ : Cond.methodLinkNest RX1 36 yX5_isIn "BillHouse" ∈ N0 := in_N0 375 (by decide +kernel) (by decide +kernel)
theorem k393_ : Cond.methodLink RX1 70 yX1_minorOf ∈ T0 := in_T0 393 (by decide +kernel) (by decide +kernel)
theorem k396_ : Cond.code yX1_minorOf cX1_minorOf 12 (some .long) ∈ T0 := in_T0 396 (by decide +kernel) (by decide +kernel)
theorem k54_ : Cond.initialized RX1 ∈ T0 := in_T0 54 (by decide +kernel) (by decide +kernel)
theorem k395_ : Cond.instanceMethod yX1_minorOf ∈ T0 := in_T0 395 (by decide +kernel) (by decide +kernel)
theorem k23_ : Cond.selects RX1 yX1_minorOf yX1_minorOf ∈ T0 := in_T0 23 (by decide +kernel) (by decide +kernel)
theorem k382_ : Cond.methodLink RX1 48 yX1_fillIdleRow ∈ T0 := in_T0 382 (by decide +kernel) (by decide +kernel)
theorem k385_ : Cond.code yX1_fillIdleRow cX1_fillIdleRow 2 none ∈ T0 := in_T0 385 (by decide +kernel) (by decide +kernel)
theorem k384_ : Cond.instanceMethod yX1_fillIdleRow ∈ T0 := in_T0 384 (by decide +kernel) (by decide +kernel)
theorem k21_ : Cond.selects RX1 yX1_fillIdleRow yX1_fillIdleRow ∈ T0 := in_T0 21 (by decide +kernel) (by decide +kernel)
theorem k377_ : Cond.methodLink RX1 44 yX1_fillRow ∈ T0 := in_T0 377 (by decide +kernel) (by decide +kernel)
theorem k380_ : Cond.code yX1_fillRow cX1_fillRow 5 none ∈ T0 := in_T0 380 (by decide +kernel) (by decide +kernel)
theorem k379_ : Cond.instanceMethod yX1_fillRow ∈ T0 := in_T0 379 (by decide +kernel) (by decide +kernel)
theorem k20_ : Cond.selects RX1 yX1_fillRow yX1_fillRow ∈ T0 := in_T0 20 (by decide +kernel) (by decide +kernel)
theorem n376_ : Cond.methodLinkNest RX1 40 yX4_unitsOf "BillHouse" ∈ N0 := in_N0 376 (by decide +kernel) (by decide +kernel)
theorem k135_ : Cond.fieldLink RX1 15 RX1 "denominator" "J" ∈ T0 := in_T0 135 (by decide +kernel) (by decide +kernel)
theorem k132_ : Cond.fieldLink RX1 9 RX1 "numerators" "[J" ∈ T0 := in_T0 132 (by decide +kernel) (by decide +kernel)
theorem k389_ : Cond.methodLink RX1 52 yX1_determinant ∈ T0 := in_T0 389 (by decide +kernel) (by decide +kernel)
theorem k392_ : Cond.code yX1_determinant cX1_determinant 3 (some .long) ∈ T0 := in_T0 392 (by decide +kernel) (by decide +kernel)
theorem k391_ : Cond.instanceMethod yX1_determinant ∈ T0 := in_T0 391 (by decide +kernel) (by decide +kernel)
theorem k22_ : Cond.selects RX1 yX1_determinant yX1_determinant ∈ T0 := in_T0 22 (by decide +kernel) (by decide +kernel)
theorem n374_ : Cond.methodLinkNest RX1 30 yX4_neededBy "BillHouse" ∈ N0 := in_N0 374 (by decide +kernel) (by decide +kernel)
theorem n441_ : Cond.fieldLinkNest RX2 55 RX5 "FACTORIALS" "[J" "BillHouse" ∈ N0 := in_N0 441 (by decide +kernel) (by decide +kernel)
theorem k159_ : Cond.fieldLink RX2 9 RX2 "numerators" "[J" ∈ T0 := in_T0 159 (by decide +kernel) (by decide +kernel)
theorem n427_ : Cond.methodLinkNest RX2 32 yX5_isIn "BillHouse" ∈ N0 := in_N0 427 (by decide +kernel) (by decide +kernel)
theorem k163_ : Cond.fieldLink RX2 19 RX2 "rests" "[J" ∈ T0 := in_T0 163 (by decide +kernel) (by decide +kernel)
theorem n136_ : Cond.fieldLinkNest RX2 22 RX1 "denominator" "J" "BillHouse" ∈ N0 := in_N0 136 (by decide +kernel) (by decide +kernel)
theorem k161_ : Cond.fieldLink RX2 15 RX2 "denominator" "J" ∈ T0 := in_T0 161 (by decide +kernel) (by decide +kernel)
theorem n84_ : Cond.fieldLinkNest RX2 25 RX4 "unitsByUser" "[[I" "BillHouse" ∈ N0 := in_N0 84 (by decide +kernel) (by decide +kernel)
theorem n133_ : Cond.fieldLinkNest RX2 31 RX1 "numerators" "[J" "BillHouse" ∈ N0 := in_N0 133 (by decide +kernel) (by decide +kernel)
theorem n432_ : Cond.methodLinkNest RX2 36 yX4_costOf "BillHouse" ∈ N0 := in_N0 432 (by decide +kernel) (by decide +kernel)
theorem k355_ : Cond.code yX4_costOf cX4_costOf 5 (some .int) ∈ T0 := in_T0 355 (by decide +kernel) (by decide +kernel)
theorem k354_ : Cond.instanceMethod yX4_costOf ∈ T0 := in_T0 354 (by decide +kernel) (by decide +kernel)
theorem k17_ : Cond.selects RX4 yX4_costOf yX4_costOf ∈ T0 := in_T0 17 (by decide +kernel) (by decide +kernel)
theorem k438_ : Cond.methodLink RX2 45 yX2_factorial ∈ T0 := in_T0 438 (by decide +kernel) (by decide +kernel)
theorem k440_ : Cond.code yX2_factorial cX2_factorial 1 (some .long) ∈ T0 := in_T0 440 (by decide +kernel) (by decide +kernel)
theorem k55_ : Cond.initialized RX2 ∈ T0 := in_T0 55 (by decide +kernel) (by decide +kernel)
theorem k439_ : Cond.static yX2_factorial ∈ T0 := in_T0 439 (by decide +kernel) (by decide +kernel)
theorem k437_ : Cond.methodLink RX2 40 yJ6_bitCount_0f7a4 ∈ T0 := in_T0 437 (by decide +kernel) (by decide +kernel)
theorem k443_ : Cond.methodLink RX2 49 yJ7_fill_d0a16 ∈ T0 := in_T0 443 (by decide +kernel) (by decide +kernel)
theorem k457_ : Cond.constantLong RX2 58 (-1) ∈ T0 := in_T0 457 (by decide +kernel) (by decide +kernel)
theorem k458_ : Cond.methodLink RX2 60 yX2_greatestRest ∈ T0 := in_T0 458 (by decide +kernel) (by decide +kernel)
theorem k461_ : Cond.code yX2_greatestRest cX2_greatestRest 3 (some .int) ∈ T0 := in_T0 461 (by decide +kernel) (by decide +kernel)
theorem k460_ : Cond.instanceMethod yX2_greatestRest ∈ T0 := in_T0 460 (by decide +kernel) (by decide +kernel)
theorem k30_ : Cond.selects RX2 yX2_greatestRest yX2_greatestRest ∈ T0 := in_T0 30 (by decide +kernel) (by decide +kernel)
theorem k181_ : Cond.fieldLink RX0 9 RX0 "coinsSoFar" "[I" ∈ T0 := in_T0 181 (by decide +kernel) (by decide +kernel)
theorem k179_ : Cond.fieldLink RX0 24 RX0 "lines" "I" ∈ T0 := in_T0 179 (by decide +kernel) (by decide +kernel)
theorem k183_ : Cond.fieldLink RX0 15 RX0 "lineBookings" "[I" ∈ T0 := in_T0 183 (by decide +kernel) (by decide +kernel)
theorem k177_ : Cond.fieldLink RX0 28 RX0 "bookings" "I" ∈ T0 := in_T0 177 (by decide +kernel) (by decide +kernel)
theorem k185_ : Cond.fieldLink RX0 18 RX0 "lineUsers" "[I" ∈ T0 := in_T0 185 (by decide +kernel) (by decide +kernel)
theorem k187_ : Cond.fieldLink RX0 21 RX0 "lineCoins" "[I" ∈ T0 := in_T0 187 (by decide +kernel) (by decide +kernel)
-- BillHouse$Users.has(I)Z
theorem qX3_has : (parseMethodDescriptor yX3_has.desc).map (fun d => d.parameters.length) = some 1 := by decide +kernel
theorem mhX3_has : yX3_has.cls ≠ "java/lang/invoke/MethodHandle" ∧ yX3_has.cls ≠ "java/lang/invoke/VarHandle" := by decide +kernel
def rX3_has : Room := { frames := 0, cells := 0, slots := 0, locals := 0 }
def wp_X3_has (S : St) (a1 : Int32) (post : Int32 → St → Prop) : Prop :=
  (a1 < 0 → post (0 : Int32) S) ∧ (¬ (a1 < 0) → ((S.1 2 0) ≤ a1 → post (0 : Int32) S) ∧ (¬ ((S.1 2 0) ≤ a1) → post (1 : Int32) S))
set_option maxHeartbeats 4000000 in
set_option maxRecDepth 100000 in
theorem c_X3_has {l : Launch} {D : va_G} {cA : Nat → ClassId} {ad : Nat → Nat} {ex : List Lay} (S : St) (a1 : Int32)  {post : Int32 → St → Prop} (h : wp_X3_has S a1 post) : MetI l yX3_has cX3_has 2 (some .boolean) rX3_has D cA ad (LU ++ ex) [.ref (ad 2), .int a1] S post 0 0 := by
  refine MetI.of (by decide) (Nat.le_of_ble_eq_true rfl) ?_
  intro p e s m args below meth c C
  unfold wp_X3_has at h
  show Go p l e rX3_has s m args below meth c D cA ad (LU ++ ex) 2 0 0 _ S 0 [(0, .ref (ad 2)), (1, .int a1)] []
  replace C : Cx p s m args meth c cX3_has 2 (some .boolean) RX3 D cA ad (LU ++ ex) := C
  refine go_iload_n C 0 1 1 1 dX3_has_0 rfl rfl rfl ?_
  refine go_if_lt C 1 4 16 dX3_has_1 (by decide) rfl (fun hc => ?_) (fun hc => ?_)
  · have h := h.1 hc
    refine go_iconst C 16 17 (0) dX3_has_16 (by decide) rfl ?_
    exact go_zret C 17 (by decide) rfl dX3_has_17 h
  · have h := h.2 hc
    refine go_iload_n C 4 5 1 1 dX3_has_4 rfl rfl rfl ?_
    refine go_aload_n C 5 6 0 0 dX3_has_5 rfl rfl rfl ?_
    refine go_getI C 6 9 iw3 2 (lu2 ex) rfl 0 (by decide) k111_ rfl rfl dX3_has_6 rfl ?_
    refine go_icmp_ge C 9 12 16 dX3_has_9 (by decide) rfl (fun hc => ?_) (fun hc => ?_)
    · have h := h.1 hc
      refine go_iconst C 16 17 (0) dX3_has_16 (by decide) rfl ?_
      exact go_zret C 17 (by decide) rfl dX3_has_17 h
    · have h := h.2 hc
      refine go_iconst C 12 13 (1) dX3_has_12 (by decide) rfl ?_
      refine go_goto C 13 17 dX3_has_13 (by decide) ?_
      exact go_zret C 17 (by decide) rfl dX3_has_17 h
-- BillHouse$Users.isThere(I)Z
theorem qX3_isThere : (parseMethodDescriptor yX3_isThere.desc).map (fun d => d.parameters.length) = some 1 := by decide +kernel
theorem mhX3_isThere : yX3_isThere.cls ≠ "java/lang/invoke/MethodHandle" ∧ yX3_isThere.cls ≠ "java/lang/invoke/VarHandle" := by decide +kernel
def rX3_isThere : Room := { frames := 1, cells := 0, slots := 0, locals := 21 }
def wp_X3_isThere (S : St) (a1 : Int32) (post : Int32 → St → Prop) : Prop :=
  wp_X3_has S a1 (fun (r2 : Int32) (S1 : St) => (r2 = 0 → post (0 : Int32) S1) ∧ (¬ (r2 = 0) → wp_X5_isIn S1 (S1.1 2 1) a1 (fun (r4 : Int32) (S3 : St) => (r4 = 0 → post (0 : Int32) S3) ∧ (¬ (r4 = 0) → post (1 : Int32) S3))))
set_option maxHeartbeats 4000000 in
set_option maxRecDepth 100000 in
theorem c_X3_isThere {l : Launch} {D : va_G} {cA : Nat → ClassId} {ad : Nat → Nat} {ex : List Lay} (S : St) (a1 : Int32)  {post : Int32 → St → Prop} (h : wp_X3_isThere S a1 post) : MetI l yX3_isThere cX3_isThere 2 (some .boolean) rX3_isThere D cA ad (LU ++ ex) [.ref (ad 2), .int a1] S post 0 0 := by
  refine MetI.of (by decide) (Nat.le_of_ble_eq_true rfl) ?_
  intro p e s m args below meth c C
  unfold wp_X3_isThere at h
  show Go p l e rX3_isThere s m args below meth c D cA ad (LU ++ ex) 2 0 0 _ S 0 [(0, .ref (ad 2)), (1, .int a1)] []
  replace C : Cx p s m args meth c cX3_isThere 2 (some .boolean) RX3 D cA ad (LU ++ ex) := C
  refine go_aload_n C 0 1 0 0 dX3_isThere_0 rfl rfl rfl ?_
  refine go_iload_n C 1 2 1 1 dX3_isThere_1 rfl rfl rfl ?_
  refine go_vi C 2 5 0 0 [.int a1] 2 (lu2 ex) rfl (c_X3_has _ _  h) k306_ k267_ k53_ k266_ k5_ qX3_has mhX3_has (by decide) (by decide) rfl rfl rfl rfl (Nat.le_of_ble_eq_true rfl) rfl rfl dX3_isThere_2 (fun r2 S1 h => ?_)
  refine go_if_eq C 5 8 23 dX3_isThere_5 (by decide) rfl (fun hc => ?_) (fun hc => ?_)
  · have h := h.1 hc
    refine go_iconst C 23 24 (0) dX3_isThere_23 (by decide) rfl ?_
    exact go_zret C 24 (by decide) rfl dX3_isThere_24 h
  · have h := h.2 hc
    refine go_aload_n C 8 9 0 0 dX3_isThere_8 rfl rfl rfl ?_
    refine go_getI C 9 12 iw3 2 (lu2 ex) rfl 1 (by decide) k113_ rfl rfl dX3_isThere_9 rfl ?_
    refine go_iload_n C 12 13 1 1 dX3_isThere_12 rfl rfl rfl ?_
    refine go_siN C 13 16 0 0 [.int (S1.1 2 1), .int a1] (c_X5_isIn _ _ _  h) n307_ k289_ k50_ k288_ qX5_isIn mhX5_isIn (by decide) (by decide) rfl rfl rfl rfl (Nat.le_of_ble_eq_true rfl) rfl rfl dX3_isThere_13 (fun r4 S3 h => ?_)
    refine go_if_eq C 16 19 23 dX3_isThere_16 (by decide) rfl (fun hc => ?_) (fun hc => ?_)
    · have h := h.1 hc
      refine go_iconst C 23 24 (0) dX3_isThere_23 (by decide) rfl ?_
      exact go_zret C 24 (by decide) rfl dX3_isThere_24 h
    · have h := h.2 hc
      refine go_iconst C 19 20 (1) dX3_isThere_19 (by decide) rfl ?_
      refine go_goto C 20 24 dX3_isThere_20 (by decide) ?_
      exact go_zret C 24 (by decide) rfl dX3_isThere_24 h
-- BillHouse$Users.turn(I)V
theorem qX3_turn : (parseMethodDescriptor yX3_turn.desc).map (fun d => d.parameters.length) = some 1 := by decide +kernel
theorem mhX3_turn : yX3_turn.cls ≠ "java/lang/invoke/MethodHandle" ∧ yX3_turn.cls ≠ "java/lang/invoke/VarHandle" := by decide +kernel
def rX3_turn : Room := { frames := 0, cells := 0, slots := 0, locals := 0 }
def wp_X3_turn (S : St) (a1 : Int32) (post : St → Prop) : Prop :=
  ∀ S1 : St, S1 = uI S 2 1 ((S.1 2 1) ^^^ ((1 : Int32) <<< (a1 &&& 31))) → post S1
set_option maxHeartbeats 4000000 in
set_option maxRecDepth 100000 in
theorem c_X3_turn {l : Launch} {D : va_G} {cA : Nat → ClassId} {ad : Nat → Nat} {ex : List Lay} (S : St) (a1 : Int32)  {post : St → Prop} (h : wp_X3_turn S a1 post) : MetV l yX3_turn cX3_turn 2 none rX3_turn D cA ad (LU ++ ex) [.ref (ad 2), .int a1] S post 0 0 := by
  refine MetV.of (by decide) (Nat.le_of_ble_eq_true rfl) ?_
  intro p e s m args below meth c C
  unfold wp_X3_turn at h
  show Go p l e rX3_turn s m args below meth c D cA ad (LU ++ ex) 2 0 0 _ S 0 [(0, .ref (ad 2)), (1, .int a1)] []
  replace C : Cx p s m args meth c cX3_turn 2 none RX3 D cA ad (LU ++ ex) := C
  refine go_aload_n C 0 1 0 0 dX3_turn_0 rfl rfl rfl ?_
  refine go_dup C 1 2 rfl dX3_turn_1 rfl ?_
  refine go_getI C 2 5 iw3 2 (lu2 ex) rfl 1 (by decide) k113_ rfl rfl dX3_turn_2 rfl ?_
  refine go_iconst C 5 6 (1) dX3_turn_5 (by decide) rfl ?_
  refine go_iload_n C 6 7 1 1 dX3_turn_6 rfl rfl rfl ?_
  refine go_ishl C 7 8 dX3_turn_7 rfl ?_
  refine go_ixor C 8 9 dX3_turn_8 rfl ?_
  refine go_putI C 9 12 iw3 2 (lu2 ex) rfl 1 (by decide) tyX3 tyX3_ok nmX3 k113_ rfl rfl rfl (by decide +kernel) dX3_turn_9 rfl ?_
  refine go_nm (fun S1 hS1 => ?_)
  replace h := h S1 hS1
  exact go_vret C 12 rfl dX3_turn_12 h
-- BillHouse$Users.add()I
theorem qX3_add : (parseMethodDescriptor yX3_add.desc).map (fun d => d.parameters.length) = some 0 := by decide +kernel
theorem mhX3_add : yX3_add.cls ≠ "java/lang/invoke/MethodHandle" ∧ yX3_add.cls ≠ "java/lang/invoke/VarHandle" := by decide +kernel
def rX3_add : Room := { frames := 1, cells := 0, slots := 0, locals := 21 }
def wp_X3_add (S : St) (post : Int32 → St → Prop) : Prop :=
  ∀ x1 : Int32, x1 = (S.1 2 0) → ∀ S2 : St, S2 = uI S 2 0 ((S.1 2 0) + (1 : Int32)) → wp_X3_turn S2 x1 (fun (S3 : St) => post x1 S3)
set_option maxHeartbeats 4000000 in
set_option maxRecDepth 100000 in
theorem c_X3_add {l : Launch} {D : va_G} {cA : Nat → ClassId} {ad : Nat → Nat} {ex : List Lay} (S : St)  {post : Int32 → St → Prop} (h : wp_X3_add S post) : MetI l yX3_add cX3_add 2 (some .int) rX3_add D cA ad (LU ++ ex) [.ref (ad 2)] S post 0 0 := by
  refine MetI.of (by decide) (Nat.le_of_ble_eq_true rfl) ?_
  intro p e s m args below meth c C
  unfold wp_X3_add at h
  show Go p l e rX3_add s m args below meth c D cA ad (LU ++ ex) 2 0 0 _ S 0 [(0, .ref (ad 2))] []
  replace C : Cx p s m args meth c cX3_add 2 (some .int) RX3 D cA ad (LU ++ ex) := C
  refine go_aload_n C 0 1 0 0 dX3_add_0 rfl rfl rfl ?_
  refine go_getI C 1 4 iw3 2 (lu2 ex) rfl 0 (by decide) k111_ rfl rfl dX3_add_1 rfl ?_
  refine go_topi (fun x1 hx1 => ?_)
  replace h := h x1 hx1
  refine go_istore_n C 4 5 1 [(1, .int _), (0, .ref _)] dX3_add_4 rfl (by decide) rfl rfl ?_
  refine go_aload_n C 5 6 0 1 dX3_add_5 rfl rfl rfl ?_
  refine go_dup C 6 7 rfl dX3_add_6 rfl ?_
  refine go_getI C 7 10 iw3 2 (lu2 ex) rfl 0 (by decide) k111_ rfl rfl dX3_add_7 rfl ?_
  refine go_iconst C 10 11 (1) dX3_add_10 (by decide) rfl ?_
  refine go_iadd C 11 12 dX3_add_11 rfl ?_
  refine go_putI C 12 15 iw3 2 (lu2 ex) rfl 0 (by decide) tyX3 tyX3_ok nmX3 k111_ rfl rfl rfl (by decide +kernel) dX3_add_12 rfl ?_
  refine go_nm (fun S2 hS2 => ?_)
  replace h := h S2 hS2
  refine go_aload_n C 15 16 0 1 dX3_add_15 rfl rfl rfl ?_
  refine go_iload_n C 16 17 1 0 dX3_add_16 rfl rfl rfl ?_
  refine go_vv C 17 20 0 0 [.int x1] 2 (lu2 ex) rfl (c_X3_turn _ _  h) k247_ k250_ k53_ k249_ k3_ qX3_turn mhX3_turn (by decide) (by decide) rfl rfl rfl rfl (Nat.le_of_ble_eq_true rfl) rfl rfl dX3_add_17 (fun S3 h => ?_)
  refine go_iload_n C 20 21 1 0 dX3_add_20 rfl rfl rfl ?_
  exact go_iret C 21 rfl dX3_add_21 h
-- BillHouse$Users.all()I
theorem qX3_all : (parseMethodDescriptor yX3_all.desc).map (fun d => d.parameters.length) = some 0 := by decide +kernel
theorem mhX3_all : yX3_all.cls ≠ "java/lang/invoke/MethodHandle" ∧ yX3_all.cls ≠ "java/lang/invoke/VarHandle" := by decide +kernel
def rX3_all : Room := { frames := 0, cells := 0, slots := 0, locals := 0 }
def wp_X3_all (S : St) (post : Int32 → St → Prop) : Prop :=
  post (((1 : Int32) <<< ((S.1 2 0) &&& 31)) - (1 : Int32)) S
set_option maxHeartbeats 4000000 in
set_option maxRecDepth 100000 in
theorem c_X3_all {l : Launch} {D : va_G} {cA : Nat → ClassId} {ad : Nat → Nat} {ex : List Lay} (S : St)  {post : Int32 → St → Prop} (h : wp_X3_all S post) : MetI l yX3_all cX3_all 1 (some .int) rX3_all D cA ad (LU ++ ex) [.ref (ad 2)] S post 0 0 := by
  refine MetI.of (by decide) (Nat.le_of_ble_eq_true rfl) ?_
  intro p e s m args below meth c C
  unfold wp_X3_all at h
  show Go p l e rX3_all s m args below meth c D cA ad (LU ++ ex) 1 0 0 _ S 0 [(0, .ref (ad 2))] []
  replace C : Cx p s m args meth c cX3_all 1 (some .int) RX3 D cA ad (LU ++ ex) := C
  refine go_iconst C 0 1 (1) dX3_all_0 (by decide) rfl ?_
  refine go_aload_n C 1 2 0 0 dX3_all_1 rfl rfl rfl ?_
  refine go_getI C 2 5 iw3 2 (lu2 ex) rfl 0 (by decide) k111_ rfl rfl dX3_all_2 rfl ?_
  refine go_ishl C 5 6 dX3_all_5 rfl ?_
  refine go_iconst C 6 7 (1) dX3_all_6 (by decide) rfl ?_
  refine go_isub C 7 8 dX3_all_7 rfl ?_
  exact go_iret C 8 rfl dX3_all_8 h
-- BillHouse$Users.markedOfThoseThere()I
theorem qX3_markedOfThoseThere : (parseMethodDescriptor yX3_markedOfThoseThere.desc).map (fun d => d.parameters.length) = some 0 := by decide +kernel
theorem mhX3_markedOfThoseThere : yX3_markedOfThoseThere.cls ≠ "java/lang/invoke/MethodHandle" ∧ yX3_markedOfThoseThere.cls ≠ "java/lang/invoke/VarHandle" := by decide +kernel
def rX3_markedOfThoseThere : Room := { frames := 2, cells := 0, slots := 0, locals := 42 }
def wB_X3_markedOfThoseThere_4 (k rec : Int32 → Int32 → St → Prop) (v1 : Int32) (v2 : Int32) (S : St) : Prop :=
  ((S.1 2 0) ≤ v2 → k v1 v2 S) ∧ (¬ ((S.1 2 0) ≤ v2) → wp_X3_isThere S v2 (fun (r2 : Int32) (S1 : St) => (r2 = 0 → rec v1 (v2 + 1) S1) ∧ (¬ (r2 = 0) → (vp_in v2 8) ∧ (∀ x4 : Int32, x4 = (v1 + (S1.1 14 v2.toNatClampNeg)) → rec x4 (v2 + 1) S1))))
def wL_X3_markedOfThoseThere_4 (k : Int32 → Int32 → St → Prop) : Nat → Int32 → Int32 → St → Prop
  | 0, _, _, _ => False
  | n + 1, v1, v2, S => wB_X3_markedOfThoseThere_4 k (wL_X3_markedOfThoseThere_4 k n) v1 v2 S
set_option maxHeartbeats 4000000 in
set_option maxRecDepth 100000 in
theorem L_X3_markedOfThoseThere_4 {p : Program} {l : Launch} {e : Env} {s : State} {m : MethodId} {args : Array Value} {below : List Frame} {meth : Method} {c : Code} {D : va_G} {cA : Nat → ClassId} {ad : Nat → Nat} {ex : List Lay} {Q : State → Prop} (C : Cx p s m args meth c cX3_markedOfThoseThere 3 (some .int) RX3 D cA ad (LU ++ ex))   {k : Int32 → Int32 → St → Prop} (hk : ∀ (v1 : Int32) (v2 : Int32) (S : St), k v1 v2 S → Go p l e rX3_markedOfThoseThere s m args below meth c D cA ad (LU ++ ex) 3 0 0 Q S 35 [(1, .int v1)] []) : ∀ (n : Nat) (v1 : Int32) (v2 : Int32) (S : St), wL_X3_markedOfThoseThere_4 k n v1 v2 S → Go p l e rX3_markedOfThoseThere s m args below meth c D cA ad (LU ++ ex) 3 0 0 Q S 4 [(0, .ref (ad 2)), (1, .int v1), (2, .int v2)] [] := by
  intro n
  induction n with
  | zero => intro v1 v2 S h; exact h.elim
  | succ n ih =>
    intro v1 v2 S h
    replace h : wB_X3_markedOfThoseThere_4 k (wL_X3_markedOfThoseThere_4 k n) v1 v2 S := h
    unfold wB_X3_markedOfThoseThere_4 at h
    refine go_iload_n C 4 5 2 2 dX3_markedOfThoseThere_4 rfl rfl rfl ?_
    refine go_aload_n C 5 6 0 0 dX3_markedOfThoseThere_5 rfl rfl rfl ?_
    refine go_getI C 6 9 iw3 2 (lu2 ex) rfl 0 (by decide) k111_ rfl rfl dX3_markedOfThoseThere_6 rfl ?_
    refine go_icmp_ge C 9 12 35 dX3_markedOfThoseThere_9 (by decide) rfl (fun hc => ?_) (fun hc => ?_)
    · have h := h.1 hc
      exact go_perm [1] rfl (hk _ _ _ h)
    · have h := h.2 hc
      refine go_aload_n C 12 13 0 0 dX3_markedOfThoseThere_12 rfl rfl rfl ?_
      refine go_iload_n C 13 14 2 2 dX3_markedOfThoseThere_13 rfl rfl rfl ?_
      refine go_vi C 14 17 0 0 [.int v2] 2 (lu2 ex) rfl (c_X3_isThere _ _  h) k510_ k305_ k53_ k304_ k11_ qX3_isThere mhX3_isThere (by decide) (by decide) rfl rfl rfl rfl (Nat.le_of_ble_eq_true rfl) rfl rfl dX3_markedOfThoseThere_14 (fun r2 S1 h => ?_)
      refine go_if_eq C 17 20 29 dX3_markedOfThoseThere_17 (by decide) rfl (fun hc => ?_) (fun hc => ?_)
      · have h := h.1 hc
        refine go_iinc C 29 32 2 2 (v2 + 1) [(2, .int _), (0, .ref _), (1, .int _)] dX3_markedOfThoseThere_29 rfl rfl (by decide) rfl rfl ?_
        refine go_goto C 32 4 dX3_markedOfThoseThere_32 (by decide) ?_
        exact go_perm [1, 2, 0] rfl (ih _ _ _ h)
      · have h := h.2 hc
        refine go_iload_n C 20 21 1 1 dX3_markedOfThoseThere_20 rfl rfl rfl ?_
        refine go_aload_n C 21 22 0 0 dX3_markedOfThoseThere_21 rfl rfl rfl ?_
        refine go_getR C 22 25 iw3 2 (lu2 ex) rfl 2 (by decide) k115_ rfl rfl dX3_markedOfThoseThere_22 rfl ?_
        refine go_iload_n C 25 26 2 2 dX3_markedOfThoseThere_25 rfl rfl rfl ?_
        obtain ⟨hi3, h⟩ := h
        refine go_iald C 26 27 14 (lu14 ex) hi3 dX3_markedOfThoseThere_26 rfl ?_
        refine go_iadd C 27 28 dX3_markedOfThoseThere_27 rfl ?_
        refine go_topi (fun x4 hx4 => ?_)
        replace h := h x4 hx4
        refine go_istore_n C 28 29 1 [(1, .int _), (0, .ref _), (2, .int _)] dX3_markedOfThoseThere_28 rfl (by decide) rfl rfl ?_
        refine go_iinc C 29 32 2 2 (v2 + 1) [(2, .int _), (1, .int _), (0, .ref _)] dX3_markedOfThoseThere_29 rfl rfl (by decide) rfl rfl ?_
        refine go_goto C 32 4 dX3_markedOfThoseThere_32 (by decide) ?_
        exact go_perm [2, 1, 0] rfl (ih _ _ _ h)
def wp_X3_markedOfThoseThere (S : St) (post : Int32 → St → Prop) : Prop :=
  ∃ fu4, wL_X3_markedOfThoseThere_4 (fun (z2 : Int32) (z3 : Int32) (S1 : St) => post z2 S1) fu4 (0 : Int32) (0 : Int32) S
set_option maxHeartbeats 4000000 in
set_option maxRecDepth 100000 in
theorem c_X3_markedOfThoseThere {l : Launch} {D : va_G} {cA : Nat → ClassId} {ad : Nat → Nat} {ex : List Lay} (S : St)  {post : Int32 → St → Prop} (h : wp_X3_markedOfThoseThere S post) : MetI l yX3_markedOfThoseThere cX3_markedOfThoseThere 3 (some .int) rX3_markedOfThoseThere D cA ad (LU ++ ex) [.ref (ad 2)] S post 0 0 := by
  refine MetI.of (by decide) (Nat.le_of_ble_eq_true rfl) ?_
  intro p e s m args below meth c C
  unfold wp_X3_markedOfThoseThere at h
  show Go p l e rX3_markedOfThoseThere s m args below meth c D cA ad (LU ++ ex) 3 0 0 _ S 0 [(0, .ref (ad 2))] []
  replace C : Cx p s m args meth c cX3_markedOfThoseThere 3 (some .int) RX3 D cA ad (LU ++ ex) := C
  refine go_iconst C 0 1 (0) dX3_markedOfThoseThere_0 (by decide) rfl ?_
  refine go_istore_n C 1 2 1 [(1, .int _), (0, .ref _)] dX3_markedOfThoseThere_1 rfl (by decide) rfl rfl ?_
  refine go_iconst C 2 3 (0) dX3_markedOfThoseThere_2 (by decide) rfl ?_
  refine go_istore_n C 3 4 2 [(2, .int _), (1, .int _), (0, .ref _)] dX3_markedOfThoseThere_3 rfl (by decide) rfl rfl ?_
  obtain ⟨fu4, h⟩ := h
  refine go_perm [2, 1, 0] rfl (L_X3_markedOfThoseThere_4 C   (fun z2 z3 S1 h => ?_) _ _ _ _ h)
  refine go_iload_n C 35 36 1 0 dX3_markedOfThoseThere_35 rfl rfl rfl ?_
  exact go_iret C 36 rfl dX3_markedOfThoseThere_36 h
-- BillHouse$Prices.fillRow(LBillHouse$Works;II)V
theorem qX1_fillRow : (parseMethodDescriptor yX1_fillRow.desc).map (fun d => d.parameters.length) = some 3 := by decide +kernel
theorem mhX1_fillRow : yX1_fillRow.cls ≠ "java/lang/invoke/MethodHandle" ∧ yX1_fillRow.cls ≠ "java/lang/invoke/VarHandle" := by decide +kernel
def rX1_fillRow : Room := { frames := 1, cells := 0, slots := 0, locals := 23 }
def wB_X1_fillRow_3 (p2 : Int32) (p3 : Int32) (k rec : Int32 → St → Prop) (v4 : Int32) (S : St) : Prop :=
  ((6 : Int32) ≤ v4 → k v4 S) ∧ (¬ ((6 : Int32) ≤ v4) → (vp_in p2 6) ∧ ((vp_in v4 6) ∧ ((vp_in p2 6) ∧ ((vp_in v4 6) ∧ (∀ S5 : St, S5 = uJ S (55 + p2.toNatClampNeg) v4.toNatClampNeg ((-(S.1 (49 + v4.toNatClampNeg) p2.toNatClampNeg)).toInt64) → rec (v4 + 1) S5)))))
def wL_X1_fillRow_3 (p2 : Int32) (p3 : Int32) (k : Int32 → St → Prop) : Nat → Int32 → St → Prop
  | 0, _, _ => False
  | n + 1, v4, S => wB_X1_fillRow_3 p2 p3 k (wL_X1_fillRow_3 p2 p3 k n) v4 S
set_option maxHeartbeats 4000000 in
set_option maxRecDepth 100000 in
theorem L_X1_fillRow_3 {p : Program} {l : Launch} {e : Env} {s : State} {m : MethodId} {args : Array Value} {below : List Frame} {meth : Method} {c : Code} {D : va_G} {cA : Nat → ClassId} {ad : Nat → Nat} {ex : List Lay} {Q : State → Prop} (C : Cx p s m args meth c cX1_fillRow 5 none RX1 D cA ad (LU ++ ex))   (p2 : Int32) (p3 : Int32) {k : Int32 → St → Prop} (hk : ∀ (v4 : Int32) (S : St), k v4 S → Go p l e rX1_fillRow s m args below meth c D cA ad (LU ++ ex) 5 0 0 Q S 36 [(0, .ref (ad 3)), (1, .ref (ad 1)), (2, .int p2), (3, .int p3)] []) : ∀ (n : Nat) (v4 : Int32) (S : St), wL_X1_fillRow_3 p2 p3 k n v4 S → Go p l e rX1_fillRow s m args below meth c D cA ad (LU ++ ex) 5 0 0 Q S 3 [(0, .ref (ad 3)), (1, .ref (ad 1)), (2, .int p2), (3, .int p3), (4, .int v4)] [] := by
  intro n
  induction n with
  | zero => intro v4 S h; exact h.elim
  | succ n ih =>
    intro v4 S h
    replace h : wB_X1_fillRow_3 p2 p3 k (wL_X1_fillRow_3 p2 p3 k n) v4 S := h
    unfold wB_X1_fillRow_3 at h
    refine go_iload C 3 5 4 4 dX1_fillRow_3 rfl rfl ?_
    refine go_bipush C 5 7 (6) dX1_fillRow_5 (by decide) rfl ?_
    refine go_icmp_ge C 7 10 36 dX1_fillRow_7 (by decide) rfl (fun hc => ?_) (fun hc => ?_)
    · have h := h.1 hc
      exact go_perm [0, 1, 2, 3] rfl (hk _ _ h)
    · have h := h.2 hc
      refine go_aload_n C 10 11 0 0 dX1_fillRow_10 rfl rfl rfl ?_
      refine go_getR C 11 14 iw1 3 (lu3 ex) rfl 2 (by decide) k138_ rfl rfl dX1_fillRow_11 rfl ?_
      refine go_iload_n C 14 15 2 2 dX1_fillRow_14 rfl rfl rfl ?_
      obtain ⟨hi1, h⟩ := h
      refine go_aald4 C 15 16 16 (lu16 ex) hi1 dX1_fillRow_15 rfl ?_
      refine go_iload C 16 18 4 4 dX1_fillRow_16 rfl rfl ?_
      refine go_aload_n C 18 19 1 1 dX1_fillRow_18 rfl rfl rfl ?_
      refine go_getRN C 19 22 iw4 1 (lu1 ex) rfl 4 (by decide) n86_ rfl rfl dX1_fillRow_19 rfl ?_
      refine go_iload C 22 24 4 4 dX1_fillRow_22 rfl rfl ?_
      obtain ⟨hi2, h⟩ := h
      refine go_aald3 C 24 25 11 (lu11 ex) hi2 dX1_fillRow_24 rfl ?_
      refine go_iload_n C 25 26 2 2 dX1_fillRow_25 rfl rfl rfl ?_
      obtain ⟨hi3, h⟩ := h
      refine go_iald C 26 27 (49 + v4.toNatClampNeg) (lg49 ex (vi_lt hi2)) hi3 dX1_fillRow_26 rfl ?_
      refine go_ineg C 27 28 dX1_fillRow_27 rfl ?_
      refine go_i2l C 28 29 dX1_fillRow_28 rfl ?_
      obtain ⟨hi4, h⟩ := h
      refine go_last C 29 30 (55 + p2.toNatClampNeg) (lg55 ex (vi_lt hi1)) hi4 dX1_fillRow_29 rfl ?_
      refine go_nm (fun S5 hS5 => ?_)
      replace h := h S5 hS5
      refine go_iinc C 30 33 4 4 (v4 + 1) [(4, .int _), (0, .ref _), (1, .ref _), (2, .int _), (3, .int _)] dX1_fillRow_30 rfl rfl (by decide) rfl rfl ?_
      refine go_goto C 33 3 dX1_fillRow_33 (by decide) ?_
      exact go_perm [1, 2, 3, 4, 0] rfl (ih _ _ h)
def wp_X1_fillRow (S : St) (a2 : Int32) (a3 : Int32) (post : St → Prop) : Prop :=
  ∃ fu10, wL_X1_fillRow_3 a2 a3 (fun (z2 : Int32) (S1 : St) => (vp_in a2 6) ∧ ((vp_in a2 6) ∧ (∀ S5 : St, S5 = uJ S1 (55 + a2.toNatClampNeg) a2.toNatClampNeg a3.toInt64 → wp_X4_costAt S5 a2 a3 (fun (r7 : Int32) (S6 : St) => (vp_in a2 6) ∧ (∀ S9 : St, S9 = uJ S6 17 a2.toNatClampNeg r7.toInt64 → post S9))))) fu10 (0 : Int32) S
set_option maxHeartbeats 4000000 in
set_option maxRecDepth 100000 in
theorem c_X1_fillRow {l : Launch} {D : va_G} {cA : Nat → ClassId} {ad : Nat → Nat} {ex : List Lay} (S : St) (a2 : Int32) (a3 : Int32)  {post : St → Prop} (h : wp_X1_fillRow S a2 a3 post) : MetV l yX1_fillRow cX1_fillRow 5 none rX1_fillRow D cA ad (LU ++ ex) [.ref (ad 3), .ref (ad 1), .int a2, .int a3] S post 0 0 := by
  refine MetV.of (by decide) (Nat.le_of_ble_eq_true rfl) ?_
  intro p e s m args below meth c C
  unfold wp_X1_fillRow at h
  show Go p l e rX1_fillRow s m args below meth c D cA ad (LU ++ ex) 5 0 0 _ S 0 [(0, .ref (ad 3)), (1, .ref (ad 1)), (2, .int a2), (3, .int a3)] []
  replace C : Cx p s m args meth c cX1_fillRow 5 none RX1 D cA ad (LU ++ ex) := C
  refine go_iconst C 0 1 (0) dX1_fillRow_0 (by decide) rfl ?_
  refine go_istore C 1 3 4 [(4, .int _), (0, .ref _), (1, .ref _), (2, .int _), (3, .int _)] dX1_fillRow_1 (by decide) rfl rfl ?_
  obtain ⟨fu10, h⟩ := h
  refine go_perm [1, 2, 3, 4, 0] rfl (L_X1_fillRow_3 C   _ _ (fun z2 S1 h => ?_) _ _ _ h)
  refine go_aload_n C 36 37 0 0 dX1_fillRow_36 rfl rfl rfl ?_
  refine go_getR C 37 40 iw1 3 (lu3 ex) rfl 2 (by decide) k138_ rfl rfl dX1_fillRow_37 rfl ?_
  refine go_iload_n C 40 41 2 2 dX1_fillRow_40 rfl rfl rfl ?_
  obtain ⟨hi3, h⟩ := h
  refine go_aald4 C 41 42 16 (lu16 ex) hi3 dX1_fillRow_41 rfl ?_
  refine go_iload_n C 42 43 2 2 dX1_fillRow_42 rfl rfl rfl ?_
  refine go_iload_n C 43 44 3 3 dX1_fillRow_43 rfl rfl rfl ?_
  refine go_i2l C 44 45 dX1_fillRow_44 rfl ?_
  obtain ⟨hi4, h⟩ := h
  refine go_last C 45 46 (55 + a2.toNatClampNeg) (lg55 ex (vi_lt hi3)) hi4 dX1_fillRow_45 rfl ?_
  refine go_nm (fun S5 hS5 => ?_)
  replace h := h S5 hS5
  refine go_aload_n C 46 47 0 0 dX1_fillRow_46 rfl rfl rfl ?_
  refine go_getR C 47 50 iw1 3 (lu3 ex) rfl 3 (by decide) k139_ rfl rfl dX1_fillRow_47 rfl ?_
  refine go_iload_n C 50 51 2 2 dX1_fillRow_50 rfl rfl rfl ?_
  refine go_aload_n C 51 52 1 1 dX1_fillRow_51 rfl rfl rfl ?_
  refine go_iload_n C 52 53 2 2 dX1_fillRow_52 rfl rfl rfl ?_
  refine go_iload_n C 53 54 3 3 dX1_fillRow_53 rfl rfl rfl ?_
  refine go_viN C 54 57 0 0 [.int a2, .int a3] 1 (lu1 ex) rfl (c_X4_costAt _ _ _  h) n381_ k361_ k51_ k360_ k18_ qX4_costAt mhX4_costAt (by decide) (by decide) rfl rfl rfl rfl (Nat.le_of_ble_eq_true rfl) rfl rfl dX1_fillRow_54 (fun r7 S6 h => ?_)
  refine go_i2l C 57 58 dX1_fillRow_57 rfl ?_
  obtain ⟨hi8, h⟩ := h
  refine go_last C 58 59 17 (lu17 ex) hi8 dX1_fillRow_58 rfl ?_
  refine go_nm (fun S9 hS9 => ?_)
  replace h := h S9 hS9
  exact go_vret C 59 rfl dX1_fillRow_59 h
-- BillHouse$Prices.fillIdleRow(I)V
theorem qX1_fillIdleRow : (parseMethodDescriptor yX1_fillIdleRow.desc).map (fun d => d.parameters.length) = some 1 := by decide +kernel
theorem mhX1_fillIdleRow : yX1_fillIdleRow.cls ≠ "java/lang/invoke/MethodHandle" ∧ yX1_fillIdleRow.cls ≠ "java/lang/invoke/VarHandle" := by decide +kernel
def rX1_fillIdleRow : Room := { frames := 1, cells := 0, slots := 0, locals := 24 }
def wp_X1_fillIdleRow (S : St) (a1 : Int32) (post : St → Prop) : Prop :=
  (vp_in a1 6) ∧ (wp_J7_fill_d0a16 S (0 : Int64) (55 + a1.toNatClampNeg) 6 (fun (S2 : St) => (vp_in a1 6) ∧ ((vp_in a1 6) ∧ (∀ S6 : St, S6 = uJ S2 (55 + a1.toNatClampNeg) a1.toNatClampNeg (1 : Int64) → (vp_in a1 6) ∧ (∀ S8 : St, S8 = uJ S6 17 a1.toNatClampNeg (0 : Int64) → post S8)))))
set_option maxHeartbeats 4000000 in
set_option maxRecDepth 100000 in
theorem c_X1_fillIdleRow {l : Launch} {D : va_G} {cA : Nat → ClassId} {ad : Nat → Nat} {ex : List Lay} (S : St) (a1 : Int32)  {post : St → Prop} (h : wp_X1_fillIdleRow S a1 post) : MetV l yX1_fillIdleRow cX1_fillIdleRow 2 none rX1_fillIdleRow D cA ad (LU ++ ex) [.ref (ad 3), .int a1] S post 0 0 := by
  refine MetV.of (by decide) (Nat.le_of_ble_eq_true rfl) ?_
  intro p e s m args below meth c C
  unfold wp_X1_fillIdleRow at h
  show Go p l e rX1_fillIdleRow s m args below meth c D cA ad (LU ++ ex) 2 0 0 _ S 0 [(0, .ref (ad 3)), (1, .int a1)] []
  replace C : Cx p s m args meth c cX1_fillIdleRow 2 none RX1 D cA ad (LU ++ ex) := C
  refine go_aload_n C 0 1 0 0 dX1_fillIdleRow_0 rfl rfl rfl ?_
  refine go_getR C 1 4 iw1 3 (lu3 ex) rfl 2 (by decide) k138_ rfl rfl dX1_fillIdleRow_1 rfl ?_
  refine go_iload_n C 4 5 1 1 dX1_fillIdleRow_4 rfl rfl rfl ?_
  obtain ⟨hi1, h⟩ := h
  refine go_aald4 C 5 6 16 (lu16 ex) hi1 dX1_fillIdleRow_5 rfl ?_
  refine go_lconst C 6 7 0 dX1_fillIdleRow_6 rfl rfl ?_
  refine go_sv C 7 10 0 0 [.ref (ad (55 + a1.toNatClampNeg)), .long (0 : Int64)] (c_J7_fill_d0a16 _ _ (55 + a1.toNatClampNeg) 6 (lg55 ex (vi_lt hi1)) h) k386_ k388_ k52_ k387_ qJ7_fill_d0a16 mhJ7_fill_d0a16 (by decide) (by decide) rfl rfl rfl rfl (Nat.le_of_ble_eq_true rfl) rfl rfl dX1_fillIdleRow_7 (fun S2 h => ?_)
  refine go_aload_n C 10 11 0 0 dX1_fillIdleRow_10 rfl rfl rfl ?_
  refine go_getR C 11 14 iw1 3 (lu3 ex) rfl 2 (by decide) k138_ rfl rfl dX1_fillIdleRow_11 rfl ?_
  refine go_iload_n C 14 15 1 1 dX1_fillIdleRow_14 rfl rfl rfl ?_
  obtain ⟨hi4, h⟩ := h
  refine go_aald4 C 15 16 16 (lu16 ex) hi4 dX1_fillIdleRow_15 rfl ?_
  refine go_iload_n C 16 17 1 1 dX1_fillIdleRow_16 rfl rfl rfl ?_
  refine go_lconst C 17 18 1 dX1_fillIdleRow_17 rfl rfl ?_
  obtain ⟨hi5, h⟩ := h
  refine go_last C 18 19 (55 + a1.toNatClampNeg) (lg55 ex (vi_lt hi4)) hi5 dX1_fillIdleRow_18 rfl ?_
  refine go_nm (fun S6 hS6 => ?_)
  replace h := h S6 hS6
  refine go_aload_n C 19 20 0 0 dX1_fillIdleRow_19 rfl rfl rfl ?_
  refine go_getR C 20 23 iw1 3 (lu3 ex) rfl 3 (by decide) k139_ rfl rfl dX1_fillIdleRow_20 rfl ?_
  refine go_iload_n C 23 24 1 1 dX1_fillIdleRow_23 rfl rfl rfl ?_
  refine go_lconst C 24 25 0 dX1_fillIdleRow_24 rfl rfl ?_
  obtain ⟨hi7, h⟩ := h
  refine go_last C 25 26 17 (lu17 ex) hi7 dX1_fillIdleRow_25 rfl ?_
  refine go_nm (fun S8 hS8 => ?_)
  replace h := h S8 hS8
  exact go_vret C 26 rfl dX1_fillIdleRow_26 h
-- BillHouse$Prices.minorOf(II)J
theorem qX1_minorOf : (parseMethodDescriptor yX1_minorOf.desc).map (fun d => d.parameters.length) = some 2 := by decide +kernel
theorem mhX1_minorOf : yX1_minorOf.cls ≠ "java/lang/invoke/MethodHandle" ∧ yX1_minorOf.cls ≠ "java/lang/invoke/VarHandle" := by decide +kernel
def rX1_minorOf : Room := { frames := 1, cells := 0, slots := 0, locals := 21 }
def wB_X1_minorOf_13 (p1 : Int32) (p2 : Int32) (p3 : Int32) (k rec : Int64 → Int32 → St → Prop) (v4 : Int64) (v6 : Int32) (S : St) : Prop :=
  ((6 : Int32) ≤ v6 → k v4 v6 S) ∧ (¬ ((6 : Int32) ≤ v6) → wp_X5_isIn S p1 v6 (fun (r2 : Int32) (S1 : St) => (r2 = 0 → rec v4 (v6 + 1) S1) ∧ (¬ (r2 = 0) → (¬ v6 = p2 → (vp_in p3 6) ∧ ((vp_in v6 6) ∧ (∀ x5 : Int64, x5 = (S1.2 (55 + p3.toNatClampNeg) v6.toNatClampNeg) → (vp_in (p1 &&& (((1 : Int32) <<< (v6 &&& 31)) ^^^ (-1 : Int32))) 64) ∧ (∀ x7 : Int64, x7 = (x5 * (S1.2 18 (p1 &&& (((1 : Int32) <<< (v6 &&& 31)) ^^^ (-1 : Int32))).toNatClampNeg)) → wp_J6_bitCount_0f7a4 S1 (p1 >>> ((v6 + (1 : Int32)) &&& 31)) (fun (r9 : Int32) (S8 : St) => ((r9 &&& (1 : Int32)) = 0 → ∀ x10 : Int64, x10 = (v4 + x7) → rec x10 (v6 + 1) S8) ∧ (¬ ((r9 &&& (1 : Int32)) = 0) → ∀ x11 : Int64, x11 = (v4 + (-x7)) → rec x11 (v6 + 1) S8)))))) ∧ (v6 = p2 → (vp_in p3 6) ∧ (∀ x13 : Int64, x13 = (S1.2 17 p3.toNatClampNeg) → (vp_in (p1 &&& (((1 : Int32) <<< (v6 &&& 31)) ^^^ (-1 : Int32))) 64) ∧ (∀ x15 : Int64, x15 = (x13 * (S1.2 18 (p1 &&& (((1 : Int32) <<< (v6 &&& 31)) ^^^ (-1 : Int32))).toNatClampNeg)) → wp_J6_bitCount_0f7a4 S1 (p1 >>> ((v6 + (1 : Int32)) &&& 31)) (fun (r17 : Int32) (S16 : St) => ((r17 &&& (1 : Int32)) = 0 → ∀ x18 : Int64, x18 = (v4 + x15) → rec x18 (v6 + 1) S16) ∧ (¬ ((r17 &&& (1 : Int32)) = 0) → ∀ x19 : Int64, x19 = (v4 + (-x15)) → rec x19 (v6 + 1) S16))))))))
def wL_X1_minorOf_13 (p1 : Int32) (p2 : Int32) (p3 : Int32) (k : Int64 → Int32 → St → Prop) : Nat → Int64 → Int32 → St → Prop
  | 0, _, _, _ => False
  | n + 1, v4, v6, S => wB_X1_minorOf_13 p1 p2 p3 k (wL_X1_minorOf_13 p1 p2 p3 k n) v4 v6 S
set_option maxHeartbeats 4000000 in
set_option maxRecDepth 100000 in
theorem L_X1_minorOf_13 {p : Program} {l : Launch} {e : Env} {s : State} {m : MethodId} {args : Array Value} {below : List Frame} {meth : Method} {c : Code} {D : va_G} {cA : Nat → ClassId} {ad : Nat → Nat} {ex : List Lay} {Q : State → Prop} (C : Cx p s m args meth c cX1_minorOf 12 (some .long) RX1 D cA ad (LU ++ ex))   (p1 : Int32) (p2 : Int32) (p3 : Int32) {k : Int64 → Int32 → St → Prop} (hk : ∀ (v4 : Int64) (v6 : Int32) (S : St), k v4 v6 S → Go p l e rX1_minorOf s m args below meth c D cA ad (LU ++ ex) 12 0 0 Q S 118 [(4, .long v4)] []) : ∀ (n : Nat) (v4 : Int64) (v6 : Int32) (S : St), wL_X1_minorOf_13 p1 p2 p3 k n v4 v6 S → Go p l e rX1_minorOf s m args below meth c D cA ad (LU ++ ex) 12 0 0 Q S 13 [(0, .ref (ad 3)), (1, .int p1), (2, .int p2), (3, .int p3), (4, .long v4), (6, .int v6)] [] := by
  intro n
  induction n with
  | zero => intro v4 v6 S h; exact h.elim
  | succ n ih =>
    intro v4 v6 S h
    replace h : wB_X1_minorOf_13 p1 p2 p3 k (wL_X1_minorOf_13 p1 p2 p3 k n) v4 v6 S := h
    unfold wB_X1_minorOf_13 at h
    refine go_iload C 13 15 6 5 dX1_minorOf_13 rfl rfl ?_
    refine go_bipush C 15 17 (6) dX1_minorOf_15 (by decide) rfl ?_
    refine go_icmp_ge C 17 20 118 dX1_minorOf_17 (by decide) rfl (fun hc => ?_) (fun hc => ?_)
    · have h := h.1 hc
      exact go_perm [4] rfl (hk _ _ _ h)
    · have h := h.2 hc
      refine go_iload_n C 20 21 1 1 dX1_minorOf_20 rfl rfl rfl ?_
      refine go_iload C 21 23 6 5 dX1_minorOf_21 rfl rfl ?_
      refine go_siN C 23 26 0 0 [.int p1, .int v6] (c_X5_isIn _ _ _  h) n375_ k289_ k50_ k288_ qX5_isIn mhX5_isIn (by decide) (by decide) rfl rfl rfl rfl (Nat.le_of_ble_eq_true rfl) rfl rfl dX1_minorOf_23 (fun r2 S1 h => ?_)
      refine go_if_eq C 26 29 112 dX1_minorOf_26 (by decide) rfl (fun hc => ?_) (fun hc => ?_)
      · have h := h.1 hc
        refine go_iinc C 112 115 6 5 (v6 + 1) [(6, .int _), (0, .ref _), (1, .int _), (2, .int _), (3, .int _), (4, .long _)] dX1_minorOf_112 rfl rfl (by decide) rfl rfl ?_
        refine go_goto C 115 13 dX1_minorOf_115 (by decide) ?_
        exact go_perm [1, 2, 3, 4, 5, 0] rfl (ih _ _ _ h)
      · have h := h.2 hc
        refine go_iload C 29 31 6 5 dX1_minorOf_29 rfl rfl ?_
        refine go_iload_n C 31 32 2 2 dX1_minorOf_31 rfl rfl rfl ?_
        refine go_icmp_ne C 32 35 44 dX1_minorOf_32 (by decide) rfl (fun hc => ?_) (fun hc => ?_)
        · have h := h.1 hc
          refine go_aload_n C 44 45 0 0 dX1_minorOf_44 rfl rfl rfl ?_
          refine go_getR C 45 48 iw1 3 (lu3 ex) rfl 2 (by decide) k138_ rfl rfl dX1_minorOf_45 rfl ?_
          refine go_iload_n C 48 49 3 3 dX1_minorOf_48 rfl rfl rfl ?_
          obtain ⟨hi3, h⟩ := h
          refine go_aald4 C 49 50 16 (lu16 ex) hi3 dX1_minorOf_49 rfl ?_
          refine go_iload C 50 52 6 5 dX1_minorOf_50 rfl rfl ?_
          obtain ⟨hi4, h⟩ := h
          refine go_lald C 52 53 (55 + p3.toNatClampNeg) (lg55 ex (vi_lt hi3)) hi4 dX1_minorOf_52 rfl ?_
          refine go_topl (fun x5 hx5 => ?_)
          replace h := h x5 hx5
          refine go_lstore C 53 55 7 [(7, .long _), (0, .ref _), (1, .int _), (2, .int _), (3, .int _), (4, .long _), (6, .int _)] dX1_minorOf_53 (by decide) rfl rfl ?_
          refine go_lload C 55 57 7 0 dX1_minorOf_55 rfl rfl ?_
          refine go_aload_n C 57 58 0 1 dX1_minorOf_57 rfl rfl rfl ?_
          refine go_getR C 58 61 iw1 3 (lu3 ex) rfl 4 (by decide) k140_ rfl rfl dX1_minorOf_58 rfl ?_
          refine go_iload_n C 61 62 1 2 dX1_minorOf_61 rfl rfl rfl ?_
          refine go_iconst C 62 63 (1) dX1_minorOf_62 (by decide) rfl ?_
          refine go_iload C 63 65 6 6 dX1_minorOf_63 rfl rfl ?_
          refine go_ishl C 65 66 dX1_minorOf_65 rfl ?_
          refine go_iconst C 66 67 (-1) dX1_minorOf_66 (by decide) rfl ?_
          refine go_ixor C 67 68 dX1_minorOf_67 rfl ?_
          refine go_iand C 68 69 dX1_minorOf_68 rfl ?_
          obtain ⟨hi6, h⟩ := h
          refine go_lald C 69 70 18 (lu18 ex) hi6 dX1_minorOf_69 rfl ?_
          refine go_lmul C 70 71 dX1_minorOf_70 rfl ?_
          refine go_topl (fun x7 hx7 => ?_)
          replace h := h x7 hx7
          refine go_lstore C 71 73 9 [(9, .long _), (7, .long _), (0, .ref _), (1, .int _), (2, .int _), (3, .int _), (4, .long _), (6, .int _)] dX1_minorOf_71 (by decide) rfl rfl ?_
          refine go_iload_n C 73 74 1 3 dX1_minorOf_73 rfl rfl rfl ?_
          refine go_iload C 74 76 6 7 dX1_minorOf_74 rfl rfl ?_
          refine go_iconst C 76 77 (1) dX1_minorOf_76 (by decide) rfl ?_
          refine go_iadd C 77 78 dX1_minorOf_77 rfl ?_
          refine go_ishr C 78 79 dX1_minorOf_78 rfl ?_
          refine go_si C 79 82 0 0 [.int (p1 >>> ((v6 + (1 : Int32)) &&& 31))] (c_J6_bitCount_0f7a4 _ _  h) k397_ k399_ k58_ k398_ qJ6_bitCount_0f7a4 mhJ6_bitCount_0f7a4 (by decide) (by decide) rfl rfl rfl rfl (Nat.le_of_ble_eq_true rfl) rfl rfl dX1_minorOf_79 (fun r9 S8 h => ?_)
          refine go_iconst C 82 83 (1) dX1_minorOf_82 (by decide) rfl ?_
          refine go_iand C 83 84 dX1_minorOf_83 rfl ?_
          refine go_if_eq C 84 87 91 dX1_minorOf_84 (by decide) rfl (fun hc => ?_) (fun hc => ?_)
          · have h := h.1 hc
            refine go_iconst C 91 92 (0) dX1_minorOf_91 (by decide) rfl ?_
            refine go_istore C 92 94 11 [(11, .int _), (9, .long _), (7, .long _), (0, .ref _), (1, .int _), (2, .int _), (3, .int _), (4, .long _), (6, .int _)] dX1_minorOf_92 (by decide) rfl rfl ?_
            refine go_lload C 94 96 4 7 dX1_minorOf_94 rfl rfl ?_
            refine go_iload C 96 98 11 0 dX1_minorOf_96 rfl rfl ?_
            refine go_if_eq C 98 101 107 dX1_minorOf_98 (by decide) rfl (fun hc => ?_) (fun hc => absurd hc (by decide))
            refine go_lload C 107 109 9 1 dX1_minorOf_107 rfl rfl ?_
            refine go_ladd C 109 110 dX1_minorOf_109 rfl ?_
            refine go_topl (fun x10 hx10 => ?_)
            replace h := h x10 hx10
            refine go_lstore C 110 112 4 [(4, .long _), (11, .int _), (9, .long _), (7, .long _), (0, .ref _), (1, .int _), (2, .int _), (3, .int _), (6, .int _)] dX1_minorOf_110 (by decide) rfl rfl ?_
            refine go_iinc C 112 115 6 8 (v6 + 1) [(6, .int _), (4, .long _), (11, .int _), (9, .long _), (7, .long _), (0, .ref _), (1, .int _), (2, .int _), (3, .int _)] dX1_minorOf_112 rfl rfl (by decide) rfl rfl ?_
            refine go_goto C 115 13 dX1_minorOf_115 (by decide) ?_
            exact go_perm [5, 6, 7, 8, 1, 0] rfl (ih _ _ _ h)
          · have h := h.2 hc
            refine go_iconst C 87 88 (1) dX1_minorOf_87 (by decide) rfl ?_
            refine go_goto C 88 92 dX1_minorOf_88 (by decide) ?_
            refine go_istore C 92 94 11 [(11, .int _), (9, .long _), (7, .long _), (0, .ref _), (1, .int _), (2, .int _), (3, .int _), (4, .long _), (6, .int _)] dX1_minorOf_92 (by decide) rfl rfl ?_
            refine go_lload C 94 96 4 7 dX1_minorOf_94 rfl rfl ?_
            refine go_iload C 96 98 11 0 dX1_minorOf_96 rfl rfl ?_
            refine go_if_eq C 98 101 107 dX1_minorOf_98 (by decide) rfl (fun hc => absurd hc (by decide)) (fun hc => ?_)
            refine go_lload C 101 103 9 1 dX1_minorOf_101 rfl rfl ?_
            refine go_lneg C 103 104 dX1_minorOf_103 rfl ?_
            refine go_goto C 104 109 dX1_minorOf_104 (by decide) ?_
            refine go_ladd C 109 110 dX1_minorOf_109 rfl ?_
            refine go_topl (fun x11 hx11 => ?_)
            replace h := h x11 hx11
            refine go_lstore C 110 112 4 [(4, .long _), (11, .int _), (9, .long _), (7, .long _), (0, .ref _), (1, .int _), (2, .int _), (3, .int _), (6, .int _)] dX1_minorOf_110 (by decide) rfl rfl ?_
            refine go_iinc C 112 115 6 8 (v6 + 1) [(6, .int _), (4, .long _), (11, .int _), (9, .long _), (7, .long _), (0, .ref _), (1, .int _), (2, .int _), (3, .int _)] dX1_minorOf_112 rfl rfl (by decide) rfl rfl ?_
            refine go_goto C 115 13 dX1_minorOf_115 (by decide) ?_
            exact go_perm [5, 6, 7, 8, 1, 0] rfl (ih _ _ _ h)
        · have h := h.2 hc
          refine go_aload_n C 35 36 0 0 dX1_minorOf_35 rfl rfl rfl ?_
          refine go_getR C 36 39 iw1 3 (lu3 ex) rfl 3 (by decide) k139_ rfl rfl dX1_minorOf_36 rfl ?_
          refine go_iload_n C 39 40 3 3 dX1_minorOf_39 rfl rfl rfl ?_
          obtain ⟨hi12, h⟩ := h
          refine go_lald C 40 41 17 (lu17 ex) hi12 dX1_minorOf_40 rfl ?_
          refine go_goto C 41 53 dX1_minorOf_41 (by decide) ?_
          refine go_topl (fun x13 hx13 => ?_)
          replace h := h x13 hx13
          refine go_lstore C 53 55 7 [(7, .long _), (0, .ref _), (1, .int _), (2, .int _), (3, .int _), (4, .long _), (6, .int _)] dX1_minorOf_53 (by decide) rfl rfl ?_
          refine go_lload C 55 57 7 0 dX1_minorOf_55 rfl rfl ?_
          refine go_aload_n C 57 58 0 1 dX1_minorOf_57 rfl rfl rfl ?_
          refine go_getR C 58 61 iw1 3 (lu3 ex) rfl 4 (by decide) k140_ rfl rfl dX1_minorOf_58 rfl ?_
          refine go_iload_n C 61 62 1 2 dX1_minorOf_61 rfl rfl rfl ?_
          refine go_iconst C 62 63 (1) dX1_minorOf_62 (by decide) rfl ?_
          refine go_iload C 63 65 6 6 dX1_minorOf_63 rfl rfl ?_
          refine go_ishl C 65 66 dX1_minorOf_65 rfl ?_
          refine go_iconst C 66 67 (-1) dX1_minorOf_66 (by decide) rfl ?_
          refine go_ixor C 67 68 dX1_minorOf_67 rfl ?_
          refine go_iand C 68 69 dX1_minorOf_68 rfl ?_
          obtain ⟨hi14, h⟩ := h
          refine go_lald C 69 70 18 (lu18 ex) hi14 dX1_minorOf_69 rfl ?_
          refine go_lmul C 70 71 dX1_minorOf_70 rfl ?_
          refine go_topl (fun x15 hx15 => ?_)
          replace h := h x15 hx15
          refine go_lstore C 71 73 9 [(9, .long _), (7, .long _), (0, .ref _), (1, .int _), (2, .int _), (3, .int _), (4, .long _), (6, .int _)] dX1_minorOf_71 (by decide) rfl rfl ?_
          refine go_iload_n C 73 74 1 3 dX1_minorOf_73 rfl rfl rfl ?_
          refine go_iload C 74 76 6 7 dX1_minorOf_74 rfl rfl ?_
          refine go_iconst C 76 77 (1) dX1_minorOf_76 (by decide) rfl ?_
          refine go_iadd C 77 78 dX1_minorOf_77 rfl ?_
          refine go_ishr C 78 79 dX1_minorOf_78 rfl ?_
          refine go_si C 79 82 0 0 [.int (p1 >>> ((v6 + (1 : Int32)) &&& 31))] (c_J6_bitCount_0f7a4 _ _  h) k397_ k399_ k58_ k398_ qJ6_bitCount_0f7a4 mhJ6_bitCount_0f7a4 (by decide) (by decide) rfl rfl rfl rfl (Nat.le_of_ble_eq_true rfl) rfl rfl dX1_minorOf_79 (fun r17 S16 h => ?_)
          refine go_iconst C 82 83 (1) dX1_minorOf_82 (by decide) rfl ?_
          refine go_iand C 83 84 dX1_minorOf_83 rfl ?_
          refine go_if_eq C 84 87 91 dX1_minorOf_84 (by decide) rfl (fun hc => ?_) (fun hc => ?_)
          · have h := h.1 hc
            refine go_iconst C 91 92 (0) dX1_minorOf_91 (by decide) rfl ?_
            refine go_istore C 92 94 11 [(11, .int _), (9, .long _), (7, .long _), (0, .ref _), (1, .int _), (2, .int _), (3, .int _), (4, .long _), (6, .int _)] dX1_minorOf_92 (by decide) rfl rfl ?_
            refine go_lload C 94 96 4 7 dX1_minorOf_94 rfl rfl ?_
            refine go_iload C 96 98 11 0 dX1_minorOf_96 rfl rfl ?_
            refine go_if_eq C 98 101 107 dX1_minorOf_98 (by decide) rfl (fun hc => ?_) (fun hc => absurd hc (by decide))
            refine go_lload C 107 109 9 1 dX1_minorOf_107 rfl rfl ?_
            refine go_ladd C 109 110 dX1_minorOf_109 rfl ?_
            refine go_topl (fun x18 hx18 => ?_)
            replace h := h x18 hx18
            refine go_lstore C 110 112 4 [(4, .long _), (11, .int _), (9, .long _), (7, .long _), (0, .ref _), (1, .int _), (2, .int _), (3, .int _), (6, .int _)] dX1_minorOf_110 (by decide) rfl rfl ?_
            refine go_iinc C 112 115 6 8 (v6 + 1) [(6, .int _), (4, .long _), (11, .int _), (9, .long _), (7, .long _), (0, .ref _), (1, .int _), (2, .int _), (3, .int _)] dX1_minorOf_112 rfl rfl (by decide) rfl rfl ?_
            refine go_goto C 115 13 dX1_minorOf_115 (by decide) ?_
            exact go_perm [5, 6, 7, 8, 1, 0] rfl (ih _ _ _ h)
          · have h := h.2 hc
            refine go_iconst C 87 88 (1) dX1_minorOf_87 (by decide) rfl ?_
            refine go_goto C 88 92 dX1_minorOf_88 (by decide) ?_
            refine go_istore C 92 94 11 [(11, .int _), (9, .long _), (7, .long _), (0, .ref _), (1, .int _), (2, .int _), (3, .int _), (4, .long _), (6, .int _)] dX1_minorOf_92 (by decide) rfl rfl ?_
            refine go_lload C 94 96 4 7 dX1_minorOf_94 rfl rfl ?_
            refine go_iload C 96 98 11 0 dX1_minorOf_96 rfl rfl ?_
            refine go_if_eq C 98 101 107 dX1_minorOf_98 (by decide) rfl (fun hc => absurd hc (by decide)) (fun hc => ?_)
            refine go_lload C 101 103 9 1 dX1_minorOf_101 rfl rfl ?_
            refine go_lneg C 103 104 dX1_minorOf_103 rfl ?_
            refine go_goto C 104 109 dX1_minorOf_104 (by decide) ?_
            refine go_ladd C 109 110 dX1_minorOf_109 rfl ?_
            refine go_topl (fun x19 hx19 => ?_)
            replace h := h x19 hx19
            refine go_lstore C 110 112 4 [(4, .long _), (11, .int _), (9, .long _), (7, .long _), (0, .ref _), (1, .int _), (2, .int _), (3, .int _), (6, .int _)] dX1_minorOf_110 (by decide) rfl rfl ?_
            refine go_iinc C 112 115 6 8 (v6 + 1) [(6, .int _), (4, .long _), (11, .int _), (9, .long _), (7, .long _), (0, .ref _), (1, .int _), (2, .int _), (3, .int _)] dX1_minorOf_112 rfl rfl (by decide) rfl rfl ?_
            refine go_goto C 115 13 dX1_minorOf_115 (by decide) ?_
            exact go_perm [5, 6, 7, 8, 1, 0] rfl (ih _ _ _ h)
def wp_X1_minorOf (S : St) (a1 : Int32) (a2 : Int32) (post : Int64 → St → Prop) : Prop :=
  wp_J6_bitCount_0f7a4 S a1 (fun (r2 : Int32) (S1 : St) => ∀ x3 : Int32, x3 = (r2 - (1 : Int32)) → ∃ fu7, wL_X1_minorOf_13 a1 a2 x3 (fun (z5 : Int64) (z6 : Int32) (S4 : St) => post z5 S4) fu7 (0 : Int64) (0 : Int32) S1)
set_option maxHeartbeats 4000000 in
set_option maxRecDepth 100000 in
theorem c_X1_minorOf {l : Launch} {D : va_G} {cA : Nat → ClassId} {ad : Nat → Nat} {ex : List Lay} (S : St) (a1 : Int32) (a2 : Int32)  {post : Int64 → St → Prop} (h : wp_X1_minorOf S a1 a2 post) : MetL l yX1_minorOf cX1_minorOf 12 (some .long) rX1_minorOf D cA ad (LU ++ ex) [.ref (ad 3), .int a1, .int a2] S post 0 0 := by
  refine MetL.of (by decide) (Nat.le_of_ble_eq_true rfl) ?_
  intro p e s m args below meth c C
  unfold wp_X1_minorOf at h
  show Go p l e rX1_minorOf s m args below meth c D cA ad (LU ++ ex) 12 0 0 _ S 0 [(0, .ref (ad 3)), (1, .int a1), (2, .int a2)] []
  replace C : Cx p s m args meth c cX1_minorOf 12 (some .long) RX1 D cA ad (LU ++ ex) := C
  refine go_iload_n C 0 1 1 1 dX1_minorOf_0 rfl rfl rfl ?_
  refine go_si C 1 4 0 0 [.int a1] (c_J6_bitCount_0f7a4 _ _  h) k397_ k399_ k58_ k398_ qJ6_bitCount_0f7a4 mhJ6_bitCount_0f7a4 (by decide) (by decide) rfl rfl rfl rfl (Nat.le_of_ble_eq_true rfl) rfl rfl dX1_minorOf_1 (fun r2 S1 h => ?_)
  refine go_iconst C 4 5 (1) dX1_minorOf_4 (by decide) rfl ?_
  refine go_isub C 5 6 dX1_minorOf_5 rfl ?_
  refine go_topi (fun x3 hx3 => ?_)
  replace h := h x3 hx3
  refine go_istore_n C 6 7 3 [(3, .int _), (0, .ref _), (1, .int _), (2, .int _)] dX1_minorOf_6 rfl (by decide) rfl rfl ?_
  refine go_lconst C 7 8 0 dX1_minorOf_7 rfl rfl ?_
  refine go_lstore C 8 10 4 [(4, .long _), (3, .int _), (0, .ref _), (1, .int _), (2, .int _)] dX1_minorOf_8 (by decide) rfl rfl ?_
  refine go_iconst C 10 11 (0) dX1_minorOf_10 (by decide) rfl ?_
  refine go_istore C 11 13 6 [(6, .int _), (4, .long _), (3, .int _), (0, .ref _), (1, .int _), (2, .int _)] dX1_minorOf_11 (by decide) rfl rfl ?_
  obtain ⟨fu7, h⟩ := h
  refine go_perm [3, 4, 5, 2, 1, 0] rfl (L_X1_minorOf_13 C   _ _ _ (fun z5 z6 S4 h => ?_) _ _ _ _ h)
  refine go_lload C 118 120 4 0 dX1_minorOf_118 rfl rfl ?_
  exact go_lret C 120 rfl dX1_minorOf_120 h
-- BillHouse$Prices.determinant(I)J
theorem qX1_determinant : (parseMethodDescriptor yX1_determinant.desc).map (fun d => d.parameters.length) = some 1 := by decide +kernel
theorem mhX1_determinant : yX1_determinant.cls ≠ "java/lang/invoke/MethodHandle" ∧ yX1_determinant.cls ≠ "java/lang/invoke/VarHandle" := by decide +kernel
def rX1_determinant : Room := { frames := 2, cells := 0, slots := 0, locals := 52 }
def wB_X1_determinant_9 (p1 : Int32) (k rec : Int32 → St → Prop) (v2 : Int32) (S : St) : Prop :=
  ((Int32.ofNat 64) ≤ v2 → k v2 S) ∧ (¬ ((Int32.ofNat 64) ≤ v2) → wp_X1_minorOf S v2 p1 (fun (r2 : Int64) (S1 : St) => (vp_in v2 64) ∧ (∀ S4 : St, S4 = uJ S1 18 v2.toNatClampNeg r2 → rec (v2 + 1) S4)))
def wL_X1_determinant_9 (p1 : Int32) (k : Int32 → St → Prop) : Nat → Int32 → St → Prop
  | 0, _, _ => False
  | n + 1, v2, S => wB_X1_determinant_9 p1 k (wL_X1_determinant_9 p1 k n) v2 S
set_option maxHeartbeats 4000000 in
set_option maxRecDepth 100000 in
theorem L_X1_determinant_9 {p : Program} {l : Launch} {e : Env} {s : State} {m : MethodId} {args : Array Value} {below : List Frame} {meth : Method} {c : Code} {D : va_G} {cA : Nat → ClassId} {ad : Nat → Nat} {ex : List Lay} {Q : State → Prop} (C : Cx p s m args meth c cX1_determinant 3 (some .long) RX1 D cA ad (LU ++ ex))   (p1 : Int32) {k : Int32 → St → Prop} (hk : ∀ (v2 : Int32) (S : St), k v2 S → Go p l e rX1_determinant s m args below meth c D cA ad (LU ++ ex) 3 0 0 Q S 36 [(0, .ref (ad 3))] []) : ∀ (n : Nat) (v2 : Int32) (S : St), wL_X1_determinant_9 p1 k n v2 S → Go p l e rX1_determinant s m args below meth c D cA ad (LU ++ ex) 3 0 0 Q S 9 [(0, .ref (ad 3)), (1, .int p1), (2, .int v2)] [] := by
  intro n
  induction n with
  | zero => intro v2 S h; exact h.elim
  | succ n ih =>
    intro v2 S h
    replace h : wB_X1_determinant_9 p1 k (wL_X1_determinant_9 p1 k n) v2 S := h
    unfold wB_X1_determinant_9 at h
    refine go_iload_n C 9 10 2 2 dX1_determinant_9 rfl rfl rfl ?_
    refine go_aload_n C 10 11 0 0 dX1_determinant_10 rfl rfl rfl ?_
    refine go_getR C 11 14 iw1 3 (lu3 ex) rfl 4 (by decide) k140_ rfl rfl dX1_determinant_11 rfl ?_
    refine go_alen C 14 15 18 (lu18 ex) rfl (fun _ => rfl) dX1_determinant_14 rfl ?_
    refine go_icmp_ge C 15 18 36 dX1_determinant_15 (by decide) rfl (fun hc => ?_) (fun hc => ?_)
    · have h := h.1 hc
      exact go_perm [0] rfl (hk _ _ h)
    · have h := h.2 hc
      refine go_aload_n C 18 19 0 0 dX1_determinant_18 rfl rfl rfl ?_
      refine go_getR C 19 22 iw1 3 (lu3 ex) rfl 4 (by decide) k140_ rfl rfl dX1_determinant_19 rfl ?_
      refine go_iload_n C 22 23 2 2 dX1_determinant_22 rfl rfl rfl ?_
      refine go_aload_n C 23 24 0 0 dX1_determinant_23 rfl rfl rfl ?_
      refine go_iload_n C 24 25 2 2 dX1_determinant_24 rfl rfl rfl ?_
      refine go_iload_n C 25 26 1 1 dX1_determinant_25 rfl rfl rfl ?_
      refine go_vl C 26 29 0 0 [.int v2, .int p1] 3 (lu3 ex) rfl (c_X1_minorOf _ _ _  h) k393_ k396_ k54_ k395_ k23_ qX1_minorOf mhX1_minorOf (by decide) (by decide) rfl rfl rfl rfl (Nat.le_of_ble_eq_true rfl) rfl rfl dX1_determinant_26 (fun r2 S1 h => ?_)
      obtain ⟨hi3, h⟩ := h
      refine go_last C 29 30 18 (lu18 ex) hi3 dX1_determinant_29 rfl ?_
      refine go_nm (fun S4 hS4 => ?_)
      replace h := h S4 hS4
      refine go_iinc C 30 33 2 2 (v2 + 1) [(2, .int _), (0, .ref _), (1, .int _)] dX1_determinant_30 rfl rfl (by decide) rfl rfl ?_
      refine go_goto C 33 9 dX1_determinant_33 (by decide) ?_
      exact go_perm [1, 2, 0] rfl (ih _ _ h)
def wp_X1_determinant (S : St) (a1 : Int32) (post : Int64 → St → Prop) : Prop :=
  ∀ S1 : St, S1 = uJ S 18 ((0 : Int32).toNatClampNeg) (1 : Int64) → ∃ fu5, wL_X1_determinant_9 a1 (fun (z3 : Int32) (S2 : St) => (vp_in ((Int32.ofNat 64) - (1 : Int32)) 64) ∧ (post (S2.2 18 ((Int32.ofNat 64) - (1 : Int32)).toNatClampNeg) S2)) fu5 (1 : Int32) S1
set_option maxHeartbeats 4000000 in
set_option maxRecDepth 100000 in
theorem c_X1_determinant {l : Launch} {D : va_G} {cA : Nat → ClassId} {ad : Nat → Nat} {ex : List Lay} (S : St) (a1 : Int32)  {post : Int64 → St → Prop} (h : wp_X1_determinant S a1 post) : MetL l yX1_determinant cX1_determinant 3 (some .long) rX1_determinant D cA ad (LU ++ ex) [.ref (ad 3), .int a1] S post 0 0 := by
  refine MetL.of (by decide) (Nat.le_of_ble_eq_true rfl) ?_
  intro p e s m args below meth c C
  unfold wp_X1_determinant at h
  show Go p l e rX1_determinant s m args below meth c D cA ad (LU ++ ex) 3 0 0 _ S 0 [(0, .ref (ad 3)), (1, .int a1)] []
  replace C : Cx p s m args meth c cX1_determinant 3 (some .long) RX1 D cA ad (LU ++ ex) := C
  refine go_aload_n C 0 1 0 0 dX1_determinant_0 rfl rfl rfl ?_
  refine go_getR C 1 4 iw1 3 (lu3 ex) rfl 4 (by decide) k140_ rfl rfl dX1_determinant_1 rfl ?_
  refine go_iconst C 4 5 (0) dX1_determinant_4 (by decide) rfl ?_
  refine go_lconst C 5 6 1 dX1_determinant_5 rfl rfl ?_
  refine go_last C 6 7 18 (lu18 ex) (by unfold vp_in; decide) dX1_determinant_6 rfl ?_
  refine go_nm (fun S1 hS1 => ?_)
  replace h := h S1 hS1
  refine go_iconst C 7 8 (1) dX1_determinant_7 (by decide) rfl ?_
  refine go_istore_n C 8 9 2 [(2, .int _), (0, .ref _), (1, .int _)] dX1_determinant_8 rfl (by decide) rfl rfl ?_
  obtain ⟨fu5, h⟩ := h
  refine go_perm [1, 2, 0] rfl (L_X1_determinant_9 C   _ (fun z3 S2 h => ?_) _ _ _ h)
  refine go_aload_n C 36 37 0 0 dX1_determinant_36 rfl rfl rfl ?_
  refine go_getR C 37 40 iw1 3 (lu3 ex) rfl 4 (by decide) k140_ rfl rfl dX1_determinant_37 rfl ?_
  refine go_aload_n C 40 41 0 0 dX1_determinant_40 rfl rfl rfl ?_
  refine go_getR C 41 44 iw1 3 (lu3 ex) rfl 4 (by decide) k140_ rfl rfl dX1_determinant_41 rfl ?_
  refine go_alen C 44 45 18 (lu18 ex) rfl (fun _ => rfl) dX1_determinant_44 rfl ?_
  refine go_iconst C 45 46 (1) dX1_determinant_45 (by decide) rfl ?_
  refine go_isub C 46 47 dX1_determinant_46 rfl ?_
  obtain ⟨hi4, h⟩ := h
  refine go_lald C 47 48 18 (lu18 ex) hi4 dX1_determinant_47 rfl ?_
  exact go_lret C 48 rfl dX1_determinant_48 h
-- BillHouse$Prices.solve(LBillHouse$Works;I)V
theorem qX1_solve : (parseMethodDescriptor yX1_solve.desc).map (fun d => d.parameters.length) = some 2 := by decide +kernel
theorem mhX1_solve : yX1_solve.cls ≠ "java/lang/invoke/MethodHandle" ∧ yX1_solve.cls ≠ "java/lang/invoke/VarHandle" := by decide +kernel
def rX1_solve : Room := { frames := 3, cells := 0, slots := 0, locals := 74 }
def wB_X1_solve_9 (p2 : Int32) (p3 : Int32) (k rec : Int32 → St → Prop) (v4 : Int32) (S : St) : Prop :=
  ((6 : Int32) ≤ v4 → k v4 S) ∧ (¬ ((6 : Int32) ≤ v4) → wp_X5_isIn S p3 v4 (fun (r2 : Int32) (S1 : St) => (r2 = 0 → wp_X1_fillIdleRow S1 v4 (fun (S3 : St) => rec (v4 + 1) S3)) ∧ (¬ (r2 = 0) → wp_X4_unitsOf S1 v4 p2 p3 (fun (r6 : Int32) (S5 : St) => wp_X1_fillRow S5 v4 r6 (fun (S7 : St) => rec (v4 + 1) S7)))))
def wL_X1_solve_9 (p2 : Int32) (p3 : Int32) (k : Int32 → St → Prop) : Nat → Int32 → St → Prop
  | 0, _, _ => False
  | n + 1, v4, S => wB_X1_solve_9 p2 p3 k (wL_X1_solve_9 p2 p3 k n) v4 S
set_option maxHeartbeats 4000000 in
set_option maxRecDepth 100000 in
theorem L_X1_solve_9 {p : Program} {l : Launch} {e : Env} {s : State} {m : MethodId} {args : Array Value} {below : List Frame} {meth : Method} {c : Code} {D : va_G} {cA : Nat → ClassId} {ad : Nat → Nat} {ex : List Lay} {Q : State → Prop} (C : Cx p s m args meth c cX1_solve 5 none RX1 D cA ad (LU ++ ex))   (p2 : Int32) (p3 : Int32) {k : Int32 → St → Prop} (hk : ∀ (v4 : Int32) (S : St), k v4 S → Go p l e rX1_solve s m args below meth c D cA ad (LU ++ ex) 5 0 0 Q S 55 [(0, .ref (ad 3))] []) : ∀ (n : Nat) (v4 : Int32) (S : St), wL_X1_solve_9 p2 p3 k n v4 S → Go p l e rX1_solve s m args below meth c D cA ad (LU ++ ex) 5 0 0 Q S 9 [(0, .ref (ad 3)), (1, .ref (ad 1)), (2, .int p2), (3, .int p3), (4, .int v4)] [] := by
  intro n
  induction n with
  | zero => intro v4 S h; exact h.elim
  | succ n ih =>
    intro v4 S h
    replace h : wB_X1_solve_9 p2 p3 k (wL_X1_solve_9 p2 p3 k n) v4 S := h
    unfold wB_X1_solve_9 at h
    refine go_iload C 9 11 4 4 dX1_solve_9 rfl rfl ?_
    refine go_bipush C 11 13 (6) dX1_solve_11 (by decide) rfl ?_
    refine go_icmp_ge C 13 16 55 dX1_solve_13 (by decide) rfl (fun hc => ?_) (fun hc => ?_)
    · have h := h.1 hc
      exact go_perm [0] rfl (hk _ _ h)
    · have h := h.2 hc
      refine go_iload_n C 16 17 3 3 dX1_solve_16 rfl rfl rfl ?_
      refine go_iload C 17 19 4 4 dX1_solve_17 rfl rfl ?_
      refine go_siN C 19 22 0 0 [.int p3, .int v4] (c_X5_isIn _ _ _  h) n375_ k289_ k50_ k288_ qX5_isIn mhX5_isIn (by decide) (by decide) rfl rfl rfl rfl (Nat.le_of_ble_eq_true rfl) rfl rfl dX1_solve_19 (fun r2 S1 h => ?_)
      refine go_if_eq C 22 25 43 dX1_solve_22 (by decide) rfl (fun hc => ?_) (fun hc => ?_)
      · have h := h.1 hc
        refine go_aload_n C 43 44 0 0 dX1_solve_43 rfl rfl rfl ?_
        refine go_iload C 44 46 4 4 dX1_solve_44 rfl rfl ?_
        refine go_vv C 46 49 0 0 [.int v4] 3 (lu3 ex) rfl (c_X1_fillIdleRow _ _  h) k382_ k385_ k54_ k384_ k21_ qX1_fillIdleRow mhX1_fillIdleRow (by decide) (by decide) rfl rfl rfl rfl (Nat.le_of_ble_eq_true rfl) rfl rfl dX1_solve_46 (fun S3 h => ?_)
        refine go_iinc C 49 52 4 4 (v4 + 1) [(4, .int _), (0, .ref _), (1, .ref _), (2, .int _), (3, .int _)] dX1_solve_49 rfl rfl (by decide) rfl rfl ?_
        refine go_goto C 52 9 dX1_solve_52 (by decide) ?_
        exact go_perm [1, 2, 3, 4, 0] rfl (ih _ _ h)
      · have h := h.2 hc
        refine go_aload_n C 25 26 0 0 dX1_solve_25 rfl rfl rfl ?_
        refine go_aload_n C 26 27 1 1 dX1_solve_26 rfl rfl rfl ?_
        refine go_iload C 27 29 4 4 dX1_solve_27 rfl rfl ?_
        refine go_aload_n C 29 30 1 1 dX1_solve_29 rfl rfl rfl ?_
        refine go_iload C 30 32 4 4 dX1_solve_30 rfl rfl ?_
        refine go_iload_n C 32 33 2 2 dX1_solve_32 rfl rfl rfl ?_
        refine go_iload_n C 33 34 3 3 dX1_solve_33 rfl rfl rfl ?_
        refine go_viN C 34 37 0 0 [.int v4, .int p2, .int p3] 1 (lu1 ex) rfl (c_X4_unitsOf _ _ _ _  h) n376_ k343_ k51_ k342_ k15_ qX4_unitsOf mhX4_unitsOf (by decide) (by decide) rfl rfl rfl rfl (Nat.le_of_ble_eq_true rfl) rfl rfl dX1_solve_34 (fun r6 S5 h => ?_)
        refine go_vv C 37 40 0 0 [.ref (ad 1), .int v4, .int r6] 3 (lu3 ex) rfl (c_X1_fillRow _ _ _  h) k377_ k380_ k54_ k379_ k20_ qX1_fillRow mhX1_fillRow (by decide) (by decide) rfl rfl rfl rfl (Nat.le_of_ble_eq_true rfl) rfl rfl dX1_solve_37 (fun S7 h => ?_)
        refine go_goto C 40 49 dX1_solve_40 (by decide) ?_
        refine go_iinc C 49 52 4 4 (v4 + 1) [(4, .int _), (0, .ref _), (1, .ref _), (2, .int _), (3, .int _)] dX1_solve_49 rfl rfl (by decide) rfl rfl ?_
        refine go_goto C 52 9 dX1_solve_52 (by decide) ?_
        exact go_perm [1, 2, 3, 4, 0] rfl (ih _ _ h)
def wB_X1_solve_67 (k rec : Int32 → St → Prop) (v4 : Int32) (S : St) : Prop :=
  ((6 : Int32) ≤ v4 → k v4 S) ∧ (¬ ((6 : Int32) ≤ v4) → wp_X1_determinant S v4 (fun (r2 : Int64) (S1 : St) => (vp_in v4 6) ∧ (∀ S4 : St, S4 = uJ S1 15 v4.toNatClampNeg r2 → rec (v4 + 1) S4)))
def wL_X1_solve_67 (k : Int32 → St → Prop) : Nat → Int32 → St → Prop
  | 0, _, _ => False
  | n + 1, v4, S => wB_X1_solve_67 k (wL_X1_solve_67 k n) v4 S
set_option maxHeartbeats 4000000 in
set_option maxRecDepth 100000 in
theorem L_X1_solve_67 {p : Program} {l : Launch} {e : Env} {s : State} {m : MethodId} {args : Array Value} {below : List Frame} {meth : Method} {c : Code} {D : va_G} {cA : Nat → ClassId} {ad : Nat → Nat} {ex : List Lay} {Q : State → Prop} (C : Cx p s m args meth c cX1_solve 5 none RX1 D cA ad (LU ++ ex))   {k : Int32 → St → Prop} (hk : ∀ (v4 : Int32) (S : St), k v4 S → Go p l e rX1_solve s m args below meth c D cA ad (LU ++ ex) 5 0 0 Q S 93 [] []) : ∀ (n : Nat) (v4 : Int32) (S : St), wL_X1_solve_67 k n v4 S → Go p l e rX1_solve s m args below meth c D cA ad (LU ++ ex) 5 0 0 Q S 67 [(0, .ref (ad 3)), (4, .int v4)] [] := by
  intro n
  induction n with
  | zero => intro v4 S h; exact h.elim
  | succ n ih =>
    intro v4 S h
    replace h : wB_X1_solve_67 k (wL_X1_solve_67 k n) v4 S := h
    unfold wB_X1_solve_67 at h
    refine go_iload C 67 69 4 1 dX1_solve_67 rfl rfl ?_
    refine go_bipush C 69 71 (6) dX1_solve_69 (by decide) rfl ?_
    refine go_icmp_ge C 71 74 93 dX1_solve_71 (by decide) rfl (fun hc => ?_) (fun hc => ?_)
    · have h := h.1 hc
      exact go_perm [] rfl (hk _ _ h)
    · have h := h.2 hc
      refine go_aload_n C 74 75 0 0 dX1_solve_74 rfl rfl rfl ?_
      refine go_getR C 75 78 iw1 3 (lu3 ex) rfl 0 (by decide) k132_ rfl rfl dX1_solve_75 rfl ?_
      refine go_iload C 78 80 4 1 dX1_solve_78 rfl rfl ?_
      refine go_aload_n C 80 81 0 0 dX1_solve_80 rfl rfl rfl ?_
      refine go_iload C 81 83 4 1 dX1_solve_81 rfl rfl ?_
      refine go_vl C 83 86 0 0 [.int v4] 3 (lu3 ex) rfl (c_X1_determinant _ _  h) k389_ k392_ k54_ k391_ k22_ qX1_determinant mhX1_determinant (by decide) (by decide) rfl rfl rfl rfl (Nat.le_of_ble_eq_true rfl) rfl rfl dX1_solve_83 (fun r2 S1 h => ?_)
      obtain ⟨hi3, h⟩ := h
      refine go_last C 86 87 15 (lu15 ex) hi3 dX1_solve_86 rfl ?_
      refine go_nm (fun S4 hS4 => ?_)
      replace h := h S4 hS4
      refine go_iinc C 87 90 4 1 (v4 + 1) [(4, .int _), (0, .ref _)] dX1_solve_87 rfl rfl (by decide) rfl rfl ?_
      refine go_goto C 90 67 dX1_solve_90 (by decide) ?_
      exact go_perm [1, 0] rfl (ih _ _ h)
def wp_X1_solve (S : St) (a2 : Int32) (post : St → Prop) : Prop :=
  wp_X4_neededBy S a2 (fun (r2 : Int32) (S1 : St) => ∃ fu11, wL_X1_solve_9 a2 r2 (fun (z4 : Int32) (S3 : St) => wp_X1_determinant S3 (-1 : Int32) (fun (r6 : Int64) (S5 : St) => ∀ S7 : St, S7 = uJ S5 3 1 r6 → ∃ fu10, wL_X1_solve_67 (fun (z9 : Int32) (S8 : St) => post S8) fu10 (0 : Int32) S7)) fu11 (0 : Int32) S1)
set_option maxHeartbeats 4000000 in
set_option maxRecDepth 100000 in
theorem c_X1_solve {l : Launch} {D : va_G} {cA : Nat → ClassId} {ad : Nat → Nat} {ex : List Lay} (S : St) (a2 : Int32)  {post : St → Prop} (h : wp_X1_solve S a2 post) : MetV l yX1_solve cX1_solve 5 none rX1_solve D cA ad (LU ++ ex) [.ref (ad 3), .ref (ad 1), .int a2] S post 0 0 := by
  refine MetV.of (by decide) (Nat.le_of_ble_eq_true rfl) ?_
  intro p e s m args below meth c C
  unfold wp_X1_solve at h
  show Go p l e rX1_solve s m args below meth c D cA ad (LU ++ ex) 5 0 0 _ S 0 [(0, .ref (ad 3)), (1, .ref (ad 1)), (2, .int a2)] []
  replace C : Cx p s m args meth c cX1_solve 5 none RX1 D cA ad (LU ++ ex) := C
  refine go_aload_n C 0 1 1 1 dX1_solve_0 rfl rfl rfl ?_
  refine go_iload_n C 1 2 2 2 dX1_solve_1 rfl rfl rfl ?_
  refine go_viN C 2 5 0 0 [.int a2] 1 (lu1 ex) rfl (c_X4_neededBy _ _  h) n374_ k322_ k51_ k321_ k12_ qX4_neededBy mhX4_neededBy (by decide) (by decide) rfl rfl rfl rfl (Nat.le_of_ble_eq_true rfl) rfl rfl dX1_solve_2 (fun r2 S1 h => ?_)
  refine go_istore_n C 5 6 3 [(3, .int _), (0, .ref _), (1, .ref _), (2, .int _)] dX1_solve_5 rfl (by decide) rfl rfl ?_
  refine go_iconst C 6 7 (0) dX1_solve_6 (by decide) rfl ?_
  refine go_istore C 7 9 4 [(4, .int _), (3, .int _), (0, .ref _), (1, .ref _), (2, .int _)] dX1_solve_7 (by decide) rfl rfl ?_
  obtain ⟨fu11, h⟩ := h
  refine go_perm [2, 3, 4, 1, 0] rfl (L_X1_solve_9 C   _ _ (fun z4 S3 h => ?_) _ _ _ h)
  refine go_aload_n C 55 56 0 0 dX1_solve_55 rfl rfl rfl ?_
  refine go_aload_n C 56 57 0 0 dX1_solve_56 rfl rfl rfl ?_
  refine go_iconst C 57 58 (-1) dX1_solve_57 (by decide) rfl ?_
  refine go_vl C 58 61 0 0 [.int (-1 : Int32)] 3 (lu3 ex) rfl (c_X1_determinant _ _  h) k389_ k392_ k54_ k391_ k22_ qX1_determinant mhX1_determinant (by decide) (by decide) rfl rfl rfl rfl (Nat.le_of_ble_eq_true rfl) rfl rfl dX1_solve_58 (fun r6 S5 h => ?_)
  refine go_putJ C 61 64 iw1 3 (lu3 ex) rfl 1 (by decide) tyX1 tyX1_ok nmX1 k135_ rfl rfl rfl (by decide +kernel) dX1_solve_61 rfl ?_
  refine go_nm (fun S7 hS7 => ?_)
  replace h := h S7 hS7
  refine go_iconst C 64 65 (0) dX1_solve_64 (by decide) rfl ?_
  refine go_istore C 65 67 4 [(4, .int _), (0, .ref _)] dX1_solve_65 (by decide) rfl rfl ?_
  obtain ⟨fu10, h⟩ := h
  refine go_perm [1, 0] rfl (L_X1_solve_67 C   (fun z9 S8 h => ?_) _ _ _ h)
  exact go_vret C 93 rfl dX1_solve_93 h
-- BillHouse$Shares.factorial(I)J
theorem qX2_factorial : (parseMethodDescriptor yX2_factorial.desc).map (fun d => d.parameters.length) = some 1 := by decide +kernel
theorem mhX2_factorial : yX2_factorial.cls ≠ "java/lang/invoke/MethodHandle" ∧ yX2_factorial.cls ≠ "java/lang/invoke/VarHandle" := by decide +kernel
def rX2_factorial : Room := { frames := 0, cells := 0, slots := 0, locals := 0 }
def wp_X2_factorial (S : St) (a1 : Int32) (post : Int64 → St → Prop) : Prop :=
  (a1 < 0 → post (1 : Int64) S) ∧ (¬ (a1 < 0) → ((9 : Int32) ≤ a1 → post (1 : Int64) S) ∧ (¬ ((9 : Int32) ≤ a1) → (vp_in a1 9) ∧ (post (factT a1.toNatClampNeg) S)))
set_option maxHeartbeats 4000000 in
set_option maxRecDepth 100000 in
theorem c_X2_factorial {l : Launch} {D : va_G} {cA : Nat → ClassId} {ad : Nat → Nat} {ex : List Lay} (S : St) (a1 : Int32)  {post : Int64 → St → Prop} (h : wp_X2_factorial S a1 post) : MetL l yX2_factorial cX2_factorial 1 (some .long) rX2_factorial D cA ad (LU ++ ex) [.int a1] S post 0 0 := by
  refine MetL.of (by decide) (Nat.le_of_ble_eq_true rfl) ?_
  intro p e s m args below meth c C
  unfold wp_X2_factorial at h
  show Go p l e rX2_factorial s m args below meth c D cA ad (LU ++ ex) 1 0 0 _ S 0 [(0, .int a1)] []
  replace C : Cx p s m args meth c cX2_factorial 1 (some .long) RX2 D cA ad (LU ++ ex) := C
  refine go_iload_n C 0 1 0 0 dX2_factorial_0 rfl rfl rfl ?_
  refine go_if_lt C 1 4 20 dX2_factorial_1 (by decide) rfl (fun hc => ?_) (fun hc => ?_)
  · have h := h.1 hc
    refine go_lconst C 20 21 1 dX2_factorial_20 rfl rfl ?_
    exact go_lret C 21 rfl dX2_factorial_21 h
  · have h := h.2 hc
    refine go_iload_n C 4 5 0 0 dX2_factorial_4 rfl rfl rfl ?_
    refine go_factN C 5 8 n441_ dX2_factorial_5 rfl (fun t1 ht1 => ?_)
    refine go_factLen C 8 9 ht1 dX2_factorial_8 rfl ?_
    refine go_icmp_ge C 9 12 20 dX2_factorial_9 (by decide) rfl (fun hc => ?_) (fun hc => ?_)
    · have h := h.1 hc
      refine go_lconst C 20 21 1 dX2_factorial_20 rfl rfl ?_
      exact go_lret C 21 rfl dX2_factorial_21 h
    · have h := h.2 hc
      refine go_factN C 12 15 n441_ dX2_factorial_12 rfl (fun t2 ht2 => ?_)
      refine go_iload_n C 15 16 0 0 dX2_factorial_15 rfl rfl rfl ?_
      obtain ⟨hi3, h⟩ := h
      refine go_factLd C 16 17 ht2 hi3 dX2_factorial_16 rfl ?_
      refine go_goto C 17 21 dX2_factorial_17 (by decide) ?_
      exact go_lret C 21 rfl dX2_factorial_21 h
-- BillHouse$Shares.numeratorOf(I)J
theorem qX2_numeratorOf : (parseMethodDescriptor yX2_numeratorOf.desc).map (fun d => d.parameters.length) = some 1 := by decide +kernel
theorem mhX2_numeratorOf : yX2_numeratorOf.cls ≠ "java/lang/invoke/MethodHandle" ∧ yX2_numeratorOf.cls ≠ "java/lang/invoke/VarHandle" := by decide +kernel
def rX2_numeratorOf : Room := { frames := 1, cells := 0, slots := 0, locals := 21 }
def wB_X2_numeratorOf_5 (p1 : Int32) (k rec : Int64 → Int32 → St → Prop) (v2 : Int64) (v4 : Int32) (S : St) : Prop :=
  ((8 : Int32) ≤ v4 → k v2 v4 S) ∧ (¬ ((8 : Int32) ≤ v4) → wp_X5_isIn S p1 v4 (fun (r2 : Int32) (S1 : St) => (r2 = 0 → rec v2 (v4 + 1) S1) ∧ (¬ (r2 = 0) → (vp_in v4 8) ∧ (∀ x4 : Int64, x4 = (v2 + (S1.2 19 v4.toNatClampNeg)) → rec x4 (v4 + 1) S1))))
def wL_X2_numeratorOf_5 (p1 : Int32) (k : Int64 → Int32 → St → Prop) : Nat → Int64 → Int32 → St → Prop
  | 0, _, _, _ => False
  | n + 1, v2, v4, S => wB_X2_numeratorOf_5 p1 k (wL_X2_numeratorOf_5 p1 k n) v2 v4 S
set_option maxHeartbeats 4000000 in
set_option maxRecDepth 100000 in
theorem L_X2_numeratorOf_5 {p : Program} {l : Launch} {e : Env} {s : State} {m : MethodId} {args : Array Value} {below : List Frame} {meth : Method} {c : Code} {D : va_G} {cA : Nat → ClassId} {ad : Nat → Nat} {ex : List Lay} {Q : State → Prop} (C : Cx p s m args meth c cX2_numeratorOf 5 (some .long) RX2 D cA ad (LU ++ ex))   (p1 : Int32) {k : Int64 → Int32 → St → Prop} (hk : ∀ (v2 : Int64) (v4 : Int32) (S : St), k v2 v4 S → Go p l e rX2_numeratorOf s m args below meth c D cA ad (LU ++ ex) 5 0 0 Q S 37 [(2, .long v2)] []) : ∀ (n : Nat) (v2 : Int64) (v4 : Int32) (S : St), wL_X2_numeratorOf_5 p1 k n v2 v4 S → Go p l e rX2_numeratorOf s m args below meth c D cA ad (LU ++ ex) 5 0 0 Q S 5 [(0, .ref (ad 4)), (1, .int p1), (2, .long v2), (4, .int v4)] [] := by
  intro n
  induction n with
  | zero => intro v2 v4 S h; exact h.elim
  | succ n ih =>
    intro v2 v4 S h
    replace h : wB_X2_numeratorOf_5 p1 k (wL_X2_numeratorOf_5 p1 k n) v2 v4 S := h
    unfold wB_X2_numeratorOf_5 at h
    refine go_iload C 5 7 4 3 dX2_numeratorOf_5 rfl rfl ?_
    refine go_bipush C 7 9 (8) dX2_numeratorOf_7 (by decide) rfl ?_
    refine go_icmp_ge C 9 12 37 dX2_numeratorOf_9 (by decide) rfl (fun hc => ?_) (fun hc => ?_)
    · have h := h.1 hc
      exact go_perm [2] rfl (hk _ _ _ h)
    · have h := h.2 hc
      refine go_iload_n C 12 13 1 1 dX2_numeratorOf_12 rfl rfl rfl ?_
      refine go_iload C 13 15 4 3 dX2_numeratorOf_13 rfl rfl ?_
      refine go_siN C 15 18 0 0 [.int p1, .int v4] (c_X5_isIn _ _ _  h) n427_ k289_ k50_ k288_ qX5_isIn mhX5_isIn (by decide) (by decide) rfl rfl rfl rfl (Nat.le_of_ble_eq_true rfl) rfl rfl dX2_numeratorOf_15 (fun r2 S1 h => ?_)
      refine go_if_eq C 18 21 31 dX2_numeratorOf_18 (by decide) rfl (fun hc => ?_) (fun hc => ?_)
      · have h := h.1 hc
        refine go_iinc C 31 34 4 3 (v4 + 1) [(4, .int _), (0, .ref _), (1, .int _), (2, .long _)] dX2_numeratorOf_31 rfl rfl (by decide) rfl rfl ?_
        refine go_goto C 34 5 dX2_numeratorOf_34 (by decide) ?_
        exact go_perm [1, 2, 3, 0] rfl (ih _ _ _ h)
      · have h := h.2 hc
        refine go_lload_n C 21 22 2 2 dX2_numeratorOf_21 rfl rfl rfl ?_
        refine go_aload_n C 22 23 0 0 dX2_numeratorOf_22 rfl rfl rfl ?_
        refine go_getR C 23 26 iw2 4 (lu4 ex) rfl 0 (by decide) k159_ rfl rfl dX2_numeratorOf_23 rfl ?_
        refine go_iload C 26 28 4 3 dX2_numeratorOf_26 rfl rfl ?_
        obtain ⟨hi3, h⟩ := h
        refine go_lald C 28 29 19 (lu19 ex) hi3 dX2_numeratorOf_28 rfl ?_
        refine go_ladd C 29 30 dX2_numeratorOf_29 rfl ?_
        refine go_topl (fun x4 hx4 => ?_)
        replace h := h x4 hx4
        refine go_lstore_n C 30 31 2 [(2, .long _), (0, .ref _), (1, .int _), (4, .int _)] dX2_numeratorOf_30 rfl (by decide) rfl rfl ?_
        refine go_iinc C 31 34 4 3 (v4 + 1) [(4, .int _), (2, .long _), (0, .ref _), (1, .int _)] dX2_numeratorOf_31 rfl rfl (by decide) rfl rfl ?_
        refine go_goto C 34 5 dX2_numeratorOf_34 (by decide) ?_
        exact go_perm [2, 3, 1, 0] rfl (ih _ _ _ h)
def wp_X2_numeratorOf (S : St) (a1 : Int32) (post : Int64 → St → Prop) : Prop :=
  ∃ fu4, wL_X2_numeratorOf_5 a1 (fun (z2 : Int64) (z3 : Int32) (S1 : St) => post z2 S1) fu4 (0 : Int64) (0 : Int32) S
set_option maxHeartbeats 4000000 in
set_option maxRecDepth 100000 in
theorem c_X2_numeratorOf {l : Launch} {D : va_G} {cA : Nat → ClassId} {ad : Nat → Nat} {ex : List Lay} (S : St) (a1 : Int32)  {post : Int64 → St → Prop} (h : wp_X2_numeratorOf S a1 post) : MetL l yX2_numeratorOf cX2_numeratorOf 5 (some .long) rX2_numeratorOf D cA ad (LU ++ ex) [.ref (ad 4), .int a1] S post 0 0 := by
  refine MetL.of (by decide) (Nat.le_of_ble_eq_true rfl) ?_
  intro p e s m args below meth c C
  unfold wp_X2_numeratorOf at h
  show Go p l e rX2_numeratorOf s m args below meth c D cA ad (LU ++ ex) 5 0 0 _ S 0 [(0, .ref (ad 4)), (1, .int a1)] []
  replace C : Cx p s m args meth c cX2_numeratorOf 5 (some .long) RX2 D cA ad (LU ++ ex) := C
  refine go_lconst C 0 1 0 dX2_numeratorOf_0 rfl rfl ?_
  refine go_lstore_n C 1 2 2 [(2, .long _), (0, .ref _), (1, .int _)] dX2_numeratorOf_1 rfl (by decide) rfl rfl ?_
  refine go_iconst C 2 3 (0) dX2_numeratorOf_2 (by decide) rfl ?_
  refine go_istore C 3 5 4 [(4, .int _), (2, .long _), (0, .ref _), (1, .int _)] dX2_numeratorOf_3 (by decide) rfl rfl ?_
  obtain ⟨fu4, h⟩ := h
  refine go_perm [2, 3, 1, 0] rfl (L_X2_numeratorOf_5 C   _ (fun z2 z3 S1 h => ?_) _ _ _ _ h)
  refine go_lload_n C 37 38 2 0 dX2_numeratorOf_37 rfl rfl rfl ?_
  exact go_lret C 38 rfl dX2_numeratorOf_38 h
-- BillHouse$Shares.greatestRest()I
theorem qX2_greatestRest : (parseMethodDescriptor yX2_greatestRest.desc).map (fun d => d.parameters.length) = some 0 := by decide +kernel
theorem mhX2_greatestRest : yX2_greatestRest.cls ≠ "java/lang/invoke/MethodHandle" ∧ yX2_greatestRest.cls ≠ "java/lang/invoke/VarHandle" := by decide +kernel
def rX2_greatestRest : Room := { frames := 0, cells := 0, slots := 0, locals := 0 }
def wB_X2_greatestRest_4 (k rec : Int32 → Int32 → St → Prop) (v1 : Int32) (v2 : Int32) (S : St) : Prop :=
  ((8 : Int32) ≤ v2 → k v1 v2 S) ∧ (¬ ((8 : Int32) ≤ v2) → (vp_in v2 8) ∧ ((vp_in v1 8) ∧ (((S.2 20 v2.toNatClampNeg) ≤ (S.2 20 v1.toNatClampNeg) → rec v1 (v2 + 1) S) ∧ (¬ ((S.2 20 v2.toNatClampNeg) ≤ (S.2 20 v1.toNatClampNeg)) → rec v2 (v2 + 1) S))))
def wL_X2_greatestRest_4 (k : Int32 → Int32 → St → Prop) : Nat → Int32 → Int32 → St → Prop
  | 0, _, _, _ => False
  | n + 1, v1, v2, S => wB_X2_greatestRest_4 k (wL_X2_greatestRest_4 k n) v1 v2 S
set_option maxHeartbeats 4000000 in
set_option maxRecDepth 100000 in
theorem L_X2_greatestRest_4 {p : Program} {l : Launch} {e : Env} {s : State} {m : MethodId} {args : Array Value} {below : List Frame} {meth : Method} {c : Code} {D : va_G} {cA : Nat → ClassId} {ad : Nat → Nat} {ex : List Lay} {Q : State → Prop} (C : Cx p s m args meth c cX2_greatestRest 3 (some .int) RX2 D cA ad (LU ++ ex))   {k : Int32 → Int32 → St → Prop} (hk : ∀ (v1 : Int32) (v2 : Int32) (S : St), k v1 v2 S → Go p l e rX2_greatestRest s m args below meth c D cA ad (LU ++ ex) 3 0 0 Q S 34 [(1, .int v1)] []) : ∀ (n : Nat) (v1 : Int32) (v2 : Int32) (S : St), wL_X2_greatestRest_4 k n v1 v2 S → Go p l e rX2_greatestRest s m args below meth c D cA ad (LU ++ ex) 3 0 0 Q S 4 [(0, .ref (ad 4)), (1, .int v1), (2, .int v2)] [] := by
  intro n
  induction n with
  | zero => intro v1 v2 S h; exact h.elim
  | succ n ih =>
    intro v1 v2 S h
    replace h : wB_X2_greatestRest_4 k (wL_X2_greatestRest_4 k n) v1 v2 S := h
    unfold wB_X2_greatestRest_4 at h
    refine go_iload_n C 4 5 2 2 dX2_greatestRest_4 rfl rfl rfl ?_
    refine go_bipush C 5 7 (8) dX2_greatestRest_5 (by decide) rfl ?_
    refine go_icmp_ge C 7 10 34 dX2_greatestRest_7 (by decide) rfl (fun hc => ?_) (fun hc => ?_)
    · have h := h.1 hc
      exact go_perm [1] rfl (hk _ _ _ h)
    · have h := h.2 hc
      refine go_aload_n C 10 11 0 0 dX2_greatestRest_10 rfl rfl rfl ?_
      refine go_getR C 11 14 iw2 4 (lu4 ex) rfl 2 (by decide) k163_ rfl rfl dX2_greatestRest_11 rfl ?_
      refine go_iload_n C 14 15 2 2 dX2_greatestRest_14 rfl rfl rfl ?_
      obtain ⟨hi1, h⟩ := h
      refine go_lald C 15 16 20 (lu20 ex) hi1 dX2_greatestRest_15 rfl ?_
      refine go_aload_n C 16 17 0 0 dX2_greatestRest_16 rfl rfl rfl ?_
      refine go_getR C 17 20 iw2 4 (lu4 ex) rfl 2 (by decide) k163_ rfl rfl dX2_greatestRest_17 rfl ?_
      refine go_iload_n C 20 21 1 1 dX2_greatestRest_20 rfl rfl rfl ?_
      obtain ⟨hi2, h⟩ := h
      refine go_lald C 21 22 20 (lu20 ex) hi2 dX2_greatestRest_21 rfl ?_
      refine go_lcmp_le C 22 26 28 dX2_greatestRest_22 dX2_greatestRest_23 (by decide) rfl (fun hc => ?_) (fun hc => ?_)
      · have h := h.1 hc
        refine go_iinc C 28 31 2 2 (v2 + 1) [(2, .int _), (0, .ref _), (1, .int _)] dX2_greatestRest_28 rfl rfl (by decide) rfl rfl ?_
        refine go_goto C 31 4 dX2_greatestRest_31 (by decide) ?_
        exact go_perm [1, 2, 0] rfl (ih _ _ _ h)
      · have h := h.2 hc
        refine go_iload_n C 26 27 2 2 dX2_greatestRest_26 rfl rfl rfl ?_
        refine go_istore_n C 27 28 1 [(1, .int _), (0, .ref _), (2, .int _)] dX2_greatestRest_27 rfl (by decide) rfl rfl ?_
        refine go_iinc C 28 31 2 2 (v2 + 1) [(2, .int _), (1, .int _), (0, .ref _)] dX2_greatestRest_28 rfl rfl (by decide) rfl rfl ?_
        refine go_goto C 31 4 dX2_greatestRest_31 (by decide) ?_
        exact go_perm [2, 1, 0] rfl (ih _ _ _ h)
def wp_X2_greatestRest (S : St) (post : Int32 → St → Prop) : Prop :=
  ∃ fu4, wL_X2_greatestRest_4 (fun (z2 : Int32) (z3 : Int32) (S1 : St) => post z2 S1) fu4 (0 : Int32) (1 : Int32) S
set_option maxHeartbeats 4000000 in
set_option maxRecDepth 100000 in
theorem c_X2_greatestRest {l : Launch} {D : va_G} {cA : Nat → ClassId} {ad : Nat → Nat} {ex : List Lay} (S : St)  {post : Int32 → St → Prop} (h : wp_X2_greatestRest S post) : MetI l yX2_greatestRest cX2_greatestRest 3 (some .int) rX2_greatestRest D cA ad (LU ++ ex) [.ref (ad 4)] S post 0 0 := by
  refine MetI.of (by decide) (Nat.le_of_ble_eq_true rfl) ?_
  intro p e s m args below meth c C
  unfold wp_X2_greatestRest at h
  show Go p l e rX2_greatestRest s m args below meth c D cA ad (LU ++ ex) 3 0 0 _ S 0 [(0, .ref (ad 4))] []
  replace C : Cx p s m args meth c cX2_greatestRest 3 (some .int) RX2 D cA ad (LU ++ ex) := C
  refine go_iconst C 0 1 (0) dX2_greatestRest_0 (by decide) rfl ?_
  refine go_istore_n C 1 2 1 [(1, .int _), (0, .ref _)] dX2_greatestRest_1 rfl (by decide) rfl rfl ?_
  refine go_iconst C 2 3 (1) dX2_greatestRest_2 (by decide) rfl ?_
  refine go_istore_n C 3 4 2 [(2, .int _), (1, .int _), (0, .ref _)] dX2_greatestRest_3 rfl (by decide) rfl rfl ?_
  obtain ⟨fu4, h⟩ := h
  refine go_perm [2, 1, 0] rfl (L_X2_greatestRest_4 C   (fun z2 z3 S1 h => ?_) _ _ _ _ h)
  refine go_iload_n C 34 35 1 0 dX2_greatestRest_34 rfl rfl rfl ?_
  exact go_iret C 35 rfl dX2_greatestRest_35 h
-- BillHouse$Shares.partByUse(LBillHouse$Works;LBillHouse$Prices;I)V
theorem qX2_partByUse : (parseMethodDescriptor yX2_partByUse.desc).map (fun d => d.parameters.length) = some 3 := by decide +kernel
theorem mhX2_partByUse : yX2_partByUse.cls ≠ "java/lang/invoke/MethodHandle" ∧ yX2_partByUse.cls ≠ "java/lang/invoke/VarHandle" := by decide +kernel
def rX2_partByUse : Room := { frames := 1, cells := 0, slots := 0, locals := 21 }
def wB_X2_partByUse_24 (p3 : Int32) (p4 : Int32) (k rec : Int64 → Int32 → St → Prop) (v5 : Int64) (v7 : Int32) (S : St) : Prop :=
  ((6 : Int32) ≤ v7 → k v5 v7 S) ∧ (¬ ((6 : Int32) ≤ v7) → (vp_in v7 6) ∧ ((vp_in p4 8) ∧ ((vp_in v7 6) ∧ (∀ x4 : Int64, x4 = (v5 + (((S.1 (43 + v7.toNatClampNeg) p4.toNatClampNeg).toInt64) * (S.2 15 v7.toNatClampNeg))) → rec x4 (v7 + 1) S))))
def wL_X2_partByUse_24 (p3 : Int32) (p4 : Int32) (k : Int64 → Int32 → St → Prop) : Nat → Int64 → Int32 → St → Prop
  | 0, _, _, _ => False
  | n + 1, v5, v7, S => wB_X2_partByUse_24 p3 p4 k (wL_X2_partByUse_24 p3 p4 k n) v5 v7 S
set_option maxHeartbeats 4000000 in
set_option maxRecDepth 100000 in
theorem L_X2_partByUse_24 {p : Program} {l : Launch} {e : Env} {s : State} {m : MethodId} {args : Array Value} {below : List Frame} {meth : Method} {c : Code} {D : va_G} {cA : Nat → ClassId} {ad : Nat → Nat} {ex : List Lay} {Q : State → Prop} (C : Cx p s m args meth c cX2_partByUse 8 none RX2 D cA ad (LU ++ ex))   (p3 : Int32) (p4 : Int32) {k : Int64 → Int32 → St → Prop} (hk : ∀ (v5 : Int64) (v7 : Int32) (S : St), k v5 v7 S → Go p l e rX2_partByUse s m args below meth c D cA ad (LU ++ ex) 8 0 0 Q S 61 [(0, .ref (ad 4)), (1, .ref (ad 1)), (2, .ref (ad 3)), (3, .int p3), (4, .int p4), (5, .long v5)] []) : ∀ (n : Nat) (v5 : Int64) (v7 : Int32) (S : St), wL_X2_partByUse_24 p3 p4 k n v5 v7 S → Go p l e rX2_partByUse s m args below meth c D cA ad (LU ++ ex) 8 0 0 Q S 24 [(0, .ref (ad 4)), (1, .ref (ad 1)), (2, .ref (ad 3)), (3, .int p3), (4, .int p4), (5, .long v5), (7, .int v7)] [] := by
  intro n
  induction n with
  | zero => intro v5 v7 S h; exact h.elim
  | succ n ih =>
    intro v5 v7 S h
    replace h : wB_X2_partByUse_24 p3 p4 k (wL_X2_partByUse_24 p3 p4 k n) v5 v7 S := h
    unfold wB_X2_partByUse_24 at h
    refine go_iload C 24 26 7 6 dX2_partByUse_24 rfl rfl ?_
    refine go_bipush C 26 28 (6) dX2_partByUse_26 (by decide) rfl ?_
    refine go_icmp_ge C 28 31 61 dX2_partByUse_28 (by decide) rfl (fun hc => ?_) (fun hc => ?_)
    · have h := h.1 hc
      exact go_perm [0, 1, 2, 3, 4, 5] rfl (hk _ _ _ h)
    · have h := h.2 hc
      refine go_lload C 31 33 5 5 dX2_partByUse_31 rfl rfl ?_
      refine go_aload_n C 33 34 1 1 dX2_partByUse_33 rfl rfl rfl ?_
      refine go_getRN C 34 37 iw4 1 (lu1 ex) rfl 3 (by decide) n84_ rfl rfl dX2_partByUse_34 rfl ?_
      refine go_iload C 37 39 7 6 dX2_partByUse_37 rfl rfl ?_
      obtain ⟨hi1, h⟩ := h
      refine go_aald3 C 39 40 10 (lu10 ex) hi1 dX2_partByUse_39 rfl ?_
      refine go_iload C 40 42 4 4 dX2_partByUse_40 rfl rfl ?_
      obtain ⟨hi2, h⟩ := h
      refine go_iald C 42 43 (43 + v7.toNatClampNeg) (lg43 ex (vi_lt hi1)) hi2 dX2_partByUse_42 rfl ?_
      refine go_i2l C 43 44 dX2_partByUse_43 rfl ?_
      refine go_aload_n C 44 45 2 2 dX2_partByUse_44 rfl rfl rfl ?_
      refine go_getRN C 45 48 iw1 3 (lu3 ex) rfl 0 (by decide) n133_ rfl rfl dX2_partByUse_45 rfl ?_
      refine go_iload C 48 50 7 6 dX2_partByUse_48 rfl rfl ?_
      obtain ⟨hi3, h⟩ := h
      refine go_lald C 50 51 15 (lu15 ex) hi3 dX2_partByUse_50 rfl ?_
      refine go_lmul C 51 52 dX2_partByUse_51 rfl ?_
      refine go_ladd C 52 53 dX2_partByUse_52 rfl ?_
      refine go_topl (fun x4 hx4 => ?_)
      replace h := h x4 hx4
      refine go_lstore C 53 55 5 [(5, .long _), (0, .ref _), (1, .ref _), (2, .ref _), (3, .int _), (4, .int _), (7, .int _)] dX2_partByUse_53 (by decide) rfl rfl ?_
      refine go_iinc C 55 58 7 6 (v7 + 1) [(7, .int _), (5, .long _), (0, .ref _), (1, .ref _), (2, .ref _), (3, .int _), (4, .int _)] dX2_partByUse_55 rfl rfl (by decide) rfl rfl ?_
      refine go_goto C 58 24 dX2_partByUse_58 (by decide) ?_
      exact go_perm [2, 3, 4, 5, 6, 1, 0] rfl (ih _ _ _ h)
def wB_X2_partByUse_11 (p3 : Int32) (k rec : Int32 → St → Prop) (v4 : Int32) (S : St) : Prop :=
  ((8 : Int32) ≤ v4 → k v4 S) ∧ (¬ ((8 : Int32) ≤ v4) → ∃ fu10, wL_X2_partByUse_24 p3 v4 (fun (z2 : Int64) (z3 : Int32) (S1 : St) => wp_X5_isIn S1 p3 v4 (fun (r5 : Int32) (S4 : St) => (r5 = 0 → (vp_in v4 8) ∧ (∀ S7 : St, S7 = uJ S4 19 v4.toNatClampNeg (0 : Int64) → rec (v4 + 1) S7)) ∧ (¬ (r5 = 0) → (vp_in v4 8) ∧ (∀ S9 : St, S9 = uJ S4 19 v4.toNatClampNeg z2 → rec (v4 + 1) S9)))) fu10 (0 : Int64) (0 : Int32) S)
def wL_X2_partByUse_11 (p3 : Int32) (k : Int32 → St → Prop) : Nat → Int32 → St → Prop
  | 0, _, _ => False
  | n + 1, v4, S => wB_X2_partByUse_11 p3 k (wL_X2_partByUse_11 p3 k n) v4 S
set_option maxHeartbeats 4000000 in
set_option maxRecDepth 100000 in
theorem L_X2_partByUse_11 {p : Program} {l : Launch} {e : Env} {s : State} {m : MethodId} {args : Array Value} {below : List Frame} {meth : Method} {c : Code} {D : va_G} {cA : Nat → ClassId} {ad : Nat → Nat} {ex : List Lay} {Q : State → Prop} (C : Cx p s m args meth c cX2_partByUse 8 none RX2 D cA ad (LU ++ ex))   (p3 : Int32) {k : Int32 → St → Prop} (hk : ∀ (v4 : Int32) (S : St), k v4 S → Go p l e rX2_partByUse s m args below meth c D cA ad (LU ++ ex) 8 0 0 Q S 89 [] []) : ∀ (n : Nat) (v4 : Int32) (S : St), wL_X2_partByUse_11 p3 k n v4 S → Go p l e rX2_partByUse s m args below meth c D cA ad (LU ++ ex) 8 0 0 Q S 11 [(0, .ref (ad 4)), (1, .ref (ad 1)), (2, .ref (ad 3)), (3, .int p3), (4, .int v4)] [] := by
  intro n
  induction n with
  | zero => intro v4 S h; exact h.elim
  | succ n ih =>
    intro v4 S h
    replace h : wB_X2_partByUse_11 p3 k (wL_X2_partByUse_11 p3 k n) v4 S := h
    unfold wB_X2_partByUse_11 at h
    refine go_iload C 11 13 4 4 dX2_partByUse_11 rfl rfl ?_
    refine go_bipush C 13 15 (8) dX2_partByUse_13 (by decide) rfl ?_
    refine go_icmp_ge C 15 18 89 dX2_partByUse_15 (by decide) rfl (fun hc => ?_) (fun hc => ?_)
    · have h := h.1 hc
      exact go_perm [] rfl (hk _ _ h)
    · have h := h.2 hc
      refine go_lconst C 18 19 0 dX2_partByUse_18 rfl rfl ?_
      refine go_lstore C 19 21 5 [(5, .long _), (0, .ref _), (1, .ref _), (2, .ref _), (3, .int _), (4, .int _)] dX2_partByUse_19 (by decide) rfl rfl ?_
      refine go_iconst C 21 22 (0) dX2_partByUse_21 (by decide) rfl ?_
      refine go_istore C 22 24 7 [(7, .int _), (5, .long _), (0, .ref _), (1, .ref _), (2, .ref _), (3, .int _), (4, .int _)] dX2_partByUse_22 (by decide) rfl rfl ?_
      obtain ⟨fu10, h⟩ := h
      refine go_perm [2, 3, 4, 5, 6, 1, 0] rfl (L_X2_partByUse_24 C   _ _ (fun z2 z3 S1 h => ?_) _ _ _ _ h)
      refine go_aload_n C 61 62 0 0 dX2_partByUse_61 rfl rfl rfl ?_
      refine go_getR C 62 65 iw2 4 (lu4 ex) rfl 0 (by decide) k159_ rfl rfl dX2_partByUse_62 rfl ?_
      refine go_iload C 65 67 4 4 dX2_partByUse_65 rfl rfl ?_
      refine go_iload_n C 67 68 3 3 dX2_partByUse_67 rfl rfl rfl ?_
      refine go_iload C 68 70 4 4 dX2_partByUse_68 rfl rfl ?_
      refine go_siN C 70 73 0 0 [.int p3, .int v4] (c_X5_isIn _ _ _  h) n427_ k289_ k50_ k288_ qX5_isIn mhX5_isIn (by decide) (by decide) rfl rfl rfl rfl (Nat.le_of_ble_eq_true rfl) rfl rfl dX2_partByUse_70 (fun r5 S4 h => ?_)
      refine go_if_eq C 73 76 81 dX2_partByUse_73 (by decide) rfl (fun hc => ?_) (fun hc => ?_)
      · have h := h.1 hc
        refine go_lconst C 81 82 0 dX2_partByUse_81 rfl rfl ?_
        obtain ⟨hi6, h⟩ := h
        refine go_last C 82 83 19 (lu19 ex) hi6 dX2_partByUse_82 rfl ?_
        refine go_nm (fun S7 hS7 => ?_)
        replace h := h S7 hS7
        refine go_iinc C 83 86 4 4 (v4 + 1) [(4, .int _), (0, .ref _), (1, .ref _), (2, .ref _), (3, .int _), (5, .long _)] dX2_partByUse_83 rfl rfl (by decide) rfl rfl ?_
        refine go_goto C 86 11 dX2_partByUse_86 (by decide) ?_
        exact go_perm [1, 2, 3, 4, 0] rfl (ih _ _ h)
      · have h := h.2 hc
        refine go_lload C 76 78 5 5 dX2_partByUse_76 rfl rfl ?_
        refine go_goto C 78 82 dX2_partByUse_78 (by decide) ?_
        obtain ⟨hi8, h⟩ := h
        refine go_last C 82 83 19 (lu19 ex) hi8 dX2_partByUse_82 rfl ?_
        refine go_nm (fun S9 hS9 => ?_)
        replace h := h S9 hS9
        refine go_iinc C 83 86 4 4 (v4 + 1) [(4, .int _), (0, .ref _), (1, .ref _), (2, .ref _), (3, .int _), (5, .long _)] dX2_partByUse_83 rfl rfl (by decide) rfl rfl ?_
        refine go_goto C 86 11 dX2_partByUse_86 (by decide) ?_
        exact go_perm [1, 2, 3, 4, 0] rfl (ih _ _ h)
def wp_X2_partByUse (S : St) (a3 : Int32) (post : St → Prop) : Prop :=
  ∀ S1 : St, S1 = uJ S 4 1 (S.2 3 1) → ∃ fu4, wL_X2_partByUse_11 a3 (fun (z3 : Int32) (S2 : St) => post S2) fu4 (0 : Int32) S1
set_option maxHeartbeats 4000000 in
set_option maxRecDepth 100000 in
theorem c_X2_partByUse {l : Launch} {D : va_G} {cA : Nat → ClassId} {ad : Nat → Nat} {ex : List Lay} (S : St) (a3 : Int32)  {post : St → Prop} (h : wp_X2_partByUse S a3 post) : MetV l yX2_partByUse cX2_partByUse 8 none rX2_partByUse D cA ad (LU ++ ex) [.ref (ad 4), .ref (ad 1), .ref (ad 3), .int a3] S post 0 0 := by
  refine MetV.of (by decide) (Nat.le_of_ble_eq_true rfl) ?_
  intro p e s m args below meth c C
  unfold wp_X2_partByUse at h
  show Go p l e rX2_partByUse s m args below meth c D cA ad (LU ++ ex) 8 0 0 _ S 0 [(0, .ref (ad 4)), (1, .ref (ad 1)), (2, .ref (ad 3)), (3, .int a3)] []
  replace C : Cx p s m args meth c cX2_partByUse 8 none RX2 D cA ad (LU ++ ex) := C
  refine go_aload_n C 0 1 0 0 dX2_partByUse_0 rfl rfl rfl ?_
  refine go_aload_n C 1 2 2 2 dX2_partByUse_1 rfl rfl rfl ?_
  refine go_getJN C 2 5 iw1 3 (lu3 ex) rfl 1 (by decide) n136_ rfl rfl dX2_partByUse_2 rfl ?_
  refine go_putJ C 5 8 iw2 4 (lu4 ex) rfl 1 (by decide) tyX2 tyX2_ok nmX2 k161_ rfl rfl rfl (by decide +kernel) dX2_partByUse_5 rfl ?_
  refine go_nm (fun S1 hS1 => ?_)
  replace h := h S1 hS1
  refine go_iconst C 8 9 (0) dX2_partByUse_8 (by decide) rfl ?_
  refine go_istore C 9 11 4 [(4, .int _), (0, .ref _), (1, .ref _), (2, .ref _), (3, .int _)] dX2_partByUse_9 (by decide) rfl rfl ?_
  obtain ⟨fu4, h⟩ := h
  refine go_perm [1, 2, 3, 4, 0] rfl (L_X2_partByUse_11 C   _ (fun z3 S2 h => ?_) _ _ _ h)
  exact go_vret C 89 rfl dX2_partByUse_89 h
-- BillHouse$Shares.partByAlone(LBillHouse$Works;I)V
theorem qX2_partByAlone : (parseMethodDescriptor yX2_partByAlone.desc).map (fun d => d.parameters.length) = some 2 := by decide +kernel
theorem mhX2_partByAlone : yX2_partByAlone.cls ≠ "java/lang/invoke/MethodHandle" ∧ yX2_partByAlone.cls ≠ "java/lang/invoke/VarHandle" := by decide +kernel
def rX2_partByAlone : Room := { frames := 3, cells := 0, slots := 0, locals := 70 }
def wB_X2_partByAlone_13 (p2 : Int32) (p3 : Int64) (k rec : Int64 → Int32 → St → Prop) (v5 : Int64) (v7 : Int32) (S : St) : Prop :=
  ((8 : Int32) ≤ v7 → k v5 v7 S) ∧ (¬ ((8 : Int32) ≤ v7) → wp_X5_isIn S p2 v7 (fun (r2 : Int32) (S1 : St) => (r2 = 0 → ∀ x3 : Int64, x3 = (v5 + (0 : Int64)) → (vp_in v7 8) ∧ (∀ S5 : St, S5 = uJ S1 19 v7.toNatClampNeg (p3 * (0 : Int64)) → rec x3 (v7 + 1) S5)) ∧ (¬ (r2 = 0) → wp_X4_costOf S1 ((1 : Int32) <<< (v7 &&& 31)) (fun (r7 : Int32) (S6 : St) => ∀ x8 : Int64, x8 = r7.toInt64 → ∀ x9 : Int64, x9 = (v5 + x8) → (vp_in v7 8) ∧ (∀ S11 : St, S11 = uJ S6 19 v7.toNatClampNeg (p3 * x8) → rec x9 (v7 + 1) S11)))))
def wL_X2_partByAlone_13 (p2 : Int32) (p3 : Int64) (k : Int64 → Int32 → St → Prop) : Nat → Int64 → Int32 → St → Prop
  | 0, _, _, _ => False
  | n + 1, v5, v7, S => wB_X2_partByAlone_13 p2 p3 k (wL_X2_partByAlone_13 p2 p3 k n) v5 v7 S
set_option maxHeartbeats 4000000 in
set_option maxRecDepth 100000 in
theorem L_X2_partByAlone_13 {p : Program} {l : Launch} {e : Env} {s : State} {m : MethodId} {args : Array Value} {below : List Frame} {meth : Method} {c : Code} {D : va_G} {cA : Nat → ClassId} {ad : Nat → Nat} {ex : List Lay} {Q : State → Prop} (C : Cx p s m args meth c cX2_partByAlone 10 none RX2 D cA ad (LU ++ ex))   (p2 : Int32) (p3 : Int64) {k : Int64 → Int32 → St → Prop} (hk : ∀ (v5 : Int64) (v7 : Int32) (S : St), k v5 v7 S → Go p l e rX2_partByAlone s m args below meth c D cA ad (LU ++ ex) 10 0 0 Q S 68 [(0, .ref (ad 4)), (5, .long v5)] []) : ∀ (n : Nat) (v5 : Int64) (v7 : Int32) (S : St), wL_X2_partByAlone_13 p2 p3 k n v5 v7 S → Go p l e rX2_partByAlone s m args below meth c D cA ad (LU ++ ex) 10 0 0 Q S 13 [(0, .ref (ad 4)), (1, .ref (ad 1)), (2, .int p2), (3, .long p3), (5, .long v5), (7, .int v7)] [] := by
  intro n
  induction n with
  | zero => intro v5 v7 S h; exact h.elim
  | succ n ih =>
    intro v5 v7 S h
    replace h : wB_X2_partByAlone_13 p2 p3 k (wL_X2_partByAlone_13 p2 p3 k n) v5 v7 S := h
    unfold wB_X2_partByAlone_13 at h
    refine go_iload C 13 15 7 5 dX2_partByAlone_13 rfl rfl ?_
    refine go_bipush C 15 17 (8) dX2_partByAlone_15 (by decide) rfl ?_
    refine go_icmp_ge C 17 20 68 dX2_partByAlone_17 (by decide) rfl (fun hc => ?_) (fun hc => ?_)
    · have h := h.1 hc
      exact go_perm [0, 4] rfl (hk _ _ _ h)
    · have h := h.2 hc
      refine go_iload_n C 20 21 2 2 dX2_partByAlone_20 rfl rfl rfl ?_
      refine go_iload C 21 23 7 5 dX2_partByAlone_21 rfl rfl ?_
      refine go_siN C 23 26 0 0 [.int p2, .int v7] (c_X5_isIn _ _ _  h) n427_ k289_ k50_ k288_ qX5_isIn mhX5_isIn (by decide) (by decide) rfl rfl rfl rfl (Nat.le_of_ble_eq_true rfl) rfl rfl dX2_partByAlone_23 (fun r2 S1 h => ?_)
      refine go_if_eq C 26 29 41 dX2_partByAlone_26 (by decide) rfl (fun hc => ?_) (fun hc => ?_)
      · have h := h.1 hc
        refine go_lconst C 41 42 0 dX2_partByAlone_41 rfl rfl ?_
        refine go_lstore C 42 44 8 [(8, .long _), (0, .ref _), (1, .ref _), (2, .int _), (3, .long _), (5, .long _), (7, .int _)] dX2_partByAlone_42 (by decide) rfl rfl ?_
        refine go_lload C 44 46 5 5 dX2_partByAlone_44 rfl rfl ?_
        refine go_lload C 46 48 8 0 dX2_partByAlone_46 rfl rfl ?_
        refine go_ladd C 48 49 dX2_partByAlone_48 rfl ?_
        refine go_topl (fun x3 hx3 => ?_)
        replace h := h x3 hx3
        refine go_lstore C 49 51 5 [(5, .long _), (8, .long _), (0, .ref _), (1, .ref _), (2, .int _), (3, .long _), (7, .int _)] dX2_partByAlone_49 (by decide) rfl rfl ?_
        refine go_aload_n C 51 52 0 2 dX2_partByAlone_51 rfl rfl rfl ?_
        refine go_getR C 52 55 iw2 4 (lu4 ex) rfl 0 (by decide) k159_ rfl rfl dX2_partByAlone_52 rfl ?_
        refine go_iload C 55 57 7 6 dX2_partByAlone_55 rfl rfl ?_
        refine go_lload_n C 57 58 3 5 dX2_partByAlone_57 rfl rfl rfl ?_
        refine go_lload C 58 60 8 1 dX2_partByAlone_58 rfl rfl ?_
        refine go_lmul C 60 61 dX2_partByAlone_60 rfl ?_
        obtain ⟨hi4, h⟩ := h
        refine go_last C 61 62 19 (lu19 ex) hi4 dX2_partByAlone_61 rfl ?_
        refine go_nm (fun S5 hS5 => ?_)
        replace h := h S5 hS5
        refine go_iinc C 62 65 7 6 (v7 + 1) [(7, .int _), (5, .long _), (8, .long _), (0, .ref _), (1, .ref _), (2, .int _), (3, .long _)] dX2_partByAlone_62 rfl rfl (by decide) rfl rfl ?_
        refine go_goto C 65 13 dX2_partByAlone_65 (by decide) ?_
        exact go_perm [3, 4, 5, 6, 1, 0] rfl (ih _ _ _ h)
      · have h := h.2 hc
        refine go_aload_n C 29 30 1 1 dX2_partByAlone_29 rfl rfl rfl ?_
        refine go_iconst C 30 31 (1) dX2_partByAlone_30 (by decide) rfl ?_
        refine go_iload C 31 33 7 5 dX2_partByAlone_31 rfl rfl ?_
        refine go_ishl C 33 34 dX2_partByAlone_33 rfl ?_
        refine go_viN C 34 37 0 0 [.int ((1 : Int32) <<< (v7 &&& 31))] 1 (lu1 ex) rfl (c_X4_costOf _ _  h) n432_ k355_ k51_ k354_ k17_ qX4_costOf mhX4_costOf (by decide) (by decide) rfl rfl rfl rfl (Nat.le_of_ble_eq_true rfl) rfl rfl dX2_partByAlone_34 (fun r7 S6 h => ?_)
        refine go_i2l C 37 38 dX2_partByAlone_37 rfl ?_
        refine go_goto C 38 42 dX2_partByAlone_38 (by decide) ?_
        refine go_topl (fun x8 hx8 => ?_)
        replace h := h x8 hx8
        refine go_lstore C 42 44 8 [(8, .long _), (0, .ref _), (1, .ref _), (2, .int _), (3, .long _), (5, .long _), (7, .int _)] dX2_partByAlone_42 (by decide) rfl rfl ?_
        refine go_lload C 44 46 5 5 dX2_partByAlone_44 rfl rfl ?_
        refine go_lload C 46 48 8 0 dX2_partByAlone_46 rfl rfl ?_
        refine go_ladd C 48 49 dX2_partByAlone_48 rfl ?_
        refine go_topl (fun x9 hx9 => ?_)
        replace h := h x9 hx9
        refine go_lstore C 49 51 5 [(5, .long _), (8, .long _), (0, .ref _), (1, .ref _), (2, .int _), (3, .long _), (7, .int _)] dX2_partByAlone_49 (by decide) rfl rfl ?_
        refine go_aload_n C 51 52 0 2 dX2_partByAlone_51 rfl rfl rfl ?_
        refine go_getR C 52 55 iw2 4 (lu4 ex) rfl 0 (by decide) k159_ rfl rfl dX2_partByAlone_52 rfl ?_
        refine go_iload C 55 57 7 6 dX2_partByAlone_55 rfl rfl ?_
        refine go_lload_n C 57 58 3 5 dX2_partByAlone_57 rfl rfl rfl ?_
        refine go_lload C 58 60 8 1 dX2_partByAlone_58 rfl rfl ?_
        refine go_lmul C 60 61 dX2_partByAlone_60 rfl ?_
        obtain ⟨hi10, h⟩ := h
        refine go_last C 61 62 19 (lu19 ex) hi10 dX2_partByAlone_61 rfl ?_
        refine go_nm (fun S11 hS11 => ?_)
        replace h := h S11 hS11
        refine go_iinc C 62 65 7 6 (v7 + 1) [(7, .int _), (5, .long _), (8, .long _), (0, .ref _), (1, .ref _), (2, .int _), (3, .long _)] dX2_partByAlone_62 rfl rfl (by decide) rfl rfl ?_
        refine go_goto C 65 13 dX2_partByAlone_65 (by decide) ?_
        exact go_perm [3, 4, 5, 6, 1, 0] rfl (ih _ _ _ h)
def wp_X2_partByAlone (S : St) (a2 : Int32) (post : St → Prop) : Prop :=
  wp_X4_costOf S a2 (fun (r2 : Int32) (S1 : St) => ∀ x3 : Int64, x3 = r2.toInt64 → ∃ fu9, wL_X2_partByAlone_13 a2 x3 (fun (z5 : Int64) (z6 : Int32) (S4 : St) => (¬ z5 = (0 : Int64) → ∀ S7 : St, S7 = uJ S4 4 1 z5 → post S7) ∧ (z5 = (0 : Int64) → ∀ S8 : St, S8 = uJ S4 4 1 (1 : Int64) → post S8)) fu9 (0 : Int64) (0 : Int32) S1)
set_option maxHeartbeats 4000000 in
set_option maxRecDepth 100000 in
theorem c_X2_partByAlone {l : Launch} {D : va_G} {cA : Nat → ClassId} {ad : Nat → Nat} {ex : List Lay} (S : St) (a2 : Int32)  {post : St → Prop} (h : wp_X2_partByAlone S a2 post) : MetV l yX2_partByAlone cX2_partByAlone 10 none rX2_partByAlone D cA ad (LU ++ ex) [.ref (ad 4), .ref (ad 1), .int a2] S post 0 0 := by
  refine MetV.of (by decide) (Nat.le_of_ble_eq_true rfl) ?_
  intro p e s m args below meth c C
  unfold wp_X2_partByAlone at h
  show Go p l e rX2_partByAlone s m args below meth c D cA ad (LU ++ ex) 10 0 0 _ S 0 [(0, .ref (ad 4)), (1, .ref (ad 1)), (2, .int a2)] []
  replace C : Cx p s m args meth c cX2_partByAlone 10 none RX2 D cA ad (LU ++ ex) := C
  refine go_aload_n C 0 1 1 1 dX2_partByAlone_0 rfl rfl rfl ?_
  refine go_iload_n C 1 2 2 2 dX2_partByAlone_1 rfl rfl rfl ?_
  refine go_viN C 2 5 0 0 [.int a2] 1 (lu1 ex) rfl (c_X4_costOf _ _  h) n432_ k355_ k51_ k354_ k17_ qX4_costOf mhX4_costOf (by decide) (by decide) rfl rfl rfl rfl (Nat.le_of_ble_eq_true rfl) rfl rfl dX2_partByAlone_2 (fun r2 S1 h => ?_)
  refine go_i2l C 5 6 dX2_partByAlone_5 rfl ?_
  refine go_topl (fun x3 hx3 => ?_)
  replace h := h x3 hx3
  refine go_lstore_n C 6 7 3 [(3, .long _), (0, .ref _), (1, .ref _), (2, .int _)] dX2_partByAlone_6 rfl (by decide) rfl rfl ?_
  refine go_lconst C 7 8 0 dX2_partByAlone_7 rfl rfl ?_
  refine go_lstore C 8 10 5 [(5, .long _), (3, .long _), (0, .ref _), (1, .ref _), (2, .int _)] dX2_partByAlone_8 (by decide) rfl rfl ?_
  refine go_iconst C 10 11 (0) dX2_partByAlone_10 (by decide) rfl ?_
  refine go_istore C 11 13 7 [(7, .int _), (5, .long _), (3, .long _), (0, .ref _), (1, .ref _), (2, .int _)] dX2_partByAlone_11 (by decide) rfl rfl ?_
  obtain ⟨fu9, h⟩ := h
  refine go_perm [3, 4, 5, 2, 1, 0] rfl (L_X2_partByAlone_13 C   _ _ (fun z5 z6 S4 h => ?_) _ _ _ _ h)
  refine go_aload_n C 68 69 0 0 dX2_partByAlone_68 rfl rfl rfl ?_
  refine go_lload C 69 71 5 1 dX2_partByAlone_69 rfl rfl ?_
  refine go_lconst C 71 72 0 dX2_partByAlone_71 rfl rfl ?_
  refine go_lcmp_ne C 72 76 80 dX2_partByAlone_72 dX2_partByAlone_73 (by decide) rfl (fun hc => ?_) (fun hc => ?_)
  · have h := h.1 hc
    refine go_lload C 80 82 5 1 dX2_partByAlone_80 rfl rfl ?_
    refine go_putJ C 82 85 iw2 4 (lu4 ex) rfl 1 (by decide) tyX2 tyX2_ok nmX2 k161_ rfl rfl rfl (by decide +kernel) dX2_partByAlone_82 rfl ?_
    refine go_nm (fun S7 hS7 => ?_)
    replace h := h S7 hS7
    exact go_vret C 85 rfl dX2_partByAlone_85 h
  · have h := h.2 hc
    refine go_lconst C 76 77 1 dX2_partByAlone_76 rfl rfl ?_
    refine go_goto C 77 82 dX2_partByAlone_77 (by decide) ?_
    refine go_putJ C 82 85 iw2 4 (lu4 ex) rfl 1 (by decide) tyX2 tyX2_ok nmX2 k161_ rfl rfl rfl (by decide +kernel) dX2_partByAlone_82 rfl ?_
    refine go_nm (fun S8 hS8 => ?_)
    replace h := h S8 hS8
    exact go_vret C 85 rfl dX2_partByAlone_85 h
-- BillHouse$Shares.partByOrders(LBillHouse$Works;I)V
theorem qX2_partByOrders : (parseMethodDescriptor yX2_partByOrders.desc).map (fun d => d.parameters.length) = some 2 := by decide +kernel
theorem mhX2_partByOrders : yX2_partByOrders.cls ≠ "java/lang/invoke/MethodHandle" ∧ yX2_partByOrders.cls ≠ "java/lang/invoke/VarHandle" := by decide +kernel
def rX2_partByOrders : Room := { frames := 3, cells := 0, slots := 0, locals := 70 }
def wB_X2_partByOrders_69 (p2 : Int32) (p3 : Int32) (p4 : Int32) (p6 : Int64) (k rec : Int32 → St → Prop) (v8 : Int32) (S : St) : Prop :=
  ((8 : Int32) ≤ v8 → k v8 S) ∧ (¬ ((8 : Int32) ≤ v8) → wp_X5_isIn S (p2 &&& (p4 ^^^ (-1 : Int32))) v8 (fun (r2 : Int32) (S1 : St) => (r2 = 0 → rec (v8 + 1) S1) ∧ (¬ (r2 = 0) → wp_X4_costOf S1 (p4 ||| ((1 : Int32) <<< (v8 &&& 31))) (fun (r4 : Int32) (S3 : St) => wp_X4_costOf S3 p4 (fun (r6 : Int32) (S5 : St) => ∀ x7 : Int32, x7 = (r4 - r6) → (vp_in v8 8) ∧ ((vp_in v8 8) ∧ (∀ S10 : St, S10 = uJ S5 19 v8.toNatClampNeg ((S5.2 19 v8.toNatClampNeg) + (p6 * x7.toInt64)) → rec (v8 + 1) S10)))))))
def wL_X2_partByOrders_69 (p2 : Int32) (p3 : Int32) (p4 : Int32) (p6 : Int64) (k : Int32 → St → Prop) : Nat → Int32 → St → Prop
  | 0, _, _ => False
  | n + 1, v8, S => wB_X2_partByOrders_69 p2 p3 p4 p6 k (wL_X2_partByOrders_69 p2 p3 p4 p6 k n) v8 S
set_option maxHeartbeats 4000000 in
set_option maxRecDepth 100000 in
theorem L_X2_partByOrders_69 {p : Program} {l : Launch} {e : Env} {s : State} {m : MethodId} {args : Array Value} {below : List Frame} {meth : Method} {c : Code} {D : va_G} {cA : Nat → ClassId} {ad : Nat → Nat} {ex : List Lay} {Q : State → Prop} (C : Cx p s m args meth c cX2_partByOrders 10 none RX2 D cA ad (LU ++ ex))   (p2 : Int32) (p3 : Int32) (p4 : Int32) (p6 : Int64) {k : Int32 → St → Prop} (hk : ∀ (v8 : Int32) (S : St), k v8 S → Go p l e rX2_partByOrders s m args below meth c D cA ad (LU ++ ex) 10 0 0 Q S 132 [(0, .ref (ad 4)), (1, .ref (ad 1)), (2, .int p2), (3, .int p3), (4, .int p4)] []) : ∀ (n : Nat) (v8 : Int32) (S : St), wL_X2_partByOrders_69 p2 p3 p4 p6 k n v8 S → Go p l e rX2_partByOrders s m args below meth c D cA ad (LU ++ ex) 10 0 0 Q S 69 [(0, .ref (ad 4)), (1, .ref (ad 1)), (2, .int p2), (3, .int p3), (4, .int p4), (6, .long p6), (8, .int v8)] [] := by
  intro n
  induction n with
  | zero => intro v8 S h; exact h.elim
  | succ n ih =>
    intro v8 S h
    replace h : wB_X2_partByOrders_69 p2 p3 p4 p6 k (wL_X2_partByOrders_69 p2 p3 p4 p6 k n) v8 S := h
    unfold wB_X2_partByOrders_69 at h
    refine go_iload C 69 71 8 6 dX2_partByOrders_69 rfl rfl ?_
    refine go_bipush C 71 73 (8) dX2_partByOrders_71 (by decide) rfl ?_
    refine go_icmp_ge C 73 76 132 dX2_partByOrders_73 (by decide) rfl (fun hc => ?_) (fun hc => ?_)
    · have h := h.1 hc
      exact go_perm [0, 1, 2, 3, 4] rfl (hk _ _ h)
    · have h := h.2 hc
      refine go_iload_n C 76 77 2 2 dX2_partByOrders_76 rfl rfl rfl ?_
      refine go_iload C 77 79 4 4 dX2_partByOrders_77 rfl rfl ?_
      refine go_iconst C 79 80 (-1) dX2_partByOrders_79 (by decide) rfl ?_
      refine go_ixor C 80 81 dX2_partByOrders_80 rfl ?_
      refine go_iand C 81 82 dX2_partByOrders_81 rfl ?_
      refine go_iload C 82 84 8 6 dX2_partByOrders_82 rfl rfl ?_
      refine go_siN C 84 87 0 0 [.int (p2 &&& (p4 ^^^ (-1 : Int32))), .int v8] (c_X5_isIn _ _ _  h) n427_ k289_ k50_ k288_ qX5_isIn mhX5_isIn (by decide) (by decide) rfl rfl rfl rfl (Nat.le_of_ble_eq_true rfl) rfl rfl dX2_partByOrders_84 (fun r2 S1 h => ?_)
      refine go_if_eq C 87 90 126 dX2_partByOrders_87 (by decide) rfl (fun hc => ?_) (fun hc => ?_)
      · have h := h.1 hc
        refine go_iinc C 126 129 8 6 (v8 + 1) [(8, .int _), (0, .ref _), (1, .ref _), (2, .int _), (3, .int _), (4, .int _), (6, .long _)] dX2_partByOrders_126 rfl rfl (by decide) rfl rfl ?_
        refine go_goto C 129 69 dX2_partByOrders_129 (by decide) ?_
        exact go_perm [1, 2, 3, 4, 5, 6, 0] rfl (ih _ _ h)
      · have h := h.2 hc
        refine go_aload_n C 90 91 1 1 dX2_partByOrders_90 rfl rfl rfl ?_
        refine go_iload C 91 93 4 4 dX2_partByOrders_91 rfl rfl ?_
        refine go_iconst C 93 94 (1) dX2_partByOrders_93 (by decide) rfl ?_
        refine go_iload C 94 96 8 6 dX2_partByOrders_94 rfl rfl ?_
        refine go_ishl C 96 97 dX2_partByOrders_96 rfl ?_
        refine go_ior C 97 98 dX2_partByOrders_97 rfl ?_
        refine go_viN C 98 101 0 0 [.int (p4 ||| ((1 : Int32) <<< (v8 &&& 31)))] 1 (lu1 ex) rfl (c_X4_costOf _ _  h) n432_ k355_ k51_ k354_ k17_ qX4_costOf mhX4_costOf (by decide) (by decide) rfl rfl rfl rfl (Nat.le_of_ble_eq_true rfl) rfl rfl dX2_partByOrders_98 (fun r4 S3 h => ?_)
        refine go_aload_n C 101 102 1 1 dX2_partByOrders_101 rfl rfl rfl ?_
        refine go_iload C 102 104 4 4 dX2_partByOrders_102 rfl rfl ?_
        refine go_viN C 104 107 0 0 [.int p4] 1 (lu1 ex) rfl (c_X4_costOf _ _  h) n432_ k355_ k51_ k354_ k17_ qX4_costOf mhX4_costOf (by decide) (by decide) rfl rfl rfl rfl (Nat.le_of_ble_eq_true rfl) rfl rfl dX2_partByOrders_104 (fun r6 S5 h => ?_)
        refine go_isub C 107 108 dX2_partByOrders_107 rfl ?_
        refine go_topi (fun x7 hx7 => ?_)
        replace h := h x7 hx7
        refine go_istore C 108 110 9 [(9, .int _), (0, .ref _), (1, .ref _), (2, .int _), (3, .int _), (4, .int _), (6, .long _), (8, .int _)] dX2_partByOrders_108 (by decide) rfl rfl ?_
        refine go_aload_n C 110 111 0 1 dX2_partByOrders_110 rfl rfl rfl ?_
        refine go_getR C 111 114 iw2 4 (lu4 ex) rfl 0 (by decide) k159_ rfl rfl dX2_partByOrders_111 rfl ?_
        refine go_iload C 114 116 8 7 dX2_partByOrders_114 rfl rfl ?_
        refine go_dup2 C 116 117 rfl rfl dX2_partByOrders_116 rfl ?_
        obtain ⟨hi8, h⟩ := h
        refine go_lald C 117 118 19 (lu19 ex) hi8 dX2_partByOrders_117 rfl ?_
        refine go_lload C 118 120 6 6 dX2_partByOrders_118 rfl rfl ?_
        refine go_iload C 120 122 9 0 dX2_partByOrders_120 rfl rfl ?_
        refine go_i2l C 122 123 dX2_partByOrders_122 rfl ?_
        refine go_lmul C 123 124 dX2_partByOrders_123 rfl ?_
        refine go_ladd C 124 125 dX2_partByOrders_124 rfl ?_
        obtain ⟨hi9, h⟩ := h
        refine go_last C 125 126 19 (lu19 ex) hi9 dX2_partByOrders_125 rfl ?_
        refine go_nm (fun S10 hS10 => ?_)
        replace h := h S10 hS10
        refine go_iinc C 126 129 8 7 (v8 + 1) [(8, .int _), (9, .int _), (0, .ref _), (1, .ref _), (2, .int _), (3, .int _), (4, .int _), (6, .long _)] dX2_partByOrders_126 rfl rfl (by decide) rfl rfl ?_
        refine go_goto C 129 69 dX2_partByOrders_129 (by decide) ?_
        exact go_perm [2, 3, 4, 5, 6, 7, 0] rfl (ih _ _ h)
def wB_X2_partByOrders_24 (p2 : Int32) (p3 : Int32) (k rec : Int32 → St → Prop) (v4 : Int32) (S : St) : Prop :=
  (p2 ≤ v4 → k v4 S) ∧ (¬ (p2 ≤ v4) → ((v4 &&& (p2 ^^^ (-1 : Int32))) = 0 → wp_J6_bitCount_0f7a4 S v4 (fun (r2 : Int32) (S1 : St) => wp_X2_factorial S1 r2 (fun (r4 : Int64) (S3 : St) => wp_X2_factorial S3 ((p3 - r2) - (1 : Int32)) (fun (r6 : Int64) (S5 : St) => ∀ x7 : Int64, x7 = (r4 * r6) → ∃ fu10, wL_X2_partByOrders_69 p2 p3 v4 x7 (fun (z9 : Int32) (S8 : St) => rec (v4 + 1) S8) fu10 (0 : Int32) S5)))) ∧ (¬ ((v4 &&& (p2 ^^^ (-1 : Int32))) = 0) → rec (v4 + 1) S))
def wL_X2_partByOrders_24 (p2 : Int32) (p3 : Int32) (k : Int32 → St → Prop) : Nat → Int32 → St → Prop
  | 0, _, _ => False
  | n + 1, v4, S => wB_X2_partByOrders_24 p2 p3 k (wL_X2_partByOrders_24 p2 p3 k n) v4 S
set_option maxHeartbeats 4000000 in
set_option maxRecDepth 100000 in
theorem L_X2_partByOrders_24 {p : Program} {l : Launch} {e : Env} {s : State} {m : MethodId} {args : Array Value} {below : List Frame} {meth : Method} {c : Code} {D : va_G} {cA : Nat → ClassId} {ad : Nat → Nat} {ex : List Lay} {Q : State → Prop} (C : Cx p s m args meth c cX2_partByOrders 10 none RX2 D cA ad (LU ++ ex))   (p2 : Int32) (p3 : Int32) {k : Int32 → St → Prop} (hk : ∀ (v4 : Int32) (S : St), k v4 S → Go p l e rX2_partByOrders s m args below meth c D cA ad (LU ++ ex) 10 0 0 Q S 138 [] []) : ∀ (n : Nat) (v4 : Int32) (S : St), wL_X2_partByOrders_24 p2 p3 k n v4 S → Go p l e rX2_partByOrders s m args below meth c D cA ad (LU ++ ex) 10 0 0 Q S 24 [(0, .ref (ad 4)), (1, .ref (ad 1)), (2, .int p2), (3, .int p3), (4, .int v4)] [] := by
  intro n
  induction n with
  | zero => intro v4 S h; exact h.elim
  | succ n ih =>
    intro v4 S h
    replace h : wB_X2_partByOrders_24 p2 p3 k (wL_X2_partByOrders_24 p2 p3 k n) v4 S := h
    unfold wB_X2_partByOrders_24 at h
    refine go_iload C 24 26 4 4 dX2_partByOrders_24 rfl rfl ?_
    refine go_iload_n C 26 27 2 2 dX2_partByOrders_26 rfl rfl rfl ?_
    refine go_icmp_ge C 27 30 138 dX2_partByOrders_27 (by decide) rfl (fun hc => ?_) (fun hc => ?_)
    · have h := h.1 hc
      exact go_perm [] rfl (hk _ _ h)
    · have h := h.2 hc
      refine go_iload C 30 32 4 4 dX2_partByOrders_30 rfl rfl ?_
      refine go_iload_n C 32 33 2 2 dX2_partByOrders_32 rfl rfl rfl ?_
      refine go_iconst C 33 34 (-1) dX2_partByOrders_33 (by decide) rfl ?_
      refine go_ixor C 34 35 dX2_partByOrders_34 rfl ?_
      refine go_iand C 35 36 dX2_partByOrders_35 rfl ?_
      refine go_if_eq C 36 39 42 dX2_partByOrders_36 (by decide) rfl (fun hc => ?_) (fun hc => ?_)
      · have h := h.1 hc
        refine go_iload C 42 44 4 4 dX2_partByOrders_42 rfl rfl ?_
        refine go_si C 44 47 0 0 [.int v4] (c_J6_bitCount_0f7a4 _ _  h) k437_ k399_ k58_ k398_ qJ6_bitCount_0f7a4 mhJ6_bitCount_0f7a4 (by decide) (by decide) rfl rfl rfl rfl (Nat.le_of_ble_eq_true rfl) rfl rfl dX2_partByOrders_44 (fun r2 S1 h => ?_)
        refine go_istore C 47 49 5 [(5, .int _), (0, .ref _), (1, .ref _), (2, .int _), (3, .int _), (4, .int _)] dX2_partByOrders_47 (by decide) rfl rfl ?_
        refine go_iload C 49 51 5 0 dX2_partByOrders_49 rfl rfl ?_
        refine go_sl C 51 54 0 0 [.int r2] (c_X2_factorial _ _  h) k438_ k440_ k55_ k439_ qX2_factorial mhX2_factorial (by decide) (by decide) rfl rfl rfl rfl (Nat.le_of_ble_eq_true rfl) rfl rfl dX2_partByOrders_51 (fun r4 S3 h => ?_)
        refine go_iload_n C 54 55 3 4 dX2_partByOrders_54 rfl rfl rfl ?_
        refine go_iload C 55 57 5 0 dX2_partByOrders_55 rfl rfl ?_
        refine go_isub C 57 58 dX2_partByOrders_57 rfl ?_
        refine go_iconst C 58 59 (1) dX2_partByOrders_58 (by decide) rfl ?_
        refine go_isub C 59 60 dX2_partByOrders_59 rfl ?_
        refine go_sl C 60 63 0 0 [.int ((p3 - r2) - (1 : Int32))] (c_X2_factorial _ _  h) k438_ k440_ k55_ k439_ qX2_factorial mhX2_factorial (by decide) (by decide) rfl rfl rfl rfl (Nat.le_of_ble_eq_true rfl) rfl rfl dX2_partByOrders_60 (fun r6 S5 h => ?_)
        refine go_lmul C 63 64 dX2_partByOrders_63 rfl ?_
        refine go_topl (fun x7 hx7 => ?_)
        replace h := h x7 hx7
        refine go_lstore C 64 66 6 [(6, .long _), (5, .int _), (0, .ref _), (1, .ref _), (2, .int _), (3, .int _), (4, .int _)] dX2_partByOrders_64 (by decide) rfl rfl ?_
        refine go_iconst C 66 67 (0) dX2_partByOrders_66 (by decide) rfl ?_
        refine go_istore C 67 69 8 [(8, .int _), (6, .long _), (5, .int _), (0, .ref _), (1, .ref _), (2, .int _), (3, .int _), (4, .int _)] dX2_partByOrders_67 (by decide) rfl rfl ?_
        obtain ⟨fu10, h⟩ := h
        refine go_perm [3, 4, 5, 6, 7, 1, 0] rfl (L_X2_partByOrders_69 C   _ _ _ _ (fun z9 S8 h => ?_) _ _ _ h)
        refine go_iinc C 132 135 4 4 (v4 + 1) [(4, .int _), (0, .ref _), (1, .ref _), (2, .int _), (3, .int _)] dX2_partByOrders_132 rfl rfl (by decide) rfl rfl ?_
        refine go_goto C 135 24 dX2_partByOrders_135 (by decide) ?_
        exact go_perm [1, 2, 3, 4, 0] rfl (ih _ _ h)
      · have h := h.2 hc
        refine go_goto C 39 132 dX2_partByOrders_39 (by decide) ?_
        refine go_iinc C 132 135 4 4 (v4 + 1) [(4, .int _), (0, .ref _), (1, .ref _), (2, .int _), (3, .int _)] dX2_partByOrders_132 rfl rfl (by decide) rfl rfl ?_
        refine go_goto C 135 24 dX2_partByOrders_135 (by decide) ?_
        exact go_perm [1, 2, 3, 4, 0] rfl (ih _ _ h)
def wp_X2_partByOrders (S : St) (a2 : Int32) (post : St → Prop) : Prop :=
  wp_J6_bitCount_0f7a4 S a2 (fun (r2 : Int32) (S1 : St) => wp_X2_factorial S1 r2 (fun (r4 : Int64) (S3 : St) => ∀ S5 : St, S5 = uJ S3 4 1 r4 → wp_J7_fill_d0a16 S5 (0 : Int64) 19 8 (fun (S6 : St) => ∃ fu10, wL_X2_partByOrders_24 a2 r2 (fun (z9 : Int32) (S8 : St) => post S8) fu10 (0 : Int32) S6)))
set_option maxHeartbeats 4000000 in
set_option maxRecDepth 100000 in
theorem c_X2_partByOrders {l : Launch} {D : va_G} {cA : Nat → ClassId} {ad : Nat → Nat} {ex : List Lay} (S : St) (a2 : Int32)  {post : St → Prop} (h : wp_X2_partByOrders S a2 post) : MetV l yX2_partByOrders cX2_partByOrders 10 none rX2_partByOrders D cA ad (LU ++ ex) [.ref (ad 4), .ref (ad 1), .int a2] S post 0 0 := by
  refine MetV.of (by decide) (Nat.le_of_ble_eq_true rfl) ?_
  intro p e s m args below meth c C
  unfold wp_X2_partByOrders at h
  show Go p l e rX2_partByOrders s m args below meth c D cA ad (LU ++ ex) 10 0 0 _ S 0 [(0, .ref (ad 4)), (1, .ref (ad 1)), (2, .int a2)] []
  replace C : Cx p s m args meth c cX2_partByOrders 10 none RX2 D cA ad (LU ++ ex) := C
  refine go_iload_n C 0 1 2 2 dX2_partByOrders_0 rfl rfl rfl ?_
  refine go_si C 1 4 0 0 [.int a2] (c_J6_bitCount_0f7a4 _ _  h) k437_ k399_ k58_ k398_ qJ6_bitCount_0f7a4 mhJ6_bitCount_0f7a4 (by decide) (by decide) rfl rfl rfl rfl (Nat.le_of_ble_eq_true rfl) rfl rfl dX2_partByOrders_1 (fun r2 S1 h => ?_)
  refine go_istore_n C 4 5 3 [(3, .int _), (0, .ref _), (1, .ref _), (2, .int _)] dX2_partByOrders_4 rfl (by decide) rfl rfl ?_
  refine go_aload_n C 5 6 0 1 dX2_partByOrders_5 rfl rfl rfl ?_
  refine go_iload_n C 6 7 3 0 dX2_partByOrders_6 rfl rfl rfl ?_
  refine go_sl C 7 10 0 0 [.int r2] (c_X2_factorial _ _  h) k438_ k440_ k55_ k439_ qX2_factorial mhX2_factorial (by decide) (by decide) rfl rfl rfl rfl (Nat.le_of_ble_eq_true rfl) rfl rfl dX2_partByOrders_7 (fun r4 S3 h => ?_)
  refine go_putJ C 10 13 iw2 4 (lu4 ex) rfl 1 (by decide) tyX2 tyX2_ok nmX2 k161_ rfl rfl rfl (by decide +kernel) dX2_partByOrders_10 rfl ?_
  refine go_nm (fun S5 hS5 => ?_)
  replace h := h S5 hS5
  refine go_aload_n C 13 14 0 1 dX2_partByOrders_13 rfl rfl rfl ?_
  refine go_getR C 14 17 iw2 4 (lu4 ex) rfl 0 (by decide) k159_ rfl rfl dX2_partByOrders_14 rfl ?_
  refine go_lconst C 17 18 0 dX2_partByOrders_17 rfl rfl ?_
  refine go_sv C 18 21 0 0 [.ref (ad 19), .long (0 : Int64)] (c_J7_fill_d0a16 _ _ 19 8 (lu19 ex) h) k443_ k388_ k52_ k387_ qJ7_fill_d0a16 mhJ7_fill_d0a16 (by decide) (by decide) rfl rfl rfl rfl (Nat.le_of_ble_eq_true rfl) rfl rfl dX2_partByOrders_18 (fun S6 h => ?_)
  refine go_iconst C 21 22 (0) dX2_partByOrders_21 (by decide) rfl ?_
  refine go_istore C 22 24 4 [(4, .int _), (3, .int _), (0, .ref _), (1, .ref _), (2, .int _)] dX2_partByOrders_22 (by decide) rfl rfl ?_
  obtain ⟨fu10, h⟩ := h
  refine go_perm [2, 3, 4, 1, 0] rfl (L_X2_partByOrders_24 C   _ _ (fun z9 S8 h => ?_) _ _ _ h)
  exact go_vret C 138 rfl dX2_partByOrders_138 h
-- BillHouse$Shares.cutInto([III)V
theorem qX2_cutInto : (parseMethodDescriptor yX2_cutInto.desc).map (fun d => d.parameters.length) = some 3 := by decide +kernel
theorem mhX2_cutInto : yX2_cutInto.cls ≠ "java/lang/invoke/MethodHandle" ∧ yX2_cutInto.cls ≠ "java/lang/invoke/VarHandle" := by decide +kernel
def rX2_cutInto : Room := { frames := 1, cells := 0, slots := 0, locals := 22 }
def wB_X2_cutInto_16 (k1 n1 : Nat) (p3 : Int32) (k rec : Int32 → Int32 → St → Prop) (v4 : Int32) (v5 : Int32) (S : St) : Prop :=
  ((8 : Int32) ≤ v5 → k v4 v5 S) ∧ (¬ ((8 : Int32) ≤ v5) → (vp_in v5 8) ∧ ((¬ (S.2 4 1) = 0) ∧ ((vp_in v5 n1) ∧ (∀ S4 : St, S4 = uI S k1 v5.toNatClampNeg (((S.2 19 v5.toNatClampNeg) / (S.2 4 1)).toInt32) → wp_X5_isIn S4 p3 v5 (fun (r6 : Int32) (S5 : St) => (r6 = 0 → (vp_in v5 8) ∧ (∀ S8 : St, S8 = uJ S5 20 v5.toNatClampNeg (-1 : Int64) → (vp_in v5 n1) ∧ (∀ x10 : Int32, x10 = (v4 - (S8.1 k1 v5.toNatClampNeg)) → rec x10 (v5 + 1) S8))) ∧ (¬ (r6 = 0) → (vp_in v5 8) ∧ ((¬ (S5.2 4 1) = 0) ∧ ((vp_in v5 8) ∧ (∀ S14 : St, S14 = uJ S5 20 v5.toNatClampNeg ((S5.2 19 v5.toNatClampNeg) - (S5.2 19 v5.toNatClampNeg) / (S5.2 4 1) * (S5.2 4 1)) → (vp_in v5 n1) ∧ (∀ x16 : Int32, x16 = (v4 - (S14.1 k1 v5.toNatClampNeg)) → rec x16 (v5 + 1) S14))))))))))
def wL_X2_cutInto_16 (k1 n1 : Nat) (p3 : Int32) (k : Int32 → Int32 → St → Prop) : Nat → Int32 → Int32 → St → Prop
  | 0, _, _, _ => False
  | n + 1, v4, v5, S => wB_X2_cutInto_16 k1 n1 p3 k (wL_X2_cutInto_16 k1 n1 p3 k n) v4 v5 S
set_option maxHeartbeats 4000000 in
set_option maxRecDepth 100000 in
theorem L_X2_cutInto_16 {p : Program} {l : Launch} {e : Env} {s : State} {m : MethodId} {args : Array Value} {below : List Frame} {meth : Method} {c : Code} {D : va_G} {cA : Nat → ClassId} {ad : Nat → Nat} {ex : List Lay} {Q : State → Prop} (C : Cx p s m args meth c cX2_cutInto 7 none RX2 D cA ad (LU ++ ex)) (k1 n1 : Nat) (hk1 : (LU ++ ex)[k1]? = some (.inl (0, n1, 0))) (p3 : Int32) {k : Int32 → Int32 → St → Prop} (hk : ∀ (v4 : Int32) (v5 : Int32) (S : St), k v4 v5 S → Go p l e rX2_cutInto s m args below meth c D cA ad (LU ++ ex) 7 0 0 Q S 89 [(0, .ref (ad 4)), (1, .ref (ad k1)), (4, .int v4)] []) : ∀ (n : Nat) (v4 : Int32) (v5 : Int32) (S : St), wL_X2_cutInto_16 k1 n1 p3 k n v4 v5 S → Go p l e rX2_cutInto s m args below meth c D cA ad (LU ++ ex) 7 0 0 Q S 16 [(0, .ref (ad 4)), (1, .ref (ad k1)), (3, .int p3), (4, .int v4), (5, .int v5)] [] := by
  intro n
  induction n with
  | zero => intro v4 v5 S h; exact h.elim
  | succ n ih =>
    intro v4 v5 S h
    replace h : wB_X2_cutInto_16 k1 n1 p3 k (wL_X2_cutInto_16 k1 n1 p3 k n) v4 v5 S := h
    unfold wB_X2_cutInto_16 at h
    refine go_iload C 16 18 5 4 dX2_cutInto_16 rfl rfl ?_
    refine go_bipush C 18 20 (8) dX2_cutInto_18 (by decide) rfl ?_
    refine go_icmp_ge C 20 23 89 dX2_cutInto_20 (by decide) rfl (fun hc => ?_) (fun hc => ?_)
    · have h := h.1 hc
      exact go_perm [0, 1, 3] rfl (hk _ _ _ h)
    · have h := h.2 hc
      refine go_aload_n C 23 24 1 1 dX2_cutInto_23 rfl rfl rfl ?_
      refine go_iload C 24 26 5 4 dX2_cutInto_24 rfl rfl ?_
      refine go_aload_n C 26 27 0 0 dX2_cutInto_26 rfl rfl rfl ?_
      refine go_getR C 27 30 iw2 4 (lu4 ex) rfl 0 (by decide) k159_ rfl rfl dX2_cutInto_27 rfl ?_
      refine go_iload C 30 32 5 4 dX2_cutInto_30 rfl rfl ?_
      obtain ⟨hi1, h⟩ := h
      refine go_lald C 32 33 19 (lu19 ex) hi1 dX2_cutInto_32 rfl ?_
      refine go_aload_n C 33 34 0 0 dX2_cutInto_33 rfl rfl rfl ?_
      refine go_getJ C 34 37 iw2 4 (lu4 ex) rfl 1 (by decide) k161_ rfl rfl dX2_cutInto_34 rfl ?_
      obtain ⟨hi2, h⟩ := h
      refine go_ldiv C 37 38 hi2 dX2_cutInto_37 rfl ?_
      refine go_l2i C 38 39 dX2_cutInto_38 rfl ?_
      obtain ⟨hi3, h⟩ := h
      refine go_iast C 39 40 k1 hk1 hi3 dX2_cutInto_39 rfl ?_
      refine go_nm (fun S4 hS4 => ?_)
      replace h := h S4 hS4
      refine go_aload_n C 40 41 0 0 dX2_cutInto_40 rfl rfl rfl ?_
      refine go_getR C 41 44 iw2 4 (lu4 ex) rfl 2 (by decide) k163_ rfl rfl dX2_cutInto_41 rfl ?_
      refine go_iload C 44 46 5 4 dX2_cutInto_44 rfl rfl ?_
      refine go_iload_n C 46 47 3 2 dX2_cutInto_46 rfl rfl rfl ?_
      refine go_iload C 47 49 5 4 dX2_cutInto_47 rfl rfl ?_
      refine go_siN C 49 52 0 0 [.int p3, .int v5] (c_X5_isIn _ _ _  h) n427_ k289_ k50_ k288_ qX5_isIn mhX5_isIn (by decide) (by decide) rfl rfl rfl rfl (Nat.le_of_ble_eq_true rfl) rfl rfl dX2_cutInto_49 (fun r6 S5 h => ?_)
      refine go_if_eq C 52 55 70 dX2_cutInto_52 (by decide) rfl (fun hc => ?_) (fun hc => ?_)
      · have h := h.1 hc
        refine go_ldc2 C 70 73 k457_ dX2_cutInto_70 rfl ?_
        obtain ⟨hi7, h⟩ := h
        refine go_last C 73 74 20 (lu20 ex) hi7 dX2_cutInto_73 rfl ?_
        refine go_nm (fun S8 hS8 => ?_)
        replace h := h S8 hS8
        refine go_iload C 74 76 4 3 dX2_cutInto_74 rfl rfl ?_
        refine go_aload_n C 76 77 1 1 dX2_cutInto_76 rfl rfl rfl ?_
        refine go_iload C 77 79 5 4 dX2_cutInto_77 rfl rfl ?_
        obtain ⟨hi9, h⟩ := h
        refine go_iald C 79 80 k1 hk1 hi9 dX2_cutInto_79 rfl ?_
        refine go_isub C 80 81 dX2_cutInto_80 rfl ?_
        refine go_topi (fun x10 hx10 => ?_)
        replace h := h x10 hx10
        refine go_istore C 81 83 4 [(4, .int _), (0, .ref _), (1, .ref _), (3, .int _), (5, .int _)] dX2_cutInto_81 (by decide) rfl rfl ?_
        refine go_iinc C 83 86 5 4 (v5 + 1) [(5, .int _), (4, .int _), (0, .ref _), (1, .ref _), (3, .int _)] dX2_cutInto_83 rfl rfl (by decide) rfl rfl ?_
        refine go_goto C 86 16 dX2_cutInto_86 (by decide) ?_
        exact go_perm [2, 3, 4, 1, 0] rfl (ih _ _ _ h)
      · have h := h.2 hc
        refine go_aload_n C 55 56 0 0 dX2_cutInto_55 rfl rfl rfl ?_
        refine go_getR C 56 59 iw2 4 (lu4 ex) rfl 0 (by decide) k159_ rfl rfl dX2_cutInto_56 rfl ?_
        refine go_iload C 59 61 5 4 dX2_cutInto_59 rfl rfl ?_
        obtain ⟨hi11, h⟩ := h
        refine go_lald C 61 62 19 (lu19 ex) hi11 dX2_cutInto_61 rfl ?_
        refine go_aload_n C 62 63 0 0 dX2_cutInto_62 rfl rfl rfl ?_
        refine go_getJ C 63 66 iw2 4 (lu4 ex) rfl 1 (by decide) k161_ rfl rfl dX2_cutInto_63 rfl ?_
        obtain ⟨hi12, h⟩ := h
        refine go_lrem C 66 67 hi12 dX2_cutInto_66 rfl ?_
        refine go_goto C 67 73 dX2_cutInto_67 (by decide) ?_
        obtain ⟨hi13, h⟩ := h
        refine go_last C 73 74 20 (lu20 ex) hi13 dX2_cutInto_73 rfl ?_
        refine go_nm (fun S14 hS14 => ?_)
        replace h := h S14 hS14
        refine go_iload C 74 76 4 3 dX2_cutInto_74 rfl rfl ?_
        refine go_aload_n C 76 77 1 1 dX2_cutInto_76 rfl rfl rfl ?_
        refine go_iload C 77 79 5 4 dX2_cutInto_77 rfl rfl ?_
        obtain ⟨hi15, h⟩ := h
        refine go_iald C 79 80 k1 hk1 hi15 dX2_cutInto_79 rfl ?_
        refine go_isub C 80 81 dX2_cutInto_80 rfl ?_
        refine go_topi (fun x16 hx16 => ?_)
        replace h := h x16 hx16
        refine go_istore C 81 83 4 [(4, .int _), (0, .ref _), (1, .ref _), (3, .int _), (5, .int _)] dX2_cutInto_81 (by decide) rfl rfl ?_
        refine go_iinc C 83 86 5 4 (v5 + 1) [(5, .int _), (4, .int _), (0, .ref _), (1, .ref _), (3, .int _)] dX2_cutInto_83 rfl rfl (by decide) rfl rfl ?_
        refine go_goto C 86 16 dX2_cutInto_86 (by decide) ?_
        exact go_perm [2, 3, 4, 1, 0] rfl (ih _ _ _ h)
def wB_X2_cutInto_92 (k1 n1 : Nat) (p4 : Int32) (k rec : Int32 → St → Prop) (v5 : Int32) (S : St) : Prop :=
  ((8 : Int32) ≤ v5 → k v5 S) ∧ (¬ ((8 : Int32) ≤ v5) → (p4 ≤ v5 → k v5 S) ∧ (¬ (p4 ≤ v5) → wp_X2_greatestRest S (fun (r2 : Int32) (S1 : St) => (vp_in r2 n1) ∧ ((vp_in r2 n1) ∧ (∀ S5 : St, S5 = uI S1 k1 r2.toNatClampNeg ((S1.1 k1 r2.toNatClampNeg) + (1 : Int32)) → (vp_in r2 8) ∧ (∀ S7 : St, S7 = uJ S5 20 r2.toNatClampNeg (-1 : Int64) → rec (v5 + 1) S7))))))
def wL_X2_cutInto_92 (k1 n1 : Nat) (p4 : Int32) (k : Int32 → St → Prop) : Nat → Int32 → St → Prop
  | 0, _, _ => False
  | n + 1, v5, S => wB_X2_cutInto_92 k1 n1 p4 k (wL_X2_cutInto_92 k1 n1 p4 k n) v5 S
set_option maxHeartbeats 4000000 in
set_option maxRecDepth 100000 in
theorem L_X2_cutInto_92 {p : Program} {l : Launch} {e : Env} {s : State} {m : MethodId} {args : Array Value} {below : List Frame} {meth : Method} {c : Code} {D : va_G} {cA : Nat → ClassId} {ad : Nat → Nat} {ex : List Lay} {Q : State → Prop} (C : Cx p s m args meth c cX2_cutInto 7 none RX2 D cA ad (LU ++ ex)) (k1 n1 : Nat) (hk1 : (LU ++ ex)[k1]? = some (.inl (0, n1, 0))) (p4 : Int32) {k : Int32 → St → Prop} (hk : ∀ (v5 : Int32) (S : St), k v5 S → Go p l e rX2_cutInto s m args below meth c D cA ad (LU ++ ex) 7 0 0 Q S 136 [] []) : ∀ (n : Nat) (v5 : Int32) (S : St), wL_X2_cutInto_92 k1 n1 p4 k n v5 S → Go p l e rX2_cutInto s m args below meth c D cA ad (LU ++ ex) 7 0 0 Q S 92 [(0, .ref (ad 4)), (1, .ref (ad k1)), (4, .int p4), (5, .int v5)] [] := by
  intro n
  induction n with
  | zero => intro v5 S h; exact h.elim
  | succ n ih =>
    intro v5 S h
    replace h : wB_X2_cutInto_92 k1 n1 p4 k (wL_X2_cutInto_92 k1 n1 p4 k n) v5 S := h
    unfold wB_X2_cutInto_92 at h
    refine go_iload C 92 94 5 3 dX2_cutInto_92 rfl rfl ?_
    refine go_bipush C 94 96 (8) dX2_cutInto_94 (by decide) rfl ?_
    refine go_icmp_ge C 96 99 136 dX2_cutInto_96 (by decide) rfl (fun hc => ?_) (fun hc => ?_)
    · have h := h.1 hc
      exact go_perm [] rfl (hk _ _ h)
    · have h := h.2 hc
      refine go_iload C 99 101 5 3 dX2_cutInto_99 rfl rfl ?_
      refine go_iload C 101 103 4 2 dX2_cutInto_101 rfl rfl ?_
      refine go_icmp_ge C 103 106 136 dX2_cutInto_103 (by decide) rfl (fun hc => ?_) (fun hc => ?_)
      · have h := h.1 hc
        exact go_perm [] rfl (hk _ _ h)
      · have h := h.2 hc
        refine go_aload_n C 106 107 0 0 dX2_cutInto_106 rfl rfl rfl ?_
        refine go_vi C 107 110 0 0 [] 4 (lu4 ex) rfl (c_X2_greatestRest _  h) k458_ k461_ k55_ k460_ k30_ qX2_greatestRest mhX2_greatestRest (by decide) (by decide) rfl rfl rfl rfl (Nat.le_of_ble_eq_true rfl) rfl rfl dX2_cutInto_107 (fun r2 S1 h => ?_)
        refine go_istore C 110 112 6 [(6, .int _), (0, .ref _), (1, .ref _), (4, .int _), (5, .int _)] dX2_cutInto_110 (by decide) rfl rfl ?_
        refine go_aload_n C 112 113 1 2 dX2_cutInto_112 rfl rfl rfl ?_
        refine go_iload C 113 115 6 0 dX2_cutInto_113 rfl rfl ?_
        refine go_dup2 C 115 116 rfl rfl dX2_cutInto_115 rfl ?_
        obtain ⟨hi3, h⟩ := h
        refine go_iald C 116 117 k1 hk1 hi3 dX2_cutInto_116 rfl ?_
        refine go_iconst C 117 118 (1) dX2_cutInto_117 (by decide) rfl ?_
        refine go_iadd C 118 119 dX2_cutInto_118 rfl ?_
        obtain ⟨hi4, h⟩ := h
        refine go_iast C 119 120 k1 hk1 hi4 dX2_cutInto_119 rfl ?_
        refine go_nm (fun S5 hS5 => ?_)
        replace h := h S5 hS5
        refine go_aload_n C 120 121 0 1 dX2_cutInto_120 rfl rfl rfl ?_
        refine go_getR C 121 124 iw2 4 (lu4 ex) rfl 2 (by decide) k163_ rfl rfl dX2_cutInto_121 rfl ?_
        refine go_iload C 124 126 6 0 dX2_cutInto_124 rfl rfl ?_
        refine go_ldc2 C 126 129 k457_ dX2_cutInto_126 rfl ?_
        obtain ⟨hi6, h⟩ := h
        refine go_last C 129 130 20 (lu20 ex) hi6 dX2_cutInto_129 rfl ?_
        refine go_nm (fun S7 hS7 => ?_)
        replace h := h S7 hS7
        refine go_iinc C 130 133 5 4 (v5 + 1) [(5, .int _), (6, .int _), (0, .ref _), (1, .ref _), (4, .int _)] dX2_cutInto_130 rfl rfl (by decide) rfl rfl ?_
        refine go_goto C 133 92 dX2_cutInto_133 (by decide) ?_
        exact go_perm [2, 3, 4, 0] rfl (ih _ _ h)
def wp_X2_cutInto (S : St) (a2 : Int32) (a3 : Int32) (k1 n1 : Nat) (post : St → Prop) : Prop :=
  ((0 : Int64) < (S.2 4 1) → ∃ fu7, wL_X2_cutInto_16 k1 n1 a3 (fun (z2 : Int32) (z3 : Int32) (S1 : St) => ∃ fu6, wL_X2_cutInto_92 k1 n1 z2 (fun (z5 : Int32) (S4 : St) => post S4) fu6 (0 : Int32) S1) fu7 a2 (0 : Int32) S) ∧ (¬ ((0 : Int64) < (S.2 4 1)) → post S)
set_option maxHeartbeats 4000000 in
set_option maxRecDepth 100000 in
theorem c_X2_cutInto {l : Launch} {D : va_G} {cA : Nat → ClassId} {ad : Nat → Nat} {ex : List Lay} (S : St) (a2 : Int32) (a3 : Int32) (k1 n1 : Nat) (hk1 : (LU ++ ex)[k1]? = some (.inl (0, n1, 0))) {post : St → Prop} (h : wp_X2_cutInto S a2 a3 k1 n1 post) : MetV l yX2_cutInto cX2_cutInto 7 none rX2_cutInto D cA ad (LU ++ ex) [.ref (ad 4), .ref (ad k1), .int a2, .int a3] S post 0 0 := by
  refine MetV.of (by decide) (Nat.le_of_ble_eq_true rfl) ?_
  intro p e s m args below meth c C
  unfold wp_X2_cutInto at h
  show Go p l e rX2_cutInto s m args below meth c D cA ad (LU ++ ex) 7 0 0 _ S 0 [(0, .ref (ad 4)), (1, .ref (ad k1)), (2, .int a2), (3, .int a3)] []
  replace C : Cx p s m args meth c cX2_cutInto 7 none RX2 D cA ad (LU ++ ex) := C
  refine go_aload_n C 0 1 0 0 dX2_cutInto_0 rfl rfl rfl ?_
  refine go_getJ C 1 4 iw2 4 (lu4 ex) rfl 1 (by decide) k161_ rfl rfl dX2_cutInto_1 rfl ?_
  refine go_lconst C 4 5 0 dX2_cutInto_4 rfl rfl ?_
  refine go_lcmp_gt C 5 9 10 dX2_cutInto_5 dX2_cutInto_6 (by decide) rfl (fun hc => ?_) (fun hc => ?_)
  · have h := h.1 hc
    refine go_iload_n C 10 11 2 2 dX2_cutInto_10 rfl rfl rfl ?_
    refine go_istore C 11 13 4 [(4, .int _), (0, .ref _), (1, .ref _), (2, .int _), (3, .int _)] dX2_cutInto_11 (by decide) rfl rfl ?_
    refine go_iconst C 13 14 (0) dX2_cutInto_13 (by decide) rfl ?_
    refine go_istore C 14 16 5 [(5, .int _), (4, .int _), (0, .ref _), (1, .ref _), (2, .int _), (3, .int _)] dX2_cutInto_14 (by decide) rfl rfl ?_
    obtain ⟨fu7, h⟩ := h
    refine go_perm [2, 3, 5, 1, 0] rfl (L_X2_cutInto_16 C k1 n1 hk1 _ (fun z2 z3 S1 h => ?_) _ _ _ _ h)
    refine go_iconst C 89 90 (0) dX2_cutInto_89 (by decide) rfl ?_
    refine go_istore C 90 92 5 [(5, .int _), (0, .ref _), (1, .ref _), (4, .int _)] dX2_cutInto_90 (by decide) rfl rfl ?_
    obtain ⟨fu6, h⟩ := h
    refine go_perm [1, 2, 3, 0] rfl (L_X2_cutInto_92 C k1 n1 hk1 _ (fun z5 S4 h => ?_) _ _ _ h)
    exact go_vret C 136 rfl dX2_cutInto_136 h
  · have h := h.2 hc
    exact go_vret C 9 rfl dX2_cutInto_9 h
-- BillHouse$Ledger.differencesTo([I)I
theorem qX0_differencesTo : (parseMethodDescriptor yX0_differencesTo.desc).map (fun d => d.parameters.length) = some 1 := by decide +kernel
theorem mhX0_differencesTo : yX0_differencesTo.cls ≠ "java/lang/invoke/MethodHandle" ∧ yX0_differencesTo.cls ≠ "java/lang/invoke/VarHandle" := by decide +kernel
def rX0_differencesTo : Room := { frames := 0, cells := 0, slots := 0, locals := 0 }
def wB_X0_differencesTo_4 (k1 n1 : Nat) (k rec : Int32 → Int32 → St → Prop) (v2 : Int32) (v3 : Int32) (S : St) : Prop :=
  ((8 : Int32) ≤ v3 → k v2 v3 S) ∧ (¬ ((8 : Int32) ≤ v3) → (vp_in v3 n1) ∧ ((vp_in v3 8) ∧ (((S.1 k1 v3.toNatClampNeg) = (S.1 21 v3.toNatClampNeg) → rec v2 (v3 + 1) S) ∧ (¬ ((S.1 k1 v3.toNatClampNeg) = (S.1 21 v3.toNatClampNeg)) → rec (v2 + 1) (v3 + 1) S))))
def wL_X0_differencesTo_4 (k1 n1 : Nat) (k : Int32 → Int32 → St → Prop) : Nat → Int32 → Int32 → St → Prop
  | 0, _, _, _ => False
  | n + 1, v2, v3, S => wB_X0_differencesTo_4 k1 n1 k (wL_X0_differencesTo_4 k1 n1 k n) v2 v3 S
set_option maxHeartbeats 4000000 in
set_option maxRecDepth 100000 in
theorem L_X0_differencesTo_4 {p : Program} {l : Launch} {e : Env} {s : State} {m : MethodId} {args : Array Value} {below : List Frame} {meth : Method} {c : Code} {D : va_G} {cA : Nat → ClassId} {ad : Nat → Nat} {ex : List Lay} {Q : State → Prop} (C : Cx p s m args meth c cX0_differencesTo 4 (some .int) RX0 D cA ad (LU ++ ex)) (k1 n1 : Nat) (hk1 : (LU ++ ex)[k1]? = some (.inl (0, n1, 0))) {k : Int32 → Int32 → St → Prop} (hk : ∀ (v2 : Int32) (v3 : Int32) (S : St), k v2 v3 S → Go p l e rX0_differencesTo s m args below meth c D cA ad (LU ++ ex) 4 0 0 Q S 31 [(2, .int v2)] []) : ∀ (n : Nat) (v2 : Int32) (v3 : Int32) (S : St), wL_X0_differencesTo_4 k1 n1 k n v2 v3 S → Go p l e rX0_differencesTo s m args below meth c D cA ad (LU ++ ex) 4 0 0 Q S 4 [(0, .ref (ad 5)), (1, .ref (ad k1)), (2, .int v2), (3, .int v3)] [] := by
  intro n
  induction n with
  | zero => intro v2 v3 S h; exact h.elim
  | succ n ih =>
    intro v2 v3 S h
    replace h : wB_X0_differencesTo_4 k1 n1 k (wL_X0_differencesTo_4 k1 n1 k n) v2 v3 S := h
    unfold wB_X0_differencesTo_4 at h
    refine go_iload_n C 4 5 3 3 dX0_differencesTo_4 rfl rfl rfl ?_
    refine go_bipush C 5 7 (8) dX0_differencesTo_5 (by decide) rfl ?_
    refine go_icmp_ge C 7 10 31 dX0_differencesTo_7 (by decide) rfl (fun hc => ?_) (fun hc => ?_)
    · have h := h.1 hc
      exact go_perm [2] rfl (hk _ _ _ h)
    · have h := h.2 hc
      refine go_aload_n C 10 11 1 1 dX0_differencesTo_10 rfl rfl rfl ?_
      refine go_iload_n C 11 12 3 3 dX0_differencesTo_11 rfl rfl rfl ?_
      obtain ⟨hi1, h⟩ := h
      refine go_iald C 12 13 k1 hk1 hi1 dX0_differencesTo_12 rfl ?_
      refine go_aload_n C 13 14 0 0 dX0_differencesTo_13 rfl rfl rfl ?_
      refine go_getR C 14 17 iw0 5 (lu5 ex) rfl 2 (by decide) k181_ rfl rfl dX0_differencesTo_14 rfl ?_
      refine go_iload_n C 17 18 3 3 dX0_differencesTo_17 rfl rfl rfl ?_
      obtain ⟨hi2, h⟩ := h
      refine go_iald C 18 19 21 (lu21 ex) hi2 dX0_differencesTo_18 rfl ?_
      refine go_icmp_eq C 19 22 25 dX0_differencesTo_19 (by decide) rfl (fun hc => ?_) (fun hc => ?_)
      · have h := h.1 hc
        refine go_iinc C 25 28 3 3 (v3 + 1) [(3, .int _), (0, .ref _), (1, .ref _), (2, .int _)] dX0_differencesTo_25 rfl rfl (by decide) rfl rfl ?_
        refine go_goto C 28 4 dX0_differencesTo_28 (by decide) ?_
        exact go_perm [1, 2, 3, 0] rfl (ih _ _ _ h)
      · have h := h.2 hc
        refine go_iinc C 22 25 2 2 (v2 + 1) [(2, .int _), (0, .ref _), (1, .ref _), (3, .int _)] dX0_differencesTo_22 rfl rfl (by decide) rfl rfl ?_
        refine go_iinc C 25 28 3 3 (v3 + 1) [(3, .int _), (2, .int _), (0, .ref _), (1, .ref _)] dX0_differencesTo_25 rfl rfl (by decide) rfl rfl ?_
        refine go_goto C 28 4 dX0_differencesTo_28 (by decide) ?_
        exact go_perm [2, 3, 1, 0] rfl (ih _ _ _ h)
def wp_X0_differencesTo (S : St) (k1 n1 : Nat) (post : Int32 → St → Prop) : Prop :=
  ∃ fu4, wL_X0_differencesTo_4 k1 n1 (fun (z2 : Int32) (z3 : Int32) (S1 : St) => post z2 S1) fu4 (0 : Int32) (0 : Int32) S
set_option maxHeartbeats 4000000 in
set_option maxRecDepth 100000 in
theorem c_X0_differencesTo {l : Launch} {D : va_G} {cA : Nat → ClassId} {ad : Nat → Nat} {ex : List Lay} (S : St) (k1 n1 : Nat) (hk1 : (LU ++ ex)[k1]? = some (.inl (0, n1, 0))) {post : Int32 → St → Prop} (h : wp_X0_differencesTo S k1 n1 post) : MetI l yX0_differencesTo cX0_differencesTo 4 (some .int) rX0_differencesTo D cA ad (LU ++ ex) [.ref (ad 5), .ref (ad k1)] S post 0 0 := by
  refine MetI.of (by decide) (Nat.le_of_ble_eq_true rfl) ?_
  intro p e s m args below meth c C
  unfold wp_X0_differencesTo at h
  show Go p l e rX0_differencesTo s m args below meth c D cA ad (LU ++ ex) 4 0 0 _ S 0 [(0, .ref (ad 5)), (1, .ref (ad k1))] []
  replace C : Cx p s m args meth c cX0_differencesTo 4 (some .int) RX0 D cA ad (LU ++ ex) := C
  refine go_iconst C 0 1 (0) dX0_differencesTo_0 (by decide) rfl ?_
  refine go_istore_n C 1 2 2 [(2, .int _), (0, .ref _), (1, .ref _)] dX0_differencesTo_1 rfl (by decide) rfl rfl ?_
  refine go_iconst C 2 3 (0) dX0_differencesTo_2 (by decide) rfl ?_
  refine go_istore_n C 3 4 3 [(3, .int _), (2, .int _), (0, .ref _), (1, .ref _)] dX0_differencesTo_3 rfl (by decide) rfl rfl ?_
  obtain ⟨fu4, h⟩ := h
  refine go_perm [2, 3, 1, 0] rfl (L_X0_differencesTo_4 C k1 n1 hk1 (fun z2 z3 S1 h => ?_) _ _ _ _ h)
  refine go_iload_n C 31 32 2 0 dX0_differencesTo_31 rfl rfl rfl ?_
  exact go_iret C 32 rfl dX0_differencesTo_32 h
-- BillHouse$Ledger.enter([I)V
theorem qX0_enter : (parseMethodDescriptor yX0_enter.desc).map (fun d => d.parameters.length) = some 1 := by decide +kernel
theorem mhX0_enter : yX0_enter.cls ≠ "java/lang/invoke/MethodHandle" ∧ yX0_enter.cls ≠ "java/lang/invoke/VarHandle" := by decide +kernel
def rX0_enter : Room := { frames := 0, cells := 0, slots := 0, locals := 0 }
def wB_X0_enter_2 (k1 n1 : Nat) (k rec : Int32 → St → Prop) (v2 : Int32) (S : St) : Prop :=
  ((8 : Int32) ≤ v2 → k v2 S) ∧ (¬ ((8 : Int32) ≤ v2) → (vp_in v2 n1) ∧ ((vp_in v2 8) ∧ (((S.1 k1 v2.toNatClampNeg) = (S.1 21 v2.toNatClampNeg) → rec (v2 + 1) S) ∧ (¬ ((S.1 k1 v2.toNatClampNeg) = (S.1 21 v2.toNatClampNeg)) → ((400 : Int32) ≤ (S.1 5 1) → rec (v2 + 1) S) ∧ (¬ ((400 : Int32) ≤ (S.1 5 1)) → (vp_in (S.1 5 1) 400) ∧ (∀ S4 : St, S4 = uI S 22 ((S.1 5 1).toNatClampNeg) (S.1 5 0) → (vp_in (S4.1 5 1) 400) ∧ (∀ S6 : St, S6 = uI S4 23 ((S4.1 5 1).toNatClampNeg) v2 → (vp_in v2 n1) ∧ ((vp_in v2 8) ∧ ((vp_in (S6.1 5 1) 400) ∧ (∀ S10 : St, S10 = uI S6 24 ((S6.1 5 1).toNatClampNeg) ((S6.1 k1 v2.toNatClampNeg) - (S6.1 21 v2.toNatClampNeg)) → (vp_in v2 n1) ∧ ((vp_in v2 8) ∧ (∀ S13 : St, S13 = uI S10 21 v2.toNatClampNeg (S10.1 k1 v2.toNatClampNeg) → ∀ S14 : St, S14 = uI S13 5 1 ((S13.1 5 1) + (1 : Int32)) → rec (v2 + 1) S14))))))))))))
def wL_X0_enter_2 (k1 n1 : Nat) (k : Int32 → St → Prop) : Nat → Int32 → St → Prop
  | 0, _, _ => False
  | n + 1, v2, S => wB_X0_enter_2 k1 n1 k (wL_X0_enter_2 k1 n1 k n) v2 S
set_option maxHeartbeats 4000000 in
set_option maxRecDepth 100000 in
theorem L_X0_enter_2 {p : Program} {l : Launch} {e : Env} {s : State} {m : MethodId} {args : Array Value} {below : List Frame} {meth : Method} {c : Code} {D : va_G} {cA : Nat → ClassId} {ad : Nat → Nat} {ex : List Lay} {Q : State → Prop} (C : Cx p s m args meth c cX0_enter 3 none RX0 D cA ad (LU ++ ex)) (k1 n1 : Nat) (hk1 : (LU ++ ex)[k1]? = some (.inl (0, n1, 0))) {k : Int32 → St → Prop} (hk : ∀ (v2 : Int32) (S : St), k v2 S → Go p l e rX0_enter s m args below meth c D cA ad (LU ++ ex) 3 0 0 Q S 97 [(0, .ref (ad 5))] []) : ∀ (n : Nat) (v2 : Int32) (S : St), wL_X0_enter_2 k1 n1 k n v2 S → Go p l e rX0_enter s m args below meth c D cA ad (LU ++ ex) 3 0 0 Q S 2 [(0, .ref (ad 5)), (1, .ref (ad k1)), (2, .int v2)] [] := by
  intro n
  induction n with
  | zero => intro v2 S h; exact h.elim
  | succ n ih =>
    intro v2 S h
    replace h : wB_X0_enter_2 k1 n1 k (wL_X0_enter_2 k1 n1 k n) v2 S := h
    unfold wB_X0_enter_2 at h
    refine go_iload_n C 2 3 2 2 dX0_enter_2 rfl rfl rfl ?_
    refine go_bipush C 3 5 (8) dX0_enter_3 (by decide) rfl ?_
    refine go_icmp_ge C 5 8 97 dX0_enter_5 (by decide) rfl (fun hc => ?_) (fun hc => ?_)
    · have h := h.1 hc
      exact go_perm [0] rfl (hk _ _ h)
    · have h := h.2 hc
      refine go_aload_n C 8 9 1 1 dX0_enter_8 rfl rfl rfl ?_
      refine go_iload_n C 9 10 2 2 dX0_enter_9 rfl rfl rfl ?_
      obtain ⟨hi1, h⟩ := h
      refine go_iald C 10 11 k1 hk1 hi1 dX0_enter_10 rfl ?_
      refine go_aload_n C 11 12 0 0 dX0_enter_11 rfl rfl rfl ?_
      refine go_getR C 12 15 iw0 5 (lu5 ex) rfl 2 (by decide) k181_ rfl rfl dX0_enter_12 rfl ?_
      refine go_iload_n C 15 16 2 2 dX0_enter_15 rfl rfl rfl ?_
      obtain ⟨hi2, h⟩ := h
      refine go_iald C 16 17 21 (lu21 ex) hi2 dX0_enter_16 rfl ?_
      refine go_icmp_eq C 17 20 91 dX0_enter_17 (by decide) rfl (fun hc => ?_) (fun hc => ?_)
      · have h := h.1 hc
        refine go_iinc C 91 94 2 2 (v2 + 1) [(2, .int _), (0, .ref _), (1, .ref _)] dX0_enter_91 rfl rfl (by decide) rfl rfl ?_
        refine go_goto C 94 2 dX0_enter_94 (by decide) ?_
        exact go_perm [1, 2, 0] rfl (ih _ _ h)
      · have h := h.2 hc
        refine go_aload_n C 20 21 0 0 dX0_enter_20 rfl rfl rfl ?_
        refine go_getI C 21 24 iw0 5 (lu5 ex) rfl 1 (by decide) k179_ rfl rfl dX0_enter_21 rfl ?_
        refine go_sipush C 24 27 (400) dX0_enter_24 (by decide) rfl ?_
        refine go_icmp_ge C 27 30 91 dX0_enter_27 (by decide) rfl (fun hc => ?_) (fun hc => ?_)
        · have h := h.1 hc
          refine go_iinc C 91 94 2 2 (v2 + 1) [(2, .int _), (0, .ref _), (1, .ref _)] dX0_enter_91 rfl rfl (by decide) rfl rfl ?_
          refine go_goto C 94 2 dX0_enter_94 (by decide) ?_
          exact go_perm [1, 2, 0] rfl (ih _ _ h)
        · have h := h.2 hc
          refine go_aload_n C 30 31 0 0 dX0_enter_30 rfl rfl rfl ?_
          refine go_getR C 31 34 iw0 5 (lu5 ex) rfl 3 (by decide) k183_ rfl rfl dX0_enter_31 rfl ?_
          refine go_aload_n C 34 35 0 0 dX0_enter_34 rfl rfl rfl ?_
          refine go_getI C 35 38 iw0 5 (lu5 ex) rfl 1 (by decide) k179_ rfl rfl dX0_enter_35 rfl ?_
          refine go_aload_n C 38 39 0 0 dX0_enter_38 rfl rfl rfl ?_
          refine go_getI C 39 42 iw0 5 (lu5 ex) rfl 0 (by decide) k177_ rfl rfl dX0_enter_39 rfl ?_
          obtain ⟨hi3, h⟩ := h
          refine go_iast C 42 43 22 (lu22 ex) hi3 dX0_enter_42 rfl ?_
          refine go_nm (fun S4 hS4 => ?_)
          replace h := h S4 hS4
          refine go_aload_n C 43 44 0 0 dX0_enter_43 rfl rfl rfl ?_
          refine go_getR C 44 47 iw0 5 (lu5 ex) rfl 4 (by decide) k185_ rfl rfl dX0_enter_44 rfl ?_
          refine go_aload_n C 47 48 0 0 dX0_enter_47 rfl rfl rfl ?_
          refine go_getI C 48 51 iw0 5 (lu5 ex) rfl 1 (by decide) k179_ rfl rfl dX0_enter_48 rfl ?_
          refine go_iload_n C 51 52 2 2 dX0_enter_51 rfl rfl rfl ?_
          obtain ⟨hi5, h⟩ := h
          refine go_iast C 52 53 23 (lu23 ex) hi5 dX0_enter_52 rfl ?_
          refine go_nm (fun S6 hS6 => ?_)
          replace h := h S6 hS6
          refine go_aload_n C 53 54 0 0 dX0_enter_53 rfl rfl rfl ?_
          refine go_getR C 54 57 iw0 5 (lu5 ex) rfl 5 (by decide) k187_ rfl rfl dX0_enter_54 rfl ?_
          refine go_aload_n C 57 58 0 0 dX0_enter_57 rfl rfl rfl ?_
          refine go_getI C 58 61 iw0 5 (lu5 ex) rfl 1 (by decide) k179_ rfl rfl dX0_enter_58 rfl ?_
          refine go_aload_n C 61 62 1 1 dX0_enter_61 rfl rfl rfl ?_
          refine go_iload_n C 62 63 2 2 dX0_enter_62 rfl rfl rfl ?_
          obtain ⟨hi7, h⟩ := h
          refine go_iald C 63 64 k1 hk1 hi7 dX0_enter_63 rfl ?_
          refine go_aload_n C 64 65 0 0 dX0_enter_64 rfl rfl rfl ?_
          refine go_getR C 65 68 iw0 5 (lu5 ex) rfl 2 (by decide) k181_ rfl rfl dX0_enter_65 rfl ?_
          refine go_iload_n C 68 69 2 2 dX0_enter_68 rfl rfl rfl ?_
          obtain ⟨hi8, h⟩ := h
          refine go_iald C 69 70 21 (lu21 ex) hi8 dX0_enter_69 rfl ?_
          refine go_isub C 70 71 dX0_enter_70 rfl ?_
          obtain ⟨hi9, h⟩ := h
          refine go_iast C 71 72 24 (lu24 ex) hi9 dX0_enter_71 rfl ?_
          refine go_nm (fun S10 hS10 => ?_)
          replace h := h S10 hS10
          refine go_aload_n C 72 73 0 0 dX0_enter_72 rfl rfl rfl ?_
          refine go_getR C 73 76 iw0 5 (lu5 ex) rfl 2 (by decide) k181_ rfl rfl dX0_enter_73 rfl ?_
          refine go_iload_n C 76 77 2 2 dX0_enter_76 rfl rfl rfl ?_
          refine go_aload_n C 77 78 1 1 dX0_enter_77 rfl rfl rfl ?_
          refine go_iload_n C 78 79 2 2 dX0_enter_78 rfl rfl rfl ?_
          obtain ⟨hi11, h⟩ := h
          refine go_iald C 79 80 k1 hk1 hi11 dX0_enter_79 rfl ?_
          obtain ⟨hi12, h⟩ := h
          refine go_iast C 80 81 21 (lu21 ex) hi12 dX0_enter_80 rfl ?_
          refine go_nm (fun S13 hS13 => ?_)
          replace h := h S13 hS13
          refine go_aload_n C 81 82 0 0 dX0_enter_81 rfl rfl rfl ?_
          refine go_dup C 82 83 rfl dX0_enter_82 rfl ?_
          refine go_getI C 83 86 iw0 5 (lu5 ex) rfl 1 (by decide) k179_ rfl rfl dX0_enter_83 rfl ?_
          refine go_iconst C 86 87 (1) dX0_enter_86 (by decide) rfl ?_
          refine go_iadd C 87 88 dX0_enter_87 rfl ?_
          refine go_putI C 88 91 iw0 5 (lu5 ex) rfl 1 (by decide) tyX0 tyX0_ok nmX0 k179_ rfl rfl rfl (by decide +kernel) dX0_enter_88 rfl ?_
          refine go_nm (fun S14 hS14 => ?_)
          replace h := h S14 hS14
          refine go_iinc C 91 94 2 2 (v2 + 1) [(2, .int _), (0, .ref _), (1, .ref _)] dX0_enter_91 rfl rfl (by decide) rfl rfl ?_
          refine go_goto C 94 2 dX0_enter_94 (by decide) ?_
          exact go_perm [1, 2, 0] rfl (ih _ _ h)
def wp_X0_enter (S : St) (k1 n1 : Nat) (post : St → Prop) : Prop :=
  ∃ fu4, wL_X0_enter_2 k1 n1 (fun (z2 : Int32) (S1 : St) => ∀ S3 : St, S3 = uI S1 5 0 ((S1.1 5 0) + (1 : Int32)) → post S3) fu4 (0 : Int32) S
set_option maxHeartbeats 4000000 in
set_option maxRecDepth 100000 in
theorem c_X0_enter {l : Launch} {D : va_G} {cA : Nat → ClassId} {ad : Nat → Nat} {ex : List Lay} (S : St) (k1 n1 : Nat) (hk1 : (LU ++ ex)[k1]? = some (.inl (0, n1, 0))) {post : St → Prop} (h : wp_X0_enter S k1 n1 post) : MetV l yX0_enter cX0_enter 3 none rX0_enter D cA ad (LU ++ ex) [.ref (ad 5), .ref (ad k1)] S post 0 0 := by
  refine MetV.of (by decide) (Nat.le_of_ble_eq_true rfl) ?_
  intro p e s m args below meth c C
  unfold wp_X0_enter at h
  show Go p l e rX0_enter s m args below meth c D cA ad (LU ++ ex) 3 0 0 _ S 0 [(0, .ref (ad 5)), (1, .ref (ad k1))] []
  replace C : Cx p s m args meth c cX0_enter 3 none RX0 D cA ad (LU ++ ex) := C
  refine go_iconst C 0 1 (0) dX0_enter_0 (by decide) rfl ?_
  refine go_istore_n C 1 2 2 [(2, .int _), (0, .ref _), (1, .ref _)] dX0_enter_1 rfl (by decide) rfl rfl ?_
  obtain ⟨fu4, h⟩ := h
  refine go_perm [1, 2, 0] rfl (L_X0_enter_2 C k1 n1 hk1 (fun z2 S1 h => ?_) _ _ _ h)
  refine go_aload_n C 97 98 0 0 dX0_enter_97 rfl rfl rfl ?_
  refine go_dup C 98 99 rfl dX0_enter_98 rfl ?_
  refine go_getI C 99 102 iw0 5 (lu5 ex) rfl 0 (by decide) k177_ rfl rfl dX0_enter_99 rfl ?_
  refine go_iconst C 102 103 (1) dX0_enter_102 (by decide) rfl ?_
  refine go_iadd C 103 104 dX0_enter_103 rfl ?_
  refine go_putI C 104 107 iw0 5 (lu5 ex) rfl 0 (by decide) tyX0 tyX0_ok nmX0 k177_ rfl rfl rfl (by decide +kernel) dX0_enter_104 rfl ?_
  refine go_nm (fun S3 hS3 => ?_)
  replace h := h S3 hS3
  exact go_vret C 107 rfl dX0_enter_107 h
-- BillHouse$Ledger.coinsInAll()I
theorem qX0_coinsInAll : (parseMethodDescriptor yX0_coinsInAll.desc).map (fun d => d.parameters.length) = some 0 := by decide +kernel
theorem mhX0_coinsInAll : yX0_coinsInAll.cls ≠ "java/lang/invoke/MethodHandle" ∧ yX0_coinsInAll.cls ≠ "java/lang/invoke/VarHandle" := by decide +kernel
def rX0_coinsInAll : Room := { frames := 0, cells := 0, slots := 0, locals := 0 }
def wB_X0_coinsInAll_4 (k rec : Int32 → Int32 → St → Prop) (v1 : Int32) (v2 : Int32) (S : St) : Prop :=
  ((8 : Int32) ≤ v2 → k v1 v2 S) ∧ (¬ ((8 : Int32) ≤ v2) → (vp_in v2 8) ∧ (∀ x2 : Int32, x2 = (v1 + (S.1 21 v2.toNatClampNeg)) → rec x2 (v2 + 1) S))
def wL_X0_coinsInAll_4 (k : Int32 → Int32 → St → Prop) : Nat → Int32 → Int32 → St → Prop
  | 0, _, _, _ => False
  | n + 1, v1, v2, S => wB_X0_coinsInAll_4 k (wL_X0_coinsInAll_4 k n) v1 v2 S
set_option maxHeartbeats 4000000 in
set_option maxRecDepth 100000 in
theorem L_X0_coinsInAll_4 {p : Program} {l : Launch} {e : Env} {s : State} {m : MethodId} {args : Array Value} {below : List Frame} {meth : Method} {c : Code} {D : va_G} {cA : Nat → ClassId} {ad : Nat → Nat} {ex : List Lay} {Q : State → Prop} (C : Cx p s m args meth c cX0_coinsInAll 3 (some .int) RX0 D cA ad (LU ++ ex))   {k : Int32 → Int32 → St → Prop} (hk : ∀ (v1 : Int32) (v2 : Int32) (S : St), k v1 v2 S → Go p l e rX0_coinsInAll s m args below meth c D cA ad (LU ++ ex) 3 0 0 Q S 25 [(1, .int v1)] []) : ∀ (n : Nat) (v1 : Int32) (v2 : Int32) (S : St), wL_X0_coinsInAll_4 k n v1 v2 S → Go p l e rX0_coinsInAll s m args below meth c D cA ad (LU ++ ex) 3 0 0 Q S 4 [(0, .ref (ad 5)), (1, .int v1), (2, .int v2)] [] := by
  intro n
  induction n with
  | zero => intro v1 v2 S h; exact h.elim
  | succ n ih =>
    intro v1 v2 S h
    replace h : wB_X0_coinsInAll_4 k (wL_X0_coinsInAll_4 k n) v1 v2 S := h
    unfold wB_X0_coinsInAll_4 at h
    refine go_iload_n C 4 5 2 2 dX0_coinsInAll_4 rfl rfl rfl ?_
    refine go_bipush C 5 7 (8) dX0_coinsInAll_5 (by decide) rfl ?_
    refine go_icmp_ge C 7 10 25 dX0_coinsInAll_7 (by decide) rfl (fun hc => ?_) (fun hc => ?_)
    · have h := h.1 hc
      exact go_perm [1] rfl (hk _ _ _ h)
    · have h := h.2 hc
      refine go_iload_n C 10 11 1 1 dX0_coinsInAll_10 rfl rfl rfl ?_
      refine go_aload_n C 11 12 0 0 dX0_coinsInAll_11 rfl rfl rfl ?_
      refine go_getR C 12 15 iw0 5 (lu5 ex) rfl 2 (by decide) k181_ rfl rfl dX0_coinsInAll_12 rfl ?_
      refine go_iload_n C 15 16 2 2 dX0_coinsInAll_15 rfl rfl rfl ?_
      obtain ⟨hi1, h⟩ := h
      refine go_iald C 16 17 21 (lu21 ex) hi1 dX0_coinsInAll_16 rfl ?_
      refine go_iadd C 17 18 dX0_coinsInAll_17 rfl ?_
      refine go_topi (fun x2 hx2 => ?_)
      replace h := h x2 hx2
      refine go_istore_n C 18 19 1 [(1, .int _), (0, .ref _), (2, .int _)] dX0_coinsInAll_18 rfl (by decide) rfl rfl ?_
      refine go_iinc C 19 22 2 2 (v2 + 1) [(2, .int _), (1, .int _), (0, .ref _)] dX0_coinsInAll_19 rfl rfl (by decide) rfl rfl ?_
      refine go_goto C 22 4 dX0_coinsInAll_22 (by decide) ?_
      exact go_perm [2, 1, 0] rfl (ih _ _ _ h)
def wp_X0_coinsInAll (S : St) (post : Int32 → St → Prop) : Prop :=
  ∃ fu4, wL_X0_coinsInAll_4 (fun (z2 : Int32) (z3 : Int32) (S1 : St) => post z2 S1) fu4 (0 : Int32) (0 : Int32) S
set_option maxHeartbeats 4000000 in
set_option maxRecDepth 100000 in
theorem c_X0_coinsInAll {l : Launch} {D : va_G} {cA : Nat → ClassId} {ad : Nat → Nat} {ex : List Lay} (S : St)  {post : Int32 → St → Prop} (h : wp_X0_coinsInAll S post) : MetI l yX0_coinsInAll cX0_coinsInAll 3 (some .int) rX0_coinsInAll D cA ad (LU ++ ex) [.ref (ad 5)] S post 0 0 := by
  refine MetI.of (by decide) (Nat.le_of_ble_eq_true rfl) ?_
  intro p e s m args below meth c C
  unfold wp_X0_coinsInAll at h
  show Go p l e rX0_coinsInAll s m args below meth c D cA ad (LU ++ ex) 3 0 0 _ S 0 [(0, .ref (ad 5))] []
  replace C : Cx p s m args meth c cX0_coinsInAll 3 (some .int) RX0 D cA ad (LU ++ ex) := C
  refine go_iconst C 0 1 (0) dX0_coinsInAll_0 (by decide) rfl ?_
  refine go_istore_n C 1 2 1 [(1, .int _), (0, .ref _)] dX0_coinsInAll_1 rfl (by decide) rfl rfl ?_
  refine go_iconst C 2 3 (0) dX0_coinsInAll_2 (by decide) rfl ?_
  refine go_istore_n C 3 4 2 [(2, .int _), (1, .int _), (0, .ref _)] dX0_coinsInAll_3 rfl (by decide) rfl rfl ?_
  obtain ⟨fu4, h⟩ := h
  refine go_perm [2, 1, 0] rfl (L_X0_coinsInAll_4 C   (fun z2 z3 S1 h => ?_) _ _ _ _ h)
  refine go_iload_n C 25 26 1 0 dX0_coinsInAll_25 rfl rfl rfl ?_
  exact go_iret C 26 rfl dX0_coinsInAll_26 h
