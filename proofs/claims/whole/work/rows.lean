section
-- ===== PART A: goes FIRST, ahead of the names: the tables' words, and 'selects' of the private methods out of them =====
/-- a private method of a class that the tables say can be made, by its rows of tables_1 -/
def lw_okq (q : MethodName × Nat) : Prop := (q.1.cls ≠ "java/lang/invoke/MethodHandle" ∧ q.1.cls ≠ "java/lang/invoke/VarHandle") ∧ Cond.instantiable q.1.cls q.2 ∈ tables_1 ∧ Cond.privateMethod q.1 ∈ tables_1 ∧ Cond.instanceMethod q.1 ∈ tables_1
theorem lw_p0 : lw_okq (⟨"BillHouse$Works", "add", "(II)I"⟩, 7) := ⟨⟨by decide +kernel, by decide +kernel⟩, List.mem_of_getElem? (i := 20) (by decide +kernel), List.mem_of_getElem? (i := 183) (by decide +kernel), List.mem_of_getElem? (i := 184) (by decide +kernel)⟩
theorem lw_p1 : lw_okq (⟨"BillHouse$Works", "putCosts", "(III)V"⟩, 7) := ⟨⟨by decide +kernel, by decide +kernel⟩, List.mem_of_getElem? (i := 20) (by decide +kernel), List.mem_of_getElem? (i := 187) (by decide +kernel), List.mem_of_getElem? (i := 188) (by decide +kernel)⟩
theorem lw_p2 : lw_okq (⟨"BillHouse$Users", "add", "()I"⟩, 3) := ⟨⟨by decide +kernel, by decide +kernel⟩, List.mem_of_getElem? (i := 57) (by decide +kernel), List.mem_of_getElem? (i := 195) (by decide +kernel), List.mem_of_getElem? (i := 196) (by decide +kernel)⟩
theorem lw_p3 : lw_okq (⟨"BillHouse$Users", "turn", "(I)V"⟩, 3) := ⟨⟨by decide +kernel, by decide +kernel⟩, List.mem_of_getElem? (i := 57) (by decide +kernel), List.mem_of_getElem? (i := 199) (by decide +kernel), List.mem_of_getElem? (i := 200) (by decide +kernel)⟩
theorem lw_p4 : lw_okq (⟨"BillHouse$Works", "has", "(I)Z"⟩, 7) := ⟨⟨by decide +kernel, by decide +kernel⟩, List.mem_of_getElem? (i := 20) (by decide +kernel), List.mem_of_getElem? (i := 207) (by decide +kernel), List.mem_of_getElem? (i := 208) (by decide +kernel)⟩
theorem lw_p5 : lw_okq (⟨"BillHouse$Users", "has", "(I)Z"⟩, 3) := ⟨⟨by decide +kernel, by decide +kernel⟩, List.mem_of_getElem? (i := 57) (by decide +kernel), List.mem_of_getElem? (i := 216) (by decide +kernel), List.mem_of_getElem? (i := 217) (by decide +kernel)⟩
theorem lw_p6 : lw_okq (⟨"BillHouse$Works", "putUnitsByUser", "(III)V"⟩, 7) := ⟨⟨by decide +kernel, by decide +kernel⟩, List.mem_of_getElem? (i := 20) (by decide +kernel), List.mem_of_getElem? (i := 223) (by decide +kernel), List.mem_of_getElem? (i := 224) (by decide +kernel)⟩
theorem lw_p7 : lw_okq (⟨"BillHouse$Works", "learnNeeds", "()V"⟩, 7) := ⟨⟨by decide +kernel, by decide +kernel⟩, List.mem_of_getElem? (i := 20) (by decide +kernel), List.mem_of_getElem? (i := 227) (by decide +kernel), List.mem_of_getElem? (i := 228) (by decide +kernel)⟩
theorem lw_p8 : lw_okq (⟨"BillHouse$Works", "usedBy", "(I[[I)I"⟩, 7) := ⟨⟨by decide +kernel, by decide +kernel⟩, List.mem_of_getElem? (i := 20) (by decide +kernel), List.mem_of_getElem? (i := 231) (by decide +kernel), List.mem_of_getElem? (i := 232) (by decide +kernel)⟩
theorem lw_p9 : lw_okq (⟨"BillHouse$Works", "withAllTheyUse", "(I)I"⟩, 7) := ⟨⟨by decide +kernel, by decide +kernel⟩, List.mem_of_getElem? (i := 20) (by decide +kernel), List.mem_of_getElem? (i := 235) (by decide +kernel), List.mem_of_getElem? (i := 236) (by decide +kernel)⟩
theorem lw_p10 : lw_okq (⟨"BillHouse$Works", "putUnitsByWork", "(III)V"⟩, 7) := ⟨⟨by decide +kernel, by decide +kernel⟩, List.mem_of_getElem? (i := 20) (by decide +kernel), List.mem_of_getElem? (i := 246) (by decide +kernel), List.mem_of_getElem? (i := 247) (by decide +kernel)⟩
theorem lw_p11 : lw_okq (⟨"BillHouse$Users", "isThere", "(I)Z"⟩, 3) := ⟨⟨by decide +kernel, by decide +kernel⟩, List.mem_of_getElem? (i := 57) (by decide +kernel), List.mem_of_getElem? (i := 254) (by decide +kernel), List.mem_of_getElem? (i := 255) (by decide +kernel)⟩
theorem lw_p12 : lw_okq (⟨"BillHouse$Works", "neededBy", "(I)I"⟩, 7) := ⟨⟨by decide +kernel, by decide +kernel⟩, List.mem_of_getElem? (i := 20) (by decide +kernel), List.mem_of_getElem? (i := 271) (by decide +kernel), List.mem_of_getElem? (i := 272) (by decide +kernel)⟩
theorem lw_p13 : lw_okq (⟨"BillHouse$Works", "onRings", "()I"⟩, 7) := ⟨⟨by decide +kernel, by decide +kernel⟩, List.mem_of_getElem? (i := 20) (by decide +kernel), List.mem_of_getElem? (i := 279) (by decide +kernel), List.mem_of_getElem? (i := 280) (by decide +kernel)⟩
theorem lw_p14 : lw_okq (⟨"BillHouse", "isNeededNow", "(I)Z"⟩, 7) := ⟨⟨by decide +kernel, by decide +kernel⟩, List.mem_of_getElem? (i := 12) (by decide +kernel), List.mem_of_getElem? (i := 287) (by decide +kernel), List.mem_of_getElem? (i := 288) (by decide +kernel)⟩
theorem lw_p15 : lw_okq (⟨"BillHouse$Works", "unitsOf", "(III)I"⟩, 7) := ⟨⟨by decide +kernel, by decide +kernel⟩, List.mem_of_getElem? (i := 20) (by decide +kernel), List.mem_of_getElem? (i := 292) (by decide +kernel), List.mem_of_getElem? (i := 293) (by decide +kernel)⟩
def lw_privs_1 : List (MethodName × Nat) := [(⟨"BillHouse$Works", "add", "(II)I"⟩, 7), (⟨"BillHouse$Works", "putCosts", "(III)V"⟩, 7), (⟨"BillHouse$Users", "add", "()I"⟩, 3), (⟨"BillHouse$Users", "turn", "(I)V"⟩, 3), (⟨"BillHouse$Works", "has", "(I)Z"⟩, 7), (⟨"BillHouse$Users", "has", "(I)Z"⟩, 3), (⟨"BillHouse$Works", "putUnitsByUser", "(III)V"⟩, 7), (⟨"BillHouse$Works", "learnNeeds", "()V"⟩, 7), (⟨"BillHouse$Works", "usedBy", "(I[[I)I"⟩, 7), (⟨"BillHouse$Works", "withAllTheyUse", "(I)I"⟩, 7), (⟨"BillHouse$Works", "putUnitsByWork", "(III)V"⟩, 7), (⟨"BillHouse$Users", "isThere", "(I)Z"⟩, 3), (⟨"BillHouse$Works", "neededBy", "(I)I"⟩, 7), (⟨"BillHouse$Works", "onRings", "()I"⟩, 7), (⟨"BillHouse", "isNeededNow", "(I)Z"⟩, 7), (⟨"BillHouse$Works", "unitsOf", "(III)I"⟩, 7)]
theorem lw_r1 : ∀ q ∈ lw_privs_1, lw_okq q := List.forall_mem_cons.mpr ⟨lw_p0, List.forall_mem_cons.mpr ⟨lw_p1, List.forall_mem_cons.mpr ⟨lw_p2, List.forall_mem_cons.mpr ⟨lw_p3, List.forall_mem_cons.mpr ⟨lw_p4, List.forall_mem_cons.mpr ⟨lw_p5, List.forall_mem_cons.mpr ⟨lw_p6, List.forall_mem_cons.mpr ⟨lw_p7, List.forall_mem_cons.mpr ⟨lw_p8, List.forall_mem_cons.mpr ⟨lw_p9, List.forall_mem_cons.mpr ⟨lw_p10, List.forall_mem_cons.mpr ⟨lw_p11, List.forall_mem_cons.mpr ⟨lw_p12, List.forall_mem_cons.mpr ⟨lw_p13, List.forall_mem_cons.mpr ⟨lw_p14, List.forall_mem_cons.mpr ⟨lw_p15, fun _ h => absurd h List.not_mem_nil⟩⟩⟩⟩⟩⟩⟩⟩⟩⟩⟩⟩⟩⟩⟩⟩
theorem lw_p16 : lw_okq (⟨"BillHouse$Users", "all", "()I"⟩, 3) := ⟨⟨by decide +kernel, by decide +kernel⟩, List.mem_of_getElem? (i := 57) (by decide +kernel), List.mem_of_getElem? (i := 300) (by decide +kernel), List.mem_of_getElem? (i := 301) (by decide +kernel)⟩
theorem lw_p17 : lw_okq (⟨"BillHouse$Works", "costOf", "(I)I"⟩, 7) := ⟨⟨by decide +kernel, by decide +kernel⟩, List.mem_of_getElem? (i := 20) (by decide +kernel), List.mem_of_getElem? (i := 304) (by decide +kernel), List.mem_of_getElem? (i := 305) (by decide +kernel)⟩
theorem lw_p18 : lw_okq (⟨"BillHouse$Works", "costAt", "(II)I"⟩, 7) := ⟨⟨by decide +kernel, by decide +kernel⟩, List.mem_of_getElem? (i := 20) (by decide +kernel), List.mem_of_getElem? (i := 310) (by decide +kernel), List.mem_of_getElem? (i := 311) (by decide +kernel)⟩
theorem lw_p19 : lw_okq (⟨"BillHouse$Prices", "solve", "(LBillHouse$Works;I)V"⟩, 5) := ⟨⟨by decide +kernel, by decide +kernel⟩, List.mem_of_getElem? (i := 76) (by decide +kernel), List.mem_of_getElem? (i := 322) (by decide +kernel), List.mem_of_getElem? (i := 323) (by decide +kernel)⟩
theorem lw_p20 : lw_okq (⟨"BillHouse$Prices", "fillRow", "(LBillHouse$Works;II)V"⟩, 5) := ⟨⟨by decide +kernel, by decide +kernel⟩, List.mem_of_getElem? (i := 76) (by decide +kernel), List.mem_of_getElem? (i := 329) (by decide +kernel), List.mem_of_getElem? (i := 330) (by decide +kernel)⟩
theorem lw_p21 : lw_okq (⟨"BillHouse$Prices", "fillIdleRow", "(I)V"⟩, 5) := ⟨⟨by decide +kernel, by decide +kernel⟩, List.mem_of_getElem? (i := 76) (by decide +kernel), List.mem_of_getElem? (i := 334) (by decide +kernel), List.mem_of_getElem? (i := 335) (by decide +kernel)⟩
theorem lw_p22 : lw_okq (⟨"BillHouse$Prices", "determinant", "(I)J"⟩, 5) := ⟨⟨by decide +kernel, by decide +kernel⟩, List.mem_of_getElem? (i := 76) (by decide +kernel), List.mem_of_getElem? (i := 341) (by decide +kernel), List.mem_of_getElem? (i := 342) (by decide +kernel)⟩
theorem lw_p23 : lw_okq (⟨"BillHouse$Prices", "minorOf", "(II)J"⟩, 5) := ⟨⟨by decide +kernel, by decide +kernel⟩, List.mem_of_getElem? (i := 76) (by decide +kernel), List.mem_of_getElem? (i := 345) (by decide +kernel), List.mem_of_getElem? (i := 346) (by decide +kernel)⟩
theorem lw_p24 : lw_okq (⟨"BillHouse", "shareOut", "(I)V"⟩, 7) := ⟨⟨by decide +kernel, by decide +kernel⟩, List.mem_of_getElem? (i := 12) (by decide +kernel), List.mem_of_getElem? (i := 371) (by decide +kernel), List.mem_of_getElem? (i := 372) (by decide +kernel)⟩
theorem lw_p25 : lw_okq (⟨"BillHouse$Shares", "partByUse", "(LBillHouse$Works;LBillHouse$Prices;I)V"⟩, 3) := ⟨⟨by decide +kernel, by decide +kernel⟩, List.mem_of_getElem? (i := 105) (by decide +kernel), List.mem_of_getElem? (i := 375) (by decide +kernel), List.mem_of_getElem? (i := 376) (by decide +kernel)⟩
theorem lw_p26 : lw_okq (⟨"BillHouse$Shares", "partByAlone", "(LBillHouse$Works;I)V"⟩, 3) := ⟨⟨by decide +kernel, by decide +kernel⟩, List.mem_of_getElem? (i := 105) (by decide +kernel), List.mem_of_getElem? (i := 380) (by decide +kernel), List.mem_of_getElem? (i := 381) (by decide +kernel)⟩
theorem lw_p27 : lw_okq (⟨"BillHouse$Shares", "partByOrders", "(LBillHouse$Works;I)V"⟩, 3) := ⟨⟨by decide +kernel, by decide +kernel⟩, List.mem_of_getElem? (i := 105) (by decide +kernel), List.mem_of_getElem? (i := 385) (by decide +kernel), List.mem_of_getElem? (i := 386) (by decide +kernel)⟩
theorem lw_p28 : lw_okq (⟨"BillHouse", "fillCoins", "(I[I)V"⟩, 7) := ⟨⟨by decide +kernel, by decide +kernel⟩, List.mem_of_getElem? (i := 12) (by decide +kernel), List.mem_of_getElem? (i := 401) (by decide +kernel), List.mem_of_getElem? (i := 402) (by decide +kernel)⟩
theorem lw_p29 : lw_okq (⟨"BillHouse$Shares", "cutInto", "([III)V"⟩, 3) := ⟨⟨by decide +kernel, by decide +kernel⟩, List.mem_of_getElem? (i := 105) (by decide +kernel), List.mem_of_getElem? (i := 405) (by decide +kernel), List.mem_of_getElem? (i := 406) (by decide +kernel)⟩
theorem lw_p30 : lw_okq (⟨"BillHouse$Shares", "greatestRest", "()I"⟩, 3) := ⟨⟨by decide +kernel, by decide +kernel⟩, List.mem_of_getElem? (i := 105) (by decide +kernel), List.mem_of_getElem? (i := 410) (by decide +kernel), List.mem_of_getElem? (i := 411) (by decide +kernel)⟩
theorem lw_p31 : lw_okq (⟨"BillHouse$Shares", "numeratorOf", "(I)J"⟩, 3) := ⟨⟨by decide +kernel, by decide +kernel⟩, List.mem_of_getElem? (i := 105) (by decide +kernel), List.mem_of_getElem? (i := 418) (by decide +kernel), List.mem_of_getElem? (i := 419) (by decide +kernel)⟩
def lw_privs_2 : List (MethodName × Nat) := [(⟨"BillHouse$Users", "all", "()I"⟩, 3), (⟨"BillHouse$Works", "costOf", "(I)I"⟩, 7), (⟨"BillHouse$Works", "costAt", "(II)I"⟩, 7), (⟨"BillHouse$Prices", "solve", "(LBillHouse$Works;I)V"⟩, 5), (⟨"BillHouse$Prices", "fillRow", "(LBillHouse$Works;II)V"⟩, 5), (⟨"BillHouse$Prices", "fillIdleRow", "(I)V"⟩, 5), (⟨"BillHouse$Prices", "determinant", "(I)J"⟩, 5), (⟨"BillHouse$Prices", "minorOf", "(II)J"⟩, 5), (⟨"BillHouse", "shareOut", "(I)V"⟩, 7), (⟨"BillHouse$Shares", "partByUse", "(LBillHouse$Works;LBillHouse$Prices;I)V"⟩, 3), (⟨"BillHouse$Shares", "partByAlone", "(LBillHouse$Works;I)V"⟩, 3), (⟨"BillHouse$Shares", "partByOrders", "(LBillHouse$Works;I)V"⟩, 3), (⟨"BillHouse", "fillCoins", "(I[I)V"⟩, 7), (⟨"BillHouse$Shares", "cutInto", "([III)V"⟩, 3), (⟨"BillHouse$Shares", "greatestRest", "()I"⟩, 3), (⟨"BillHouse$Shares", "numeratorOf", "(I)J"⟩, 3)]
theorem lw_r2 : ∀ q ∈ lw_privs_2, lw_okq q := List.forall_mem_cons.mpr ⟨lw_p16, List.forall_mem_cons.mpr ⟨lw_p17, List.forall_mem_cons.mpr ⟨lw_p18, List.forall_mem_cons.mpr ⟨lw_p19, List.forall_mem_cons.mpr ⟨lw_p20, List.forall_mem_cons.mpr ⟨lw_p21, List.forall_mem_cons.mpr ⟨lw_p22, List.forall_mem_cons.mpr ⟨lw_p23, List.forall_mem_cons.mpr ⟨lw_p24, List.forall_mem_cons.mpr ⟨lw_p25, List.forall_mem_cons.mpr ⟨lw_p26, List.forall_mem_cons.mpr ⟨lw_p27, List.forall_mem_cons.mpr ⟨lw_p28, List.forall_mem_cons.mpr ⟨lw_p29, List.forall_mem_cons.mpr ⟨lw_p30, List.forall_mem_cons.mpr ⟨lw_p31, fun _ h => absurd h List.not_mem_nil⟩⟩⟩⟩⟩⟩⟩⟩⟩⟩⟩⟩⟩⟩⟩⟩
theorem lw_p32 : lw_okq (⟨"BillHouse$Ledger", "differencesTo", "([I)I"⟩, 6) := ⟨⟨by decide +kernel, by decide +kernel⟩, List.mem_of_getElem? (i := 123) (by decide +kernel), List.mem_of_getElem? (i := 437) (by decide +kernel), List.mem_of_getElem? (i := 438) (by decide +kernel)⟩
theorem lw_p33 : lw_okq (⟨"BillHouse$Ledger", "enter", "([I)V"⟩, 6) := ⟨⟨by decide +kernel, by decide +kernel⟩, List.mem_of_getElem? (i := 123) (by decide +kernel), List.mem_of_getElem? (i := 441) (by decide +kernel), List.mem_of_getElem? (i := 442) (by decide +kernel)⟩
theorem lw_p34 : lw_okq (⟨"BillHouse$Users", "markedOfThoseThere", "()I"⟩, 3) := ⟨⟨by decide +kernel, by decide +kernel⟩, List.mem_of_getElem? (i := 57) (by decide +kernel), List.mem_of_getElem? (i := 458) (by decide +kernel), List.mem_of_getElem? (i := 459) (by decide +kernel)⟩
theorem lw_p35 : lw_okq (⟨"BillHouse$Ledger", "coinsInAll", "()I"⟩, 6) := ⟨⟨by decide +kernel, by decide +kernel⟩, List.mem_of_getElem? (i := 123) (by decide +kernel), List.mem_of_getElem? (i := 463) (by decide +kernel), List.mem_of_getElem? (i := 464) (by decide +kernel)⟩
theorem lw_p36 : lw_okq (⟨"BillHouseModel", "isWork", "(I)Z"⟩, 26) := ⟨⟨by decide +kernel, by decide +kernel⟩, List.mem_of_getElem? (i := 467) (by decide +kernel), List.mem_of_getElem? (i := 568) (by decide +kernel), List.mem_of_getElem? (i := 569) (by decide +kernel)⟩
theorem lw_p37 : lw_okq (⟨"BillHouseModel", "isUser", "(I)Z"⟩, 26) := ⟨⟨by decide +kernel, by decide +kernel⟩, List.mem_of_getElem? (i := 467) (by decide +kernel), List.mem_of_getElem? (i := 576) (by decide +kernel), List.mem_of_getElem? (i := 577) (by decide +kernel)⟩
theorem lw_p38 : lw_okq (⟨"BillHouseModel", "thereSet", "()I"⟩, 26) := ⟨⟨by decide +kernel, by decide +kernel⟩, List.mem_of_getElem? (i := 467) (by decide +kernel), List.mem_of_getElem? (i := 598) (by decide +kernel), List.mem_of_getElem? (i := 599) (by decide +kernel)⟩
theorem lw_p39 : lw_okq (⟨"BillHouseModel", "neededBy", "(I)I"⟩, 26) := ⟨⟨by decide +kernel, by decide +kernel⟩, List.mem_of_getElem? (i := 467) (by decide +kernel), List.mem_of_getElem? (i := 602) (by decide +kernel), List.mem_of_getElem? (i := 603) (by decide +kernel)⟩
theorem lw_p40 : lw_okq (⟨"BillHouseModel", "totalOf", "(III)I"⟩, 26) := ⟨⟨by decide +kernel, by decide +kernel⟩, List.mem_of_getElem? (i := 467) (by decide +kernel), List.mem_of_getElem? (i := 614) (by decide +kernel), List.mem_of_getElem? (i := 615) (by decide +kernel)⟩
theorem lw_p41 : lw_okq (⟨"BillHouseModel", "costOf", "(I)I"⟩, 26) := ⟨⟨by decide +kernel, by decide +kernel⟩, List.mem_of_getElem? (i := 467) (by decide +kernel), List.mem_of_getElem? (i := 622) (by decide +kernel), List.mem_of_getElem? (i := 623) (by decide +kernel)⟩
theorem lw_p42 : lw_okq (⟨"BillHouseModel", "workCost", "(II)I"⟩, 26) := ⟨⟨by decide +kernel, by decide +kernel⟩, List.mem_of_getElem? (i := 467) (by decide +kernel), List.mem_of_getElem? (i := 626) (by decide +kernel), List.mem_of_getElem? (i := 627) (by decide +kernel)⟩
theorem lw_p43 : lw_okq (⟨"BillHouseModel", "prices", "()V"⟩, 26) := ⟨⟨by decide +kernel, by decide +kernel⟩, List.mem_of_getElem? (i := 467) (by decide +kernel), List.mem_of_getElem? (i := 635) (by decide +kernel), List.mem_of_getElem? (i := 636) (by decide +kernel)⟩
theorem lw_p44 : lw_okq (⟨"BillHouseModel", "determinant", "(III)J"⟩, 26) := ⟨⟨by decide +kernel, by decide +kernel⟩, List.mem_of_getElem? (i := 467) (by decide +kernel), List.mem_of_getElem? (i := 639) (by decide +kernel), List.mem_of_getElem? (i := 640) (by decide +kernel)⟩
theorem lw_p45 : lw_okq (⟨"BillHouseModel", "isThere", "(I)Z"⟩, 26) := ⟨⟨by decide +kernel, by decide +kernel⟩, List.mem_of_getElem? (i := 467) (by decide +kernel), List.mem_of_getElem? (i := 657) (by decide +kernel), List.mem_of_getElem? (i := 658) (by decide +kernel)⟩
theorem lw_p46 : lw_okq (⟨"BillHouseModel", "bills", "(I)V"⟩, 26) := ⟨⟨by decide +kernel, by decide +kernel⟩, List.mem_of_getElem? (i := 467) (by decide +kernel), List.mem_of_getElem? (i := 661) (by decide +kernel), List.mem_of_getElem? (i := 662) (by decide +kernel)⟩
theorem lw_p47 : lw_okq (⟨"BillHouseModel", "comes", "(I)V"⟩, 26) := ⟨⟨by decide +kernel, by decide +kernel⟩, List.mem_of_getElem? (i := 467) (by decide +kernel), List.mem_of_getElem? (i := 665) (by decide +kernel), List.mem_of_getElem? (i := 666) (by decide +kernel)⟩
def lw_privs_3 : List (MethodName × Nat) := [(⟨"BillHouse$Ledger", "differencesTo", "([I)I"⟩, 6), (⟨"BillHouse$Ledger", "enter", "([I)V"⟩, 6), (⟨"BillHouse$Users", "markedOfThoseThere", "()I"⟩, 3), (⟨"BillHouse$Ledger", "coinsInAll", "()I"⟩, 6), (⟨"BillHouseModel", "isWork", "(I)Z"⟩, 26), (⟨"BillHouseModel", "isUser", "(I)Z"⟩, 26), (⟨"BillHouseModel", "thereSet", "()I"⟩, 26), (⟨"BillHouseModel", "neededBy", "(I)I"⟩, 26), (⟨"BillHouseModel", "totalOf", "(III)I"⟩, 26), (⟨"BillHouseModel", "costOf", "(I)I"⟩, 26), (⟨"BillHouseModel", "workCost", "(II)I"⟩, 26), (⟨"BillHouseModel", "prices", "()V"⟩, 26), (⟨"BillHouseModel", "determinant", "(III)J"⟩, 26), (⟨"BillHouseModel", "isThere", "(I)Z"⟩, 26), (⟨"BillHouseModel", "bills", "(I)V"⟩, 26), (⟨"BillHouseModel", "comes", "(I)V"⟩, 26)]
theorem lw_r3 : ∀ q ∈ lw_privs_3, lw_okq q := List.forall_mem_cons.mpr ⟨lw_p32, List.forall_mem_cons.mpr ⟨lw_p33, List.forall_mem_cons.mpr ⟨lw_p34, List.forall_mem_cons.mpr ⟨lw_p35, List.forall_mem_cons.mpr ⟨lw_p36, List.forall_mem_cons.mpr ⟨lw_p37, List.forall_mem_cons.mpr ⟨lw_p38, List.forall_mem_cons.mpr ⟨lw_p39, List.forall_mem_cons.mpr ⟨lw_p40, List.forall_mem_cons.mpr ⟨lw_p41, List.forall_mem_cons.mpr ⟨lw_p42, List.forall_mem_cons.mpr ⟨lw_p43, List.forall_mem_cons.mpr ⟨lw_p44, List.forall_mem_cons.mpr ⟨lw_p45, List.forall_mem_cons.mpr ⟨lw_p46, List.forall_mem_cons.mpr ⟨lw_p47, fun _ h => absurd h List.not_mem_nil⟩⟩⟩⟩⟩⟩⟩⟩⟩⟩⟩⟩⟩⟩⟩⟩
theorem lw_p48 : lw_okq (⟨"BillHouseModel", "coinsBy", "(I)V"⟩, 26) := ⟨⟨by decide +kernel, by decide +kernel⟩, List.mem_of_getElem? (i := 467) (by decide +kernel), List.mem_of_getElem? (i := 674) (by decide +kernel), List.mem_of_getElem? (i := 675) (by decide +kernel)⟩
def lw_privs_4 : List (MethodName × Nat) := [(⟨"BillHouseModel", "coinsBy", "(I)V"⟩, 26)]
theorem lw_r4 : ∀ q ∈ lw_privs_4, lw_okq q := List.forall_mem_cons.mpr ⟨lw_p48, fun _ h => absurd h List.not_mem_nil⟩
def lw_privs : List (MethodName × Nat) := lw_privs_1 ++ (lw_privs_2 ++ (lw_privs_3 ++ (lw_privs_4)))
def lw_tbl : List Cond := k2_sels lw_privs ++ tables_1
theorem lw_privs_ok : ∀ q ∈ lw_privs, lw_okq q := by
  show ∀ q ∈ lw_privs_1 ++ (lw_privs_2 ++ (lw_privs_3 ++ (lw_privs_4))), lw_okq q
  exact List.forall_mem_append.mpr ⟨lw_r1, List.forall_mem_append.mpr ⟨lw_r2, List.forall_mem_append.mpr ⟨lw_r3, lw_r4⟩⟩⟩
end
section
def RX0 : String := "BillHouse$Ledger"
def TX0 : u_T := fun k => match k with
  | 0 => ("BillHouse$Ledger", "bookings", "I", false)
  | 1 => ("BillHouse$Ledger", "lines", "I", false)
  | 2 => ("BillHouse$Ledger", "coinsSoFar", "[I", true)
  | 3 => ("BillHouse$Ledger", "lineBookings", "[I", true)
  | 4 => ("BillHouse$Ledger", "lineUsers", "[I", true)
  | _ => ("BillHouse$Ledger", "lineCoins", "[I", true)
def tyX0 : Nat → FieldType := fun k => match k with
  | 0 => .int
  | 1 => .int
  | 2 => .array .int
  | 3 => .array .int
  | 4 => .array .int
  | _ => .array .int
abbrev wsX00 : List Cond := u_ws RX0 TX0 6
theorem nmX0 : ∀ a, a < 6 → ∀ b, b < 6 → a ≠ b → (TX0 a).2.1 ≠ (TX0 b).2.1 := by decide +kernel
theorem tyX0_ok : ∀ k, k < 6 → parseFieldDescriptor (TX0 k).2.2.1 = some (tyX0 k) := by decide +kernel
abbrev cX0_init : ByteArray := prog_2_method_1_code
def yX0_init : MethodName := ⟨RX0, "<init>", "()V"⟩
abbrev cX0_differencesTo : ByteArray := prog_2_method_2_code
def yX0_differencesTo : MethodName := ⟨RX0, "differencesTo", "([I)I"⟩
abbrev cX0_enter : ByteArray := prog_2_method_3_code
def yX0_enter : MethodName := ⟨RX0, "enter", "([I)V"⟩
abbrev cX0_coinsInAll : ByteArray := prog_2_method_4_code
def yX0_coinsInAll : MethodName := ⟨RX0, "coinsInAll", "()I"⟩
def RX1 : String := "BillHouse$Prices"
def TX1 : u_T := fun k => match k with
  | 0 => ("BillHouse$Prices", "numerators", "[J", true)
  | 1 => ("BillHouse$Prices", "denominator", "J", false)
  | 2 => ("BillHouse$Prices", "factors", "[[J", true)
  | 3 => ("BillHouse$Prices", "costs", "[J", true)
  | _ => ("BillHouse$Prices", "minors", "[J", true)
def tyX1 : Nat → FieldType := fun k => match k with
  | 0 => .array .long
  | 1 => .long
  | 2 => .array (.array .long)
  | 3 => .array .long
  | _ => .array .long
abbrev wsX10 : List Cond := u_ws RX1 TX1 5
theorem nmX1 : ∀ a, a < 5 → ∀ b, b < 5 → a ≠ b → (TX1 a).2.1 ≠ (TX1 b).2.1 := by decide +kernel
theorem tyX1_ok : ∀ k, k < 5 → parseFieldDescriptor (TX1 k).2.2.1 = some (tyX1 k) := by decide +kernel
abbrev cX1_init : ByteArray := prog_3_method_1_code
def yX1_init : MethodName := ⟨RX1, "<init>", "()V"⟩
abbrev cX1_solve : ByteArray := prog_3_method_2_code
def yX1_solve : MethodName := ⟨RX1, "solve", "(LBillHouse$Works;I)V"⟩
abbrev cX1_fillRow : ByteArray := prog_3_method_3_code
def yX1_fillRow : MethodName := ⟨RX1, "fillRow", "(LBillHouse$Works;II)V"⟩
abbrev cX1_fillIdleRow : ByteArray := prog_3_method_4_code
def yX1_fillIdleRow : MethodName := ⟨RX1, "fillIdleRow", "(I)V"⟩
abbrev cX1_determinant : ByteArray := prog_3_method_5_code
def yX1_determinant : MethodName := ⟨RX1, "determinant", "(I)J"⟩
abbrev cX1_minorOf : ByteArray := prog_3_method_6_code
def yX1_minorOf : MethodName := ⟨RX1, "minorOf", "(II)J"⟩
def RX2 : String := "BillHouse$Shares"
def TX2 : u_T := fun k => match k with
  | 0 => ("BillHouse$Shares", "numerators", "[J", true)
  | 1 => ("BillHouse$Shares", "denominator", "J", false)
  | _ => ("BillHouse$Shares", "rests", "[J", true)
def tyX2 : Nat → FieldType := fun k => match k with
  | 0 => .array .long
  | 1 => .long
  | _ => .array .long
abbrev wsX20 : List Cond := u_ws RX2 TX2 3
theorem nmX2 : ∀ a, a < 3 → ∀ b, b < 3 → a ≠ b → (TX2 a).2.1 ≠ (TX2 b).2.1 := by decide +kernel
theorem tyX2_ok : ∀ k, k < 3 → parseFieldDescriptor (TX2 k).2.2.1 = some (tyX2 k) := by decide +kernel
abbrev cX2_init : ByteArray := prog_4_method_1_code
def yX2_init : MethodName := ⟨RX2, "<init>", "()V"⟩
abbrev cX2_partByUse : ByteArray := prog_4_method_2_code
def yX2_partByUse : MethodName := ⟨RX2, "partByUse", "(LBillHouse$Works;LBillHouse$Prices;I)V"⟩
abbrev cX2_partByAlone : ByteArray := prog_4_method_3_code
def yX2_partByAlone : MethodName := ⟨RX2, "partByAlone", "(LBillHouse$Works;I)V"⟩
abbrev cX2_partByOrders : ByteArray := prog_4_method_4_code
def yX2_partByOrders : MethodName := ⟨RX2, "partByOrders", "(LBillHouse$Works;I)V"⟩
abbrev cX2_factorial : ByteArray := prog_4_method_5_code
def yX2_factorial : MethodName := ⟨RX2, "factorial", "(I)J"⟩
abbrev cX2_numeratorOf : ByteArray := prog_4_method_6_code
def yX2_numeratorOf : MethodName := ⟨RX2, "numeratorOf", "(I)J"⟩
abbrev cX2_cutInto : ByteArray := prog_4_method_7_code
def yX2_cutInto : MethodName := ⟨RX2, "cutInto", "([III)V"⟩
abbrev cX2_greatestRest : ByteArray := prog_4_method_8_code
def yX2_greatestRest : MethodName := ⟨RX2, "greatestRest", "()I"⟩
def RX3 : String := "BillHouse$Users"
def TX3 : u_T := fun k => match k with
  | 0 => ("BillHouse$Users", "made", "I", false)
  | 1 => ("BillHouse$Users", "thereSet", "I", false)
  | _ => ("BillHouse$Users", "marked", "[I", true)
def tyX3 : Nat → FieldType := fun k => match k with
  | 0 => .int
  | 1 => .int
  | _ => .array .int
abbrev wsX30 : List Cond := u_ws RX3 TX3 3
theorem nmX3 : ∀ a, a < 3 → ∀ b, b < 3 → a ≠ b → (TX3 a).2.1 ≠ (TX3 b).2.1 := by decide +kernel
theorem tyX3_ok : ∀ k, k < 3 → parseFieldDescriptor (TX3 k).2.2.1 = some (tyX3 k) := by decide +kernel
abbrev cX3_init : ByteArray := prog_5_method_1_code
def yX3_init : MethodName := ⟨RX3, "<init>", "()V"⟩
abbrev cX3_has : ByteArray := prog_5_method_2_code
def yX3_has : MethodName := ⟨RX3, "has", "(I)Z"⟩
abbrev cX3_isThere : ByteArray := prog_5_method_3_code
def yX3_isThere : MethodName := ⟨RX3, "isThere", "(I)Z"⟩
abbrev cX3_add : ByteArray := prog_5_method_4_code
def yX3_add : MethodName := ⟨RX3, "add", "()I"⟩
abbrev cX3_turn : ByteArray := prog_5_method_5_code
def yX3_turn : MethodName := ⟨RX3, "turn", "(I)V"⟩
abbrev cX3_all : ByteArray := prog_5_method_6_code
def yX3_all : MethodName := ⟨RX3, "all", "()I"⟩
abbrev cX3_markedOfThoseThere : ByteArray := prog_5_method_7_code
def yX3_markedOfThoseThere : MethodName := ⟨RX3, "markedOfThoseThere", "()I"⟩
def RX4 : String := "BillHouse$Works"
def TX4 : u_T := fun k => match k with
  | 0 => ("BillHouse$Works", "made", "I", false)
  | 1 => ("BillHouse$Works", "fixedCosts", "[I", true)
  | 2 => ("BillHouse$Works", "stepPrices", "[I", true)
  | 3 => ("BillHouse$Works", "unitsByUser", "[[I", true)
  | 4 => ("BillHouse$Works", "unitsByWork", "[[I", true)
  | 5 => ("BillHouse$Works", "needsOfUser", "[I", true)
  | _ => ("BillHouse$Works", "knownCosts", "[I", true)
def tyX4 : Nat → FieldType := fun k => match k with
  | 0 => .int
  | 1 => .array .int
  | 2 => .array .int
  | 3 => .array (.array .int)
  | 4 => .array (.array .int)
  | 5 => .array .int
  | _ => .array .int
abbrev wsX40 : List Cond := u_ws RX4 TX4 7
theorem nmX4 : ∀ a, a < 7 → ∀ b, b < 7 → a ≠ b → (TX4 a).2.1 ≠ (TX4 b).2.1 := by decide +kernel
theorem tyX4_ok : ∀ k, k < 7 → parseFieldDescriptor (TX4 k).2.2.1 = some (tyX4 k) := by decide +kernel
abbrev cX4_init : ByteArray := prog_6_method_1_code
def yX4_init : MethodName := ⟨RX4, "<init>", "()V"⟩
abbrev cX4_has : ByteArray := prog_6_method_2_code
def yX4_has : MethodName := ⟨RX4, "has", "(I)Z"⟩
abbrev cX4_add : ByteArray := prog_6_method_3_code
def yX4_add : MethodName := ⟨RX4, "add", "(II)I"⟩
abbrev cX4_putCosts : ByteArray := prog_6_method_4_code
def yX4_putCosts : MethodName := ⟨RX4, "putCosts", "(III)V"⟩
abbrev cX4_putUnitsByUser : ByteArray := prog_6_method_5_code
def yX4_putUnitsByUser : MethodName := ⟨RX4, "putUnitsByUser", "(III)V"⟩
abbrev cX4_putUnitsByWork : ByteArray := prog_6_method_6_code
def yX4_putUnitsByWork : MethodName := ⟨RX4, "putUnitsByWork", "(III)V"⟩
abbrev cX4_learnNeeds : ByteArray := prog_6_method_7_code
def yX4_learnNeeds : MethodName := ⟨RX4, "learnNeeds", "()V"⟩
abbrev cX4_usedBy : ByteArray := prog_6_method_8_code
def yX4_usedBy : MethodName := ⟨RX4, "usedBy", "(I[[I)I"⟩
abbrev cX4_withAllTheyUse : ByteArray := prog_6_method_9_code
def yX4_withAllTheyUse : MethodName := ⟨RX4, "withAllTheyUse", "(I)I"⟩
abbrev cX4_neededBy : ByteArray := prog_6_method_10_code
def yX4_neededBy : MethodName := ⟨RX4, "neededBy", "(I)I"⟩
abbrev cX4_onRings : ByteArray := prog_6_method_11_code
def yX4_onRings : MethodName := ⟨RX4, "onRings", "()I"⟩
abbrev cX4_unitsOf : ByteArray := prog_6_method_12_code
def yX4_unitsOf : MethodName := ⟨RX4, "unitsOf", "(III)I"⟩
abbrev cX4_costAt : ByteArray := prog_6_method_13_code
def yX4_costAt : MethodName := ⟨RX4, "costAt", "(II)I"⟩
abbrev cX4_costOf : ByteArray := prog_6_method_14_code
def yX4_costOf : MethodName := ⟨RX4, "costOf", "(I)I"⟩
def RX5 : String := "BillHouse"
def TX5 : u_T := fun k => match k with
  | 0 => ("BillHouse", "works", "LBillHouse$Works;", true)
  | 1 => ("BillHouse", "users", "LBillHouse$Users;", true)
  | 2 => ("BillHouse", "prices", "LBillHouse$Prices;", true)
  | 3 => ("BillHouse", "shares", "LBillHouse$Shares;", true)
  | 4 => ("BillHouse", "ledger", "LBillHouse$Ledger;", true)
  | 5 => ("BillHouse", "coinRow", "[I", true)
  | _ => ("BillHouse", "otherCoinRow", "[I", true)
def tyX5 : Nat → FieldType := fun k => match k with
  | 0 => .object "BillHouse$Works"
  | 1 => .object "BillHouse$Users"
  | 2 => .object "BillHouse$Prices"
  | 3 => .object "BillHouse$Shares"
  | 4 => .object "BillHouse$Ledger"
  | 5 => .array .int
  | _ => .array .int
abbrev wsX50 : List Cond := u_ws RX5 TX5 7
theorem nmX5 : ∀ a, a < 7 → ∀ b, b < 7 → a ≠ b → (TX5 a).2.1 ≠ (TX5 b).2.1 := by decide +kernel
theorem tyX5_ok : ∀ k, k < 7 → parseFieldDescriptor (TX5 k).2.2.1 = some (tyX5 k) := by decide +kernel
abbrev cX5_init : ByteArray := prog_1_method_1_code
def yX5_init : MethodName := ⟨RX5, "<init>", "()V"⟩
abbrev cX5_work : ByteArray := prog_1_method_2_code
def yX5_work : MethodName := ⟨RX5, "work", "(II)I"⟩
abbrev cX5_user : ByteArray := prog_1_method_3_code
def yX5_user : MethodName := ⟨RX5, "user", "()I"⟩
abbrev cX5_change : ByteArray := prog_1_method_4_code
def yX5_change : MethodName := ⟨RX5, "change", "(III)Z"⟩
abbrev cX5_use : ByteArray := prog_1_method_5_code
def yX5_use : MethodName := ⟨RX5, "use", "(III)Z"⟩
abbrev cX5_feed : ByteArray := prog_1_method_6_code
def yX5_feed : MethodName := ⟨RX5, "feed", "(III)Z"⟩
abbrev cX5_set : ByteArray := prog_1_method_7_code
def yX5_set : MethodName := ⟨RX5, "set", "(IZ)Z"⟩
abbrev cX5_mark : ByteArray := prog_1_method_8_code
def yX5_mark : MethodName := ⟨RX5, "mark", "(II)I"⟩
abbrev cX5_needed : ByteArray := prog_1_method_9_code
def yX5_needed : MethodName := ⟨RX5, "needed", "()I"⟩
abbrev cX5_idle : ByteArray := prog_1_method_10_code
def yX5_idle : MethodName := ⟨RX5, "idle", "()I"⟩
abbrev cX5_total : ByteArray := prog_1_method_11_code
def yX5_total : MethodName := ⟨RX5, "total", "(I)I"⟩
abbrev cX5_cost : ByteArray := prog_1_method_12_code
def yX5_cost : MethodName := ⟨RX5, "cost", "(I)I"⟩
abbrev cX5_price : ByteArray := prog_1_method_13_code
def yX5_price : MethodName := ⟨RX5, "price", "(II)J"⟩
abbrev cX5_bill : ByteArray := prog_1_method_14_code
def yX5_bill : MethodName := ⟨RX5, "bill", "(III)J"⟩
abbrev cX5_coins : ByteArray := prog_1_method_15_code
def yX5_coins : MethodName := ⟨RX5, "coins", "(II)I"⟩
abbrev cX5_leaving : ByteArray := prog_1_method_16_code
def yX5_leaving : MethodName := ⟨RX5, "leaving", "(I)I"⟩
abbrev cX5_saved : ByteArray := prog_1_method_17_code
def yX5_saved : MethodName := ⟨RX5, "saved", "(I)I"⟩
abbrev cX5_differ : ByteArray := prog_1_method_18_code
def yX5_differ : MethodName := ⟨RX5, "differ", "(II)I"⟩
abbrev cX5_book : ByteArray := prog_1_method_19_code
def yX5_book : MethodName := ⟨RX5, "book", "(I)I"⟩
abbrev cX5_booked : ByteArray := prog_1_method_20_code
def yX5_booked : MethodName := ⟨RX5, "booked", "(I)I"⟩
abbrev cX5_line : ByteArray := prog_1_method_21_code
def yX5_line : MethodName := ⟨RX5, "line", "(II)I"⟩
abbrev cX5_count : ByteArray := prog_1_method_22_code
def yX5_count : MethodName := ⟨RX5, "count", "(I)I"⟩
abbrev cX5_areCosts : ByteArray := prog_1_method_23_code
def yX5_areCosts : MethodName := ⟨RX5, "areCosts", "(II)Z"⟩
abbrev cX5_areUnits : ByteArray := prog_1_method_24_code
def yX5_areUnits : MethodName := ⟨RX5, "areUnits", "(I)Z"⟩
abbrev cX5_isRule : ByteArray := prog_1_method_25_code
def yX5_isRule : MethodName := ⟨RX5, "isRule", "(I)Z"⟩
abbrev cX5_isPart : ByteArray := prog_1_method_26_code
def yX5_isPart : MethodName := ⟨RX5, "isPart", "(I)Z"⟩
abbrev cX5_isIn : ByteArray := prog_1_method_27_code
def yX5_isIn : MethodName := ⟨RX5, "isIn", "(II)Z"⟩
abbrev cX5_isNeededNow : ByteArray := prog_1_method_28_code
def yX5_isNeededNow : MethodName := ⟨RX5, "isNeededNow", "(I)Z"⟩
abbrev cX5_shareOut : ByteArray := prog_1_method_29_code
def yX5_shareOut : MethodName := ⟨RX5, "shareOut", "(I)V"⟩
abbrev cX5_fillCoins : ByteArray := prog_1_method_30_code
def yX5_fillCoins : MethodName := ⟨RX5, "fillCoins", "(I[I)V"⟩
abbrev cX5_partOfFraction : ByteArray := prog_1_method_31_code
def yX5_partOfFraction : MethodName := ⟨RX5, "partOfFraction", "(JJI)J"⟩
abbrev cX5_commonDivisor : ByteArray := prog_1_method_32_code
def yX5_commonDivisor : MethodName := ⟨RX5, "commonDivisor", "(JJ)J"⟩
def RX6 : String := "BillHouseModel"
def TX6 : u_T := fun k => match k with
  | 0 => ("BillHouseModel", "thrown", "I", false)
  | 1 => ("BillHouseModel", "fixed", "[I", true)
  | 2 => ("BillHouseModel", "step", "[I", true)
  | 3 => ("BillHouseModel", "use", "[I", true)
  | 4 => ("BillHouseModel", "feed", "[I", true)
  | 5 => ("BillHouseModel", "marked", "[I", true)
  | 6 => ("BillHouseModel", "booked", "[I", true)
  | 7 => ("BillHouseModel", "there", "[Z", true)
  | 8 => ("BillHouseModel", "works", "I", false)
  | 9 => ("BillHouseModel", "users", "I", false)
  | 10 => ("BillHouseModel", "lines", "I", false)
  | 11 => ("BillHouseModel", "bookings", "I", false)
  | 12 => ("BillHouseModel", "lineBooking", "[I", true)
  | 13 => ("BillHouseModel", "lineUser", "[I", true)
  | 14 => ("BillHouseModel", "lineCoins", "[I", true)
  | 15 => ("BillHouseModel", "place", "[I", true)
  | 16 => ("BillHouseModel", "matrix", "[J", true)
  | 17 => ("BillHouseModel", "right", "[J", true)
  | 18 => ("BillHouseModel", "priceTop", "[J", true)
  | 19 => ("BillHouseModel", "many", "I", false)
  | 20 => ("BillHouseModel", "priceBelow", "J", false)
  | 21 => ("BillHouseModel", "bill", "[J", true)
  | 22 => ("BillHouseModel", "below", "J", false)
  | 23 => ("BillHouseModel", "costs", "[I", true)
  | 24 => ("BillHouseModel", "all", "I", false)
  | _ => ("BillHouseModel", "coins", "[I", true)
def tyX6 : Nat → FieldType := fun k => match k with
  | 0 => .int
  | 1 => .array .int
  | 2 => .array .int
  | 3 => .array .int
  | 4 => .array .int
  | 5 => .array .int
  | 6 => .array .int
  | 7 => .array .boolean
  | 8 => .int
  | 9 => .int
  | 10 => .int
  | 11 => .int
  | 12 => .array .int
  | 13 => .array .int
  | 14 => .array .int
  | 15 => .array .int
  | 16 => .array .long
  | 17 => .array .long
  | 18 => .array .long
  | 19 => .int
  | 20 => .long
  | 21 => .array .long
  | 22 => .long
  | 23 => .array .int
  | 24 => .int
  | _ => .array .int
abbrev wsX60 : List Cond := u_ws RX6 TX6 26
theorem nmX6 : ∀ a, a < 26 → ∀ b, b < 26 → a ≠ b → (TX6 a).2.1 ≠ (TX6 b).2.1 := by decide +kernel
theorem tyX6_ok : ∀ k, k < 26 → parseFieldDescriptor (TX6 k).2.2.1 = some (tyX6 k) := by decide +kernel
abbrev cX6_init : ByteArray := prog_8_method_1_code
def yX6_init : MethodName := ⟨RX6, "<init>", "()V"⟩
abbrev cX6_isIn : ByteArray := prog_8_method_3_code
def yX6_isIn : MethodName := ⟨RX6, "isIn", "(III)Z"⟩
abbrev cX6_isWork : ByteArray := prog_8_method_4_code
def yX6_isWork : MethodName := ⟨RX6, "isWork", "(I)Z"⟩
abbrev cX6_isUser : ByteArray := prog_8_method_5_code
def yX6_isUser : MethodName := ⟨RX6, "isUser", "(I)Z"⟩
abbrev cX6_isThere : ByteArray := prog_8_method_6_code
def yX6_isThere : MethodName := ⟨RX6, "isThere", "(I)Z"⟩
abbrev cX6_work : ByteArray := prog_8_method_7_code
def yX6_work : MethodName := ⟨RX6, "work", "(II)I"⟩
abbrev cX6_user : ByteArray := prog_8_method_8_code
def yX6_user : MethodName := ⟨RX6, "user", "()I"⟩
abbrev cX6_change : ByteArray := prog_8_method_9_code
def yX6_change : MethodName := ⟨RX6, "change", "(III)Z"⟩
abbrev cX6_use : ByteArray := prog_8_method_10_code
def yX6_use : MethodName := ⟨RX6, "use", "(III)Z"⟩
abbrev cX6_feed : ByteArray := prog_8_method_11_code
def yX6_feed : MethodName := ⟨RX6, "feed", "(III)Z"⟩
abbrev cX6_set : ByteArray := prog_8_method_12_code
def yX6_set : MethodName := ⟨RX6, "set", "(IZ)Z"⟩
abbrev cX6_mark : ByteArray := prog_8_method_13_code
def yX6_mark : MethodName := ⟨RX6, "mark", "(II)I"⟩
abbrev cX6_thereSet : ByteArray := prog_8_method_14_code
def yX6_thereSet : MethodName := ⟨RX6, "thereSet", "()I"⟩
abbrev cX6_neededBy : ByteArray := prog_8_method_15_code
def yX6_neededBy : MethodName := ⟨RX6, "neededBy", "(I)I"⟩
abbrev cX6_totalOf : ByteArray := prog_8_method_16_code
def yX6_totalOf : MethodName := ⟨RX6, "totalOf", "(III)I"⟩
abbrev cX6_workCost : ByteArray := prog_8_method_17_code
def yX6_workCost : MethodName := ⟨RX6, "workCost", "(II)I"⟩
abbrev cX6_costOf : ByteArray := prog_8_method_18_code
def yX6_costOf : MethodName := ⟨RX6, "costOf", "(I)I"⟩
abbrev cX6_needed : ByteArray := prog_8_method_19_code
def yX6_needed : MethodName := ⟨RX6, "needed", "()I"⟩
abbrev cX6_idle : ByteArray := prog_8_method_20_code
def yX6_idle : MethodName := ⟨RX6, "idle", "()I"⟩
abbrev cX6_total : ByteArray := prog_8_method_21_code
def yX6_total : MethodName := ⟨RX6, "total", "(I)I"⟩
abbrev cX6_cost : ByteArray := prog_8_method_22_code
def yX6_cost : MethodName := ⟨RX6, "cost", "(I)I"⟩
abbrev cX6_determinant : ByteArray := prog_8_method_23_code
def yX6_determinant : MethodName := ⟨RX6, "determinant", "(III)J"⟩
abbrev cX6_prices : ByteArray := prog_8_method_24_code
def yX6_prices : MethodName := ⟨RX6, "prices", "()V"⟩
abbrev cX6_common : ByteArray := prog_8_method_25_code
def yX6_common : MethodName := ⟨RX6, "common", "(JJ)J"⟩
abbrev cX6_part : ByteArray := prog_8_method_26_code
def yX6_part : MethodName := ⟨RX6, "part", "(JJI)J"⟩
abbrev cX6_price : ByteArray := prog_8_method_27_code
def yX6_price : MethodName := ⟨RX6, "price", "(II)J"⟩
abbrev cX6_bills : ByteArray := prog_8_method_28_code
def yX6_bills : MethodName := ⟨RX6, "bills", "(I)V"⟩
abbrev cX6_comes : ByteArray := prog_8_method_29_code
def yX6_comes : MethodName := ⟨RX6, "comes", "(I)V"⟩
abbrev cX6_isRule : ByteArray := prog_8_method_30_code
def yX6_isRule : MethodName := ⟨RX6, "isRule", "(I)Z"⟩
abbrev cX6_bill : ByteArray := prog_8_method_31_code
def yX6_bill : MethodName := ⟨RX6, "bill", "(III)J"⟩
abbrev cX6_coinsBy : ByteArray := prog_8_method_32_code
def yX6_coinsBy : MethodName := ⟨RX6, "coinsBy", "(I)V"⟩
abbrev cX6_coins : ByteArray := prog_8_method_33_code
def yX6_coins : MethodName := ⟨RX6, "coins", "(II)I"⟩
abbrev cX6_leaving : ByteArray := prog_8_method_34_code
def yX6_leaving : MethodName := ⟨RX6, "leaving", "(I)I"⟩
abbrev cX6_saved : ByteArray := prog_8_method_35_code
def yX6_saved : MethodName := ⟨RX6, "saved", "(I)I"⟩
abbrev cX6_differ : ByteArray := prog_8_method_36_code
def yX6_differ : MethodName := ⟨RX6, "differ", "(II)I"⟩
abbrev cX6_book : ByteArray := prog_8_method_37_code
def yX6_book : MethodName := ⟨RX6, "book", "(I)I"⟩
abbrev cX6_booked : ByteArray := prog_8_method_38_code
def yX6_booked : MethodName := ⟨RX6, "booked", "(I)I"⟩
abbrev cX6_line : ByteArray := prog_8_method_39_code
def yX6_line : MethodName := ⟨RX6, "line", "(II)I"⟩
abbrev cX6_count : ByteArray := prog_8_method_40_code
def yX6_count : MethodName := ⟨RX6, "count", "(I)I"⟩
def RJx8e188 : String := "java/lang/Cloneable"
def RJ6 : String := "java/lang/Integer"
abbrev cJ6_bitCount_0f7a4 : ByteArray := prog_10_method_49_code
def yJ6_bitCount_0f7a4 : MethodName := ⟨RJ6, "bitCount", "(I)I"⟩
def RJ9 : String := "java/lang/Math"
abbrev cJ9_abs_0f7a4 : ByteArray := prog_11_method_59_code
def yJ9_abs_0f7a4 : MethodName := ⟨RJ9, "abs", "(I)I"⟩
abbrev cJ9_abs_067f4 : ByteArray := prog_11_method_61_code
def yJ9_abs_067f4 : MethodName := ⟨RJ9, "abs", "(J)J"⟩
def RJ7 : String := "java/util/Arrays"
abbrev cJ7_fill_d0a16 : ByteArray := prog_12_method_101_code
def yJ7_fill_d0a16 : MethodName := ⟨RJ7, "fill", "([JJ)V"⟩
abbrev cJ7_fill_53178 : ByteArray := prog_12_method_103_code
def yJ7_fill_53178 : MethodName := ⟨RJ7, "fill", "([II)V"⟩
def RL : String := "BillHouseLaw"
abbrev cL_law : ByteArray := code
abbrev vwCl : List vw_C := [(RX0, TX0, 6), (RX1, TX1, 5), (RX2, TX2, 3), (RX3, TX3, 3), (RX4, TX4, 7), (RX5, TX5, 7), (RX6, TX6, 26)]
end
section
theorem dX0_init_0 : decode cX0_init 0 = .ok (.aload_n 0, 1) := by decide +kernel
theorem dX0_init_1 : decode cX0_init 1 = .ok (.invokespecial 3, 3) := by decide +kernel
theorem dX0_init_4 : decode cX0_init 4 = .ok (.aload_n 0, 1) := by decide +kernel
theorem dX0_init_5 : decode cX0_init 5 = .ok (.bipush 8, 2) := by decide +kernel
theorem dX0_init_7 : decode cX0_init 7 = .ok (.newarray .int, 2) := by decide +kernel
theorem dX0_init_9 : decode cX0_init 9 = .ok (.putfield 9, 3) := by decide +kernel
theorem dX0_init_12 : decode cX0_init 12 = .ok (.aload_n 0, 1) := by decide +kernel
theorem dX0_init_13 : decode cX0_init 13 = .ok (.sipush 400, 3) := by decide +kernel
theorem dX0_init_16 : decode cX0_init 16 = .ok (.newarray .int, 2) := by decide +kernel
theorem dX0_init_18 : decode cX0_init 18 = .ok (.putfield 15, 3) := by decide +kernel
theorem dX0_init_21 : decode cX0_init 21 = .ok (.aload_n 0, 1) := by decide +kernel
theorem dX0_init_22 : decode cX0_init 22 = .ok (.sipush 400, 3) := by decide +kernel
theorem dX0_init_25 : decode cX0_init 25 = .ok (.newarray .int, 2) := by decide +kernel
theorem dX0_init_27 : decode cX0_init 27 = .ok (.putfield 18, 3) := by decide +kernel
theorem dX0_init_30 : decode cX0_init 30 = .ok (.aload_n 0, 1) := by decide +kernel
theorem dX0_init_31 : decode cX0_init 31 = .ok (.sipush 400, 3) := by decide +kernel
theorem dX0_init_34 : decode cX0_init 34 = .ok (.newarray .int, 2) := by decide +kernel
theorem dX0_init_36 : decode cX0_init 36 = .ok (.putfield 21, 3) := by decide +kernel
theorem dX0_init_39 : decode cX0_init 39 = .ok (.return_, 1) := by decide +kernel
theorem dX0_differencesTo_0 : decode cX0_differencesTo 0 = .ok (.iconst 0, 1) := by decide +kernel
theorem dX0_differencesTo_1 : decode cX0_differencesTo 1 = .ok (.istore_n 2, 1) := by decide +kernel
theorem dX0_differencesTo_2 : decode cX0_differencesTo 2 = .ok (.iconst 0, 1) := by decide +kernel
theorem dX0_differencesTo_3 : decode cX0_differencesTo 3 = .ok (.istore_n 3, 1) := by decide +kernel
theorem dX0_differencesTo_4 : decode cX0_differencesTo 4 = .ok (.iload_n 3, 1) := by decide +kernel
theorem dX0_differencesTo_5 : decode cX0_differencesTo 5 = .ok (.bipush 8, 2) := by decide +kernel
theorem dX0_differencesTo_7 : decode cX0_differencesTo 7 = .ok (.if_icmp .ge 24, 3) := by decide +kernel
theorem dX0_differencesTo_10 : decode cX0_differencesTo 10 = .ok (.aload_n 1, 1) := by decide +kernel
theorem dX0_differencesTo_11 : decode cX0_differencesTo 11 = .ok (.iload_n 3, 1) := by decide +kernel
theorem dX0_differencesTo_12 : decode cX0_differencesTo 12 = .ok (.iaload, 1) := by decide +kernel
theorem dX0_differencesTo_13 : decode cX0_differencesTo 13 = .ok (.aload_n 0, 1) := by decide +kernel
theorem dX0_differencesTo_14 : decode cX0_differencesTo 14 = .ok (.getfield 9, 3) := by decide +kernel
theorem dX0_differencesTo_17 : decode cX0_differencesTo 17 = .ok (.iload_n 3, 1) := by decide +kernel
theorem dX0_differencesTo_18 : decode cX0_differencesTo 18 = .ok (.iaload, 1) := by decide +kernel
theorem dX0_differencesTo_19 : decode cX0_differencesTo 19 = .ok (.if_icmp .eq 6, 3) := by decide +kernel
theorem dX0_differencesTo_22 : decode cX0_differencesTo 22 = .ok (.iinc 2 1, 3) := by decide +kernel
theorem dX0_differencesTo_25 : decode cX0_differencesTo 25 = .ok (.iinc 3 1, 3) := by decide +kernel
theorem dX0_differencesTo_28 : decode cX0_differencesTo 28 = .ok (.goto (-24), 3) := by decide +kernel
theorem dX0_differencesTo_31 : decode cX0_differencesTo 31 = .ok (.iload_n 2, 1) := by decide +kernel
theorem dX0_differencesTo_32 : decode cX0_differencesTo 32 = .ok (.ireturn, 1) := by decide +kernel
theorem dX0_enter_0 : decode cX0_enter 0 = .ok (.iconst 0, 1) := by decide +kernel
theorem dX0_enter_1 : decode cX0_enter 1 = .ok (.istore_n 2, 1) := by decide +kernel
theorem dX0_enter_2 : decode cX0_enter 2 = .ok (.iload_n 2, 1) := by decide +kernel
theorem dX0_enter_3 : decode cX0_enter 3 = .ok (.bipush 8, 2) := by decide +kernel
theorem dX0_enter_5 : decode cX0_enter 5 = .ok (.if_icmp .ge 92, 3) := by decide +kernel
theorem dX0_enter_8 : decode cX0_enter 8 = .ok (.aload_n 1, 1) := by decide +kernel
theorem dX0_enter_9 : decode cX0_enter 9 = .ok (.iload_n 2, 1) := by decide +kernel
theorem dX0_enter_10 : decode cX0_enter 10 = .ok (.iaload, 1) := by decide +kernel
theorem dX0_enter_11 : decode cX0_enter 11 = .ok (.aload_n 0, 1) := by decide +kernel
theorem dX0_enter_12 : decode cX0_enter 12 = .ok (.getfield 9, 3) := by decide +kernel
theorem dX0_enter_15 : decode cX0_enter 15 = .ok (.iload_n 2, 1) := by decide +kernel
theorem dX0_enter_16 : decode cX0_enter 16 = .ok (.iaload, 1) := by decide +kernel
theorem dX0_enter_17 : decode cX0_enter 17 = .ok (.if_icmp .eq 74, 3) := by decide +kernel
theorem dX0_enter_20 : decode cX0_enter 20 = .ok (.aload_n 0, 1) := by decide +kernel
theorem dX0_enter_21 : decode cX0_enter 21 = .ok (.getfield 24, 3) := by decide +kernel
theorem dX0_enter_24 : decode cX0_enter 24 = .ok (.sipush 400, 3) := by decide +kernel
theorem dX0_enter_27 : decode cX0_enter 27 = .ok (.if_icmp .ge 64, 3) := by decide +kernel
theorem dX0_enter_30 : decode cX0_enter 30 = .ok (.aload_n 0, 1) := by decide +kernel
theorem dX0_enter_31 : decode cX0_enter 31 = .ok (.getfield 15, 3) := by decide +kernel
theorem dX0_enter_34 : decode cX0_enter 34 = .ok (.aload_n 0, 1) := by decide +kernel
theorem dX0_enter_35 : decode cX0_enter 35 = .ok (.getfield 24, 3) := by decide +kernel
theorem dX0_enter_38 : decode cX0_enter 38 = .ok (.aload_n 0, 1) := by decide +kernel
theorem dX0_enter_39 : decode cX0_enter 39 = .ok (.getfield 28, 3) := by decide +kernel
theorem dX0_enter_42 : decode cX0_enter 42 = .ok (.iastore, 1) := by decide +kernel
theorem dX0_enter_43 : decode cX0_enter 43 = .ok (.aload_n 0, 1) := by decide +kernel
theorem dX0_enter_44 : decode cX0_enter 44 = .ok (.getfield 18, 3) := by decide +kernel
theorem dX0_enter_47 : decode cX0_enter 47 = .ok (.aload_n 0, 1) := by decide +kernel
theorem dX0_enter_48 : decode cX0_enter 48 = .ok (.getfield 24, 3) := by decide +kernel
theorem dX0_enter_51 : decode cX0_enter 51 = .ok (.iload_n 2, 1) := by decide +kernel
theorem dX0_enter_52 : decode cX0_enter 52 = .ok (.iastore, 1) := by decide +kernel
theorem dX0_enter_53 : decode cX0_enter 53 = .ok (.aload_n 0, 1) := by decide +kernel
theorem dX0_enter_54 : decode cX0_enter 54 = .ok (.getfield 21, 3) := by decide +kernel
theorem dX0_enter_57 : decode cX0_enter 57 = .ok (.aload_n 0, 1) := by decide +kernel
theorem dX0_enter_58 : decode cX0_enter 58 = .ok (.getfield 24, 3) := by decide +kernel
theorem dX0_enter_61 : decode cX0_enter 61 = .ok (.aload_n 1, 1) := by decide +kernel
theorem dX0_enter_62 : decode cX0_enter 62 = .ok (.iload_n 2, 1) := by decide +kernel
theorem dX0_enter_63 : decode cX0_enter 63 = .ok (.iaload, 1) := by decide +kernel
theorem dX0_enter_64 : decode cX0_enter 64 = .ok (.aload_n 0, 1) := by decide +kernel
theorem dX0_enter_65 : decode cX0_enter 65 = .ok (.getfield 9, 3) := by decide +kernel
theorem dX0_enter_68 : decode cX0_enter 68 = .ok (.iload_n 2, 1) := by decide +kernel
theorem dX0_enter_69 : decode cX0_enter 69 = .ok (.iaload, 1) := by decide +kernel
theorem dX0_enter_70 : decode cX0_enter 70 = .ok (.isub, 1) := by decide +kernel
theorem dX0_enter_71 : decode cX0_enter 71 = .ok (.iastore, 1) := by decide +kernel
theorem dX0_enter_72 : decode cX0_enter 72 = .ok (.aload_n 0, 1) := by decide +kernel
theorem dX0_enter_73 : decode cX0_enter 73 = .ok (.getfield 9, 3) := by decide +kernel
theorem dX0_enter_76 : decode cX0_enter 76 = .ok (.iload_n 2, 1) := by decide +kernel
theorem dX0_enter_77 : decode cX0_enter 77 = .ok (.aload_n 1, 1) := by decide +kernel
theorem dX0_enter_78 : decode cX0_enter 78 = .ok (.iload_n 2, 1) := by decide +kernel
theorem dX0_enter_79 : decode cX0_enter 79 = .ok (.iaload, 1) := by decide +kernel
theorem dX0_enter_80 : decode cX0_enter 80 = .ok (.iastore, 1) := by decide +kernel
theorem dX0_enter_81 : decode cX0_enter 81 = .ok (.aload_n 0, 1) := by decide +kernel
theorem dX0_enter_82 : decode cX0_enter 82 = .ok (.dup, 1) := by decide +kernel
theorem dX0_enter_83 : decode cX0_enter 83 = .ok (.getfield 24, 3) := by decide +kernel
theorem dX0_enter_86 : decode cX0_enter 86 = .ok (.iconst 1, 1) := by decide +kernel
theorem dX0_enter_87 : decode cX0_enter 87 = .ok (.iadd, 1) := by decide +kernel
theorem dX0_enter_88 : decode cX0_enter 88 = .ok (.putfield 24, 3) := by decide +kernel
theorem dX0_enter_91 : decode cX0_enter 91 = .ok (.iinc 2 1, 3) := by decide +kernel
theorem dX0_enter_94 : decode cX0_enter 94 = .ok (.goto (-92), 3) := by decide +kernel
theorem dX0_enter_97 : decode cX0_enter 97 = .ok (.aload_n 0, 1) := by decide +kernel
theorem dX0_enter_98 : decode cX0_enter 98 = .ok (.dup, 1) := by decide +kernel
theorem dX0_enter_99 : decode cX0_enter 99 = .ok (.getfield 28, 3) := by decide +kernel
theorem dX0_enter_102 : decode cX0_enter 102 = .ok (.iconst 1, 1) := by decide +kernel
theorem dX0_enter_103 : decode cX0_enter 103 = .ok (.iadd, 1) := by decide +kernel
theorem dX0_enter_104 : decode cX0_enter 104 = .ok (.putfield 28, 3) := by decide +kernel
theorem dX0_enter_107 : decode cX0_enter 107 = .ok (.return_, 1) := by decide +kernel
theorem dX0_coinsInAll_0 : decode cX0_coinsInAll 0 = .ok (.iconst 0, 1) := by decide +kernel
theorem dX0_coinsInAll_1 : decode cX0_coinsInAll 1 = .ok (.istore_n 1, 1) := by decide +kernel
theorem dX0_coinsInAll_2 : decode cX0_coinsInAll 2 = .ok (.iconst 0, 1) := by decide +kernel
theorem dX0_coinsInAll_3 : decode cX0_coinsInAll 3 = .ok (.istore_n 2, 1) := by decide +kernel
theorem dX0_coinsInAll_4 : decode cX0_coinsInAll 4 = .ok (.iload_n 2, 1) := by decide +kernel
theorem dX0_coinsInAll_5 : decode cX0_coinsInAll 5 = .ok (.bipush 8, 2) := by decide +kernel
theorem dX0_coinsInAll_7 : decode cX0_coinsInAll 7 = .ok (.if_icmp .ge 18, 3) := by decide +kernel
theorem dX0_coinsInAll_10 : decode cX0_coinsInAll 10 = .ok (.iload_n 1, 1) := by decide +kernel
theorem dX0_coinsInAll_11 : decode cX0_coinsInAll 11 = .ok (.aload_n 0, 1) := by decide +kernel
theorem dX0_coinsInAll_12 : decode cX0_coinsInAll 12 = .ok (.getfield 9, 3) := by decide +kernel
theorem dX0_coinsInAll_15 : decode cX0_coinsInAll 15 = .ok (.iload_n 2, 1) := by decide +kernel
theorem dX0_coinsInAll_16 : decode cX0_coinsInAll 16 = .ok (.iaload, 1) := by decide +kernel
theorem dX0_coinsInAll_17 : decode cX0_coinsInAll 17 = .ok (.iadd, 1) := by decide +kernel
theorem dX0_coinsInAll_18 : decode cX0_coinsInAll 18 = .ok (.istore_n 1, 1) := by decide +kernel
theorem dX0_coinsInAll_19 : decode cX0_coinsInAll 19 = .ok (.iinc 2 1, 3) := by decide +kernel
theorem dX0_coinsInAll_22 : decode cX0_coinsInAll 22 = .ok (.goto (-18), 3) := by decide +kernel
theorem dX0_coinsInAll_25 : decode cX0_coinsInAll 25 = .ok (.iload_n 1, 1) := by decide +kernel
theorem dX0_coinsInAll_26 : decode cX0_coinsInAll 26 = .ok (.ireturn, 1) := by decide +kernel
theorem dX1_init_0 : decode cX1_init 0 = .ok (.aload_n 0, 1) := by decide +kernel
theorem dX1_init_1 : decode cX1_init 1 = .ok (.invokespecial 3, 3) := by decide +kernel
theorem dX1_init_4 : decode cX1_init 4 = .ok (.aload_n 0, 1) := by decide +kernel
theorem dX1_init_5 : decode cX1_init 5 = .ok (.bipush 6, 2) := by decide +kernel
theorem dX1_init_7 : decode cX1_init 7 = .ok (.newarray .long, 2) := by decide +kernel
theorem dX1_init_9 : decode cX1_init 9 = .ok (.putfield 9, 3) := by decide +kernel
theorem dX1_init_12 : decode cX1_init 12 = .ok (.aload_n 0, 1) := by decide +kernel
theorem dX1_init_13 : decode cX1_init 13 = .ok (.lconst 1, 1) := by decide +kernel
theorem dX1_init_14 : decode cX1_init 14 = .ok (.putfield 15, 3) := by decide +kernel
theorem dX1_init_17 : decode cX1_init 17 = .ok (.aload_n 0, 1) := by decide +kernel
theorem dX1_init_18 : decode cX1_init 18 = .ok (.bipush 6, 2) := by decide +kernel
theorem dX1_init_20 : decode cX1_init 20 = .ok (.bipush 6, 2) := by decide +kernel
theorem dX1_init_22 : decode cX1_init 22 = .ok (.multianewarray 19 2, 4) := by decide +kernel
theorem dX1_init_26 : decode cX1_init 26 = .ok (.putfield 21, 3) := by decide +kernel
theorem dX1_init_29 : decode cX1_init 29 = .ok (.aload_n 0, 1) := by decide +kernel
theorem dX1_init_30 : decode cX1_init 30 = .ok (.bipush 6, 2) := by decide +kernel
theorem dX1_init_32 : decode cX1_init 32 = .ok (.newarray .long, 2) := by decide +kernel
theorem dX1_init_34 : decode cX1_init 34 = .ok (.putfield 24, 3) := by decide +kernel
theorem dX1_init_37 : decode cX1_init 37 = .ok (.aload_n 0, 1) := by decide +kernel
theorem dX1_init_38 : decode cX1_init 38 = .ok (.bipush 64, 2) := by decide +kernel
theorem dX1_init_40 : decode cX1_init 40 = .ok (.newarray .long, 2) := by decide +kernel
theorem dX1_init_42 : decode cX1_init 42 = .ok (.putfield 27, 3) := by decide +kernel
theorem dX1_init_45 : decode cX1_init 45 = .ok (.return_, 1) := by decide +kernel
theorem dX1_solve_0 : decode cX1_solve 0 = .ok (.aload_n 1, 1) := by decide +kernel
theorem dX1_solve_1 : decode cX1_solve 1 = .ok (.iload_n 2, 1) := by decide +kernel
theorem dX1_solve_2 : decode cX1_solve 2 = .ok (.invokevirtual 30, 3) := by decide +kernel
theorem dX1_solve_5 : decode cX1_solve 5 = .ok (.istore_n 3, 1) := by decide +kernel
theorem dX1_solve_6 : decode cX1_solve 6 = .ok (.iconst 0, 1) := by decide +kernel
theorem dX1_solve_7 : decode cX1_solve 7 = .ok (.istore 4, 2) := by decide +kernel
theorem dX1_solve_9 : decode cX1_solve 9 = .ok (.iload 4, 2) := by decide +kernel
theorem dX1_solve_11 : decode cX1_solve 11 = .ok (.bipush 6, 2) := by decide +kernel
theorem dX1_solve_13 : decode cX1_solve 13 = .ok (.if_icmp .ge 42, 3) := by decide +kernel
theorem dX1_solve_16 : decode cX1_solve 16 = .ok (.iload_n 3, 1) := by decide +kernel
theorem dX1_solve_17 : decode cX1_solve 17 = .ok (.iload 4, 2) := by decide +kernel
theorem dX1_solve_19 : decode cX1_solve 19 = .ok (.invokestatic 36, 3) := by decide +kernel
theorem dX1_solve_22 : decode cX1_solve 22 = .ok (.ifCond .eq 21, 3) := by decide +kernel
theorem dX1_solve_25 : decode cX1_solve 25 = .ok (.aload_n 0, 1) := by decide +kernel
theorem dX1_solve_26 : decode cX1_solve 26 = .ok (.aload_n 1, 1) := by decide +kernel
theorem dX1_solve_27 : decode cX1_solve 27 = .ok (.iload 4, 2) := by decide +kernel
theorem dX1_solve_29 : decode cX1_solve 29 = .ok (.aload_n 1, 1) := by decide +kernel
theorem dX1_solve_30 : decode cX1_solve 30 = .ok (.iload 4, 2) := by decide +kernel
theorem dX1_solve_32 : decode cX1_solve 32 = .ok (.iload_n 2, 1) := by decide +kernel
theorem dX1_solve_33 : decode cX1_solve 33 = .ok (.iload_n 3, 1) := by decide +kernel
theorem dX1_solve_34 : decode cX1_solve 34 = .ok (.invokevirtual 40, 3) := by decide +kernel
theorem dX1_solve_37 : decode cX1_solve 37 = .ok (.invokevirtual 44, 3) := by decide +kernel
theorem dX1_solve_40 : decode cX1_solve 40 = .ok (.goto 9, 3) := by decide +kernel
theorem dX1_solve_43 : decode cX1_solve 43 = .ok (.aload_n 0, 1) := by decide +kernel
theorem dX1_solve_44 : decode cX1_solve 44 = .ok (.iload 4, 2) := by decide +kernel
theorem dX1_solve_46 : decode cX1_solve 46 = .ok (.invokevirtual 48, 3) := by decide +kernel
theorem dX1_solve_49 : decode cX1_solve 49 = .ok (.iinc 4 1, 3) := by decide +kernel
theorem dX1_solve_52 : decode cX1_solve 52 = .ok (.goto (-43), 3) := by decide +kernel
theorem dX1_solve_55 : decode cX1_solve 55 = .ok (.aload_n 0, 1) := by decide +kernel
theorem dX1_solve_56 : decode cX1_solve 56 = .ok (.aload_n 0, 1) := by decide +kernel
theorem dX1_solve_57 : decode cX1_solve 57 = .ok (.iconst (-1), 1) := by decide +kernel
theorem dX1_solve_58 : decode cX1_solve 58 = .ok (.invokevirtual 52, 3) := by decide +kernel
theorem dX1_solve_61 : decode cX1_solve 61 = .ok (.putfield 15, 3) := by decide +kernel
theorem dX1_solve_64 : decode cX1_solve 64 = .ok (.iconst 0, 1) := by decide +kernel
theorem dX1_solve_65 : decode cX1_solve 65 = .ok (.istore 4, 2) := by decide +kernel
theorem dX1_solve_67 : decode cX1_solve 67 = .ok (.iload 4, 2) := by decide +kernel
theorem dX1_solve_69 : decode cX1_solve 69 = .ok (.bipush 6, 2) := by decide +kernel
theorem dX1_solve_71 : decode cX1_solve 71 = .ok (.if_icmp .ge 22, 3) := by decide +kernel
theorem dX1_solve_74 : decode cX1_solve 74 = .ok (.aload_n 0, 1) := by decide +kernel
theorem dX1_solve_75 : decode cX1_solve 75 = .ok (.getfield 9, 3) := by decide +kernel
theorem dX1_solve_78 : decode cX1_solve 78 = .ok (.iload 4, 2) := by decide +kernel
theorem dX1_solve_80 : decode cX1_solve 80 = .ok (.aload_n 0, 1) := by decide +kernel
theorem dX1_solve_81 : decode cX1_solve 81 = .ok (.iload 4, 2) := by decide +kernel
theorem dX1_solve_83 : decode cX1_solve 83 = .ok (.invokevirtual 52, 3) := by decide +kernel
theorem dX1_solve_86 : decode cX1_solve 86 = .ok (.lastore, 1) := by decide +kernel
theorem dX1_solve_87 : decode cX1_solve 87 = .ok (.iinc 4 1, 3) := by decide +kernel
theorem dX1_solve_90 : decode cX1_solve 90 = .ok (.goto (-23), 3) := by decide +kernel
theorem dX1_solve_93 : decode cX1_solve 93 = .ok (.return_, 1) := by decide +kernel
theorem dX1_fillRow_0 : decode cX1_fillRow 0 = .ok (.iconst 0, 1) := by decide +kernel
theorem dX1_fillRow_1 : decode cX1_fillRow 1 = .ok (.istore 4, 2) := by decide +kernel
theorem dX1_fillRow_3 : decode cX1_fillRow 3 = .ok (.iload 4, 2) := by decide +kernel
theorem dX1_fillRow_5 : decode cX1_fillRow 5 = .ok (.bipush 6, 2) := by decide +kernel
theorem dX1_fillRow_7 : decode cX1_fillRow 7 = .ok (.if_icmp .ge 29, 3) := by decide +kernel
theorem dX1_fillRow_10 : decode cX1_fillRow 10 = .ok (.aload_n 0, 1) := by decide +kernel
theorem dX1_fillRow_11 : decode cX1_fillRow 11 = .ok (.getfield 21, 3) := by decide +kernel
theorem dX1_fillRow_14 : decode cX1_fillRow 14 = .ok (.iload_n 2, 1) := by decide +kernel
theorem dX1_fillRow_15 : decode cX1_fillRow 15 = .ok (.aaload, 1) := by decide +kernel
theorem dX1_fillRow_16 : decode cX1_fillRow 16 = .ok (.iload 4, 2) := by decide +kernel
theorem dX1_fillRow_18 : decode cX1_fillRow 18 = .ok (.aload_n 1, 1) := by decide +kernel
theorem dX1_fillRow_19 : decode cX1_fillRow 19 = .ok (.getfield 56, 3) := by decide +kernel
theorem dX1_fillRow_22 : decode cX1_fillRow 22 = .ok (.iload 4, 2) := by decide +kernel
theorem dX1_fillRow_24 : decode cX1_fillRow 24 = .ok (.aaload, 1) := by decide +kernel
theorem dX1_fillRow_25 : decode cX1_fillRow 25 = .ok (.iload_n 2, 1) := by decide +kernel
theorem dX1_fillRow_26 : decode cX1_fillRow 26 = .ok (.iaload, 1) := by decide +kernel
theorem dX1_fillRow_27 : decode cX1_fillRow 27 = .ok (.ineg, 1) := by decide +kernel
theorem dX1_fillRow_28 : decode cX1_fillRow 28 = .ok (.i2l, 1) := by decide +kernel
theorem dX1_fillRow_29 : decode cX1_fillRow 29 = .ok (.lastore, 1) := by decide +kernel
theorem dX1_fillRow_30 : decode cX1_fillRow 30 = .ok (.iinc 4 1, 3) := by decide +kernel
theorem dX1_fillRow_33 : decode cX1_fillRow 33 = .ok (.goto (-30), 3) := by decide +kernel
theorem dX1_fillRow_36 : decode cX1_fillRow 36 = .ok (.aload_n 0, 1) := by decide +kernel
theorem dX1_fillRow_37 : decode cX1_fillRow 37 = .ok (.getfield 21, 3) := by decide +kernel
theorem dX1_fillRow_40 : decode cX1_fillRow 40 = .ok (.iload_n 2, 1) := by decide +kernel
theorem dX1_fillRow_41 : decode cX1_fillRow 41 = .ok (.aaload, 1) := by decide +kernel
theorem dX1_fillRow_42 : decode cX1_fillRow 42 = .ok (.iload_n 2, 1) := by decide +kernel
theorem dX1_fillRow_43 : decode cX1_fillRow 43 = .ok (.iload_n 3, 1) := by decide +kernel
theorem dX1_fillRow_44 : decode cX1_fillRow 44 = .ok (.i2l, 1) := by decide +kernel
theorem dX1_fillRow_45 : decode cX1_fillRow 45 = .ok (.lastore, 1) := by decide +kernel
theorem dX1_fillRow_46 : decode cX1_fillRow 46 = .ok (.aload_n 0, 1) := by decide +kernel
theorem dX1_fillRow_47 : decode cX1_fillRow 47 = .ok (.getfield 24, 3) := by decide +kernel
theorem dX1_fillRow_50 : decode cX1_fillRow 50 = .ok (.iload_n 2, 1) := by decide +kernel
theorem dX1_fillRow_51 : decode cX1_fillRow 51 = .ok (.aload_n 1, 1) := by decide +kernel
theorem dX1_fillRow_52 : decode cX1_fillRow 52 = .ok (.iload_n 2, 1) := by decide +kernel
theorem dX1_fillRow_53 : decode cX1_fillRow 53 = .ok (.iload_n 3, 1) := by decide +kernel
theorem dX1_fillRow_54 : decode cX1_fillRow 54 = .ok (.invokevirtual 60, 3) := by decide +kernel
theorem dX1_fillRow_57 : decode cX1_fillRow 57 = .ok (.i2l, 1) := by decide +kernel
theorem dX1_fillRow_58 : decode cX1_fillRow 58 = .ok (.lastore, 1) := by decide +kernel
theorem dX1_fillRow_59 : decode cX1_fillRow 59 = .ok (.return_, 1) := by decide +kernel
theorem dX1_fillIdleRow_0 : decode cX1_fillIdleRow 0 = .ok (.aload_n 0, 1) := by decide +kernel
theorem dX1_fillIdleRow_1 : decode cX1_fillIdleRow 1 = .ok (.getfield 21, 3) := by decide +kernel
theorem dX1_fillIdleRow_4 : decode cX1_fillIdleRow 4 = .ok (.iload_n 1, 1) := by decide +kernel
theorem dX1_fillIdleRow_5 : decode cX1_fillIdleRow 5 = .ok (.aaload, 1) := by decide +kernel
theorem dX1_fillIdleRow_6 : decode cX1_fillIdleRow 6 = .ok (.lconst 0, 1) := by decide +kernel
theorem dX1_fillIdleRow_7 : decode cX1_fillIdleRow 7 = .ok (.invokestatic 64, 3) := by decide +kernel
theorem dX1_fillIdleRow_10 : decode cX1_fillIdleRow 10 = .ok (.aload_n 0, 1) := by decide +kernel
theorem dX1_fillIdleRow_11 : decode cX1_fillIdleRow 11 = .ok (.getfield 21, 3) := by decide +kernel
theorem dX1_fillIdleRow_14 : decode cX1_fillIdleRow 14 = .ok (.iload_n 1, 1) := by decide +kernel
theorem dX1_fillIdleRow_15 : decode cX1_fillIdleRow 15 = .ok (.aaload, 1) := by decide +kernel
theorem dX1_fillIdleRow_16 : decode cX1_fillIdleRow 16 = .ok (.iload_n 1, 1) := by decide +kernel
theorem dX1_fillIdleRow_17 : decode cX1_fillIdleRow 17 = .ok (.lconst 1, 1) := by decide +kernel
theorem dX1_fillIdleRow_18 : decode cX1_fillIdleRow 18 = .ok (.lastore, 1) := by decide +kernel
theorem dX1_fillIdleRow_19 : decode cX1_fillIdleRow 19 = .ok (.aload_n 0, 1) := by decide +kernel
theorem dX1_fillIdleRow_20 : decode cX1_fillIdleRow 20 = .ok (.getfield 24, 3) := by decide +kernel
theorem dX1_fillIdleRow_23 : decode cX1_fillIdleRow 23 = .ok (.iload_n 1, 1) := by decide +kernel
theorem dX1_fillIdleRow_24 : decode cX1_fillIdleRow 24 = .ok (.lconst 0, 1) := by decide +kernel
theorem dX1_fillIdleRow_25 : decode cX1_fillIdleRow 25 = .ok (.lastore, 1) := by decide +kernel
theorem dX1_fillIdleRow_26 : decode cX1_fillIdleRow 26 = .ok (.return_, 1) := by decide +kernel
theorem dX1_determinant_0 : decode cX1_determinant 0 = .ok (.aload_n 0, 1) := by decide +kernel
theorem dX1_determinant_1 : decode cX1_determinant 1 = .ok (.getfield 27, 3) := by decide +kernel
theorem dX1_determinant_4 : decode cX1_determinant 4 = .ok (.iconst 0, 1) := by decide +kernel
theorem dX1_determinant_5 : decode cX1_determinant 5 = .ok (.lconst 1, 1) := by decide +kernel
theorem dX1_determinant_6 : decode cX1_determinant 6 = .ok (.lastore, 1) := by decide +kernel
theorem dX1_determinant_7 : decode cX1_determinant 7 = .ok (.iconst 1, 1) := by decide +kernel
theorem dX1_determinant_8 : decode cX1_determinant 8 = .ok (.istore_n 2, 1) := by decide +kernel
theorem dX1_determinant_9 : decode cX1_determinant 9 = .ok (.iload_n 2, 1) := by decide +kernel
theorem dX1_determinant_10 : decode cX1_determinant 10 = .ok (.aload_n 0, 1) := by decide +kernel
theorem dX1_determinant_11 : decode cX1_determinant 11 = .ok (.getfield 27, 3) := by decide +kernel
theorem dX1_determinant_14 : decode cX1_determinant 14 = .ok (.arraylength, 1) := by decide +kernel
theorem dX1_determinant_15 : decode cX1_determinant 15 = .ok (.if_icmp .ge 21, 3) := by decide +kernel
theorem dX1_determinant_18 : decode cX1_determinant 18 = .ok (.aload_n 0, 1) := by decide +kernel
theorem dX1_determinant_19 : decode cX1_determinant 19 = .ok (.getfield 27, 3) := by decide +kernel
theorem dX1_determinant_22 : decode cX1_determinant 22 = .ok (.iload_n 2, 1) := by decide +kernel
theorem dX1_determinant_23 : decode cX1_determinant 23 = .ok (.aload_n 0, 1) := by decide +kernel
theorem dX1_determinant_24 : decode cX1_determinant 24 = .ok (.iload_n 2, 1) := by decide +kernel
theorem dX1_determinant_25 : decode cX1_determinant 25 = .ok (.iload_n 1, 1) := by decide +kernel
theorem dX1_determinant_26 : decode cX1_determinant 26 = .ok (.invokevirtual 70, 3) := by decide +kernel
theorem dX1_determinant_29 : decode cX1_determinant 29 = .ok (.lastore, 1) := by decide +kernel
theorem dX1_determinant_30 : decode cX1_determinant 30 = .ok (.iinc 2 1, 3) := by decide +kernel
theorem dX1_determinant_33 : decode cX1_determinant 33 = .ok (.goto (-24), 3) := by decide +kernel
theorem dX1_determinant_36 : decode cX1_determinant 36 = .ok (.aload_n 0, 1) := by decide +kernel
theorem dX1_determinant_37 : decode cX1_determinant 37 = .ok (.getfield 27, 3) := by decide +kernel
theorem dX1_determinant_40 : decode cX1_determinant 40 = .ok (.aload_n 0, 1) := by decide +kernel
theorem dX1_determinant_41 : decode cX1_determinant 41 = .ok (.getfield 27, 3) := by decide +kernel
theorem dX1_determinant_44 : decode cX1_determinant 44 = .ok (.arraylength, 1) := by decide +kernel
theorem dX1_determinant_45 : decode cX1_determinant 45 = .ok (.iconst 1, 1) := by decide +kernel
theorem dX1_determinant_46 : decode cX1_determinant 46 = .ok (.isub, 1) := by decide +kernel
theorem dX1_determinant_47 : decode cX1_determinant 47 = .ok (.laload, 1) := by decide +kernel
theorem dX1_determinant_48 : decode cX1_determinant 48 = .ok (.lreturn, 1) := by decide +kernel
theorem dX1_minorOf_0 : decode cX1_minorOf 0 = .ok (.iload_n 1, 1) := by decide +kernel
theorem dX1_minorOf_1 : decode cX1_minorOf 1 = .ok (.invokestatic 74, 3) := by decide +kernel
theorem dX1_minorOf_4 : decode cX1_minorOf 4 = .ok (.iconst 1, 1) := by decide +kernel
theorem dX1_minorOf_5 : decode cX1_minorOf 5 = .ok (.isub, 1) := by decide +kernel
theorem dX1_minorOf_6 : decode cX1_minorOf 6 = .ok (.istore_n 3, 1) := by decide +kernel
theorem dX1_minorOf_7 : decode cX1_minorOf 7 = .ok (.lconst 0, 1) := by decide +kernel
theorem dX1_minorOf_8 : decode cX1_minorOf 8 = .ok (.lstore 4, 2) := by decide +kernel
theorem dX1_minorOf_10 : decode cX1_minorOf 10 = .ok (.iconst 0, 1) := by decide +kernel
theorem dX1_minorOf_11 : decode cX1_minorOf 11 = .ok (.istore 6, 2) := by decide +kernel
theorem dX1_minorOf_13 : decode cX1_minorOf 13 = .ok (.iload 6, 2) := by decide +kernel
theorem dX1_minorOf_15 : decode cX1_minorOf 15 = .ok (.bipush 6, 2) := by decide +kernel
theorem dX1_minorOf_17 : decode cX1_minorOf 17 = .ok (.if_icmp .ge 101, 3) := by decide +kernel
theorem dX1_minorOf_20 : decode cX1_minorOf 20 = .ok (.iload_n 1, 1) := by decide +kernel
theorem dX1_minorOf_21 : decode cX1_minorOf 21 = .ok (.iload 6, 2) := by decide +kernel
theorem dX1_minorOf_23 : decode cX1_minorOf 23 = .ok (.invokestatic 36, 3) := by decide +kernel
theorem dX1_minorOf_26 : decode cX1_minorOf 26 = .ok (.ifCond .eq 86, 3) := by decide +kernel
theorem dX1_minorOf_29 : decode cX1_minorOf 29 = .ok (.iload 6, 2) := by decide +kernel
theorem dX1_minorOf_31 : decode cX1_minorOf 31 = .ok (.iload_n 2, 1) := by decide +kernel
theorem dX1_minorOf_32 : decode cX1_minorOf 32 = .ok (.if_icmp .ne 12, 3) := by decide +kernel
theorem dX1_minorOf_35 : decode cX1_minorOf 35 = .ok (.aload_n 0, 1) := by decide +kernel
theorem dX1_minorOf_36 : decode cX1_minorOf 36 = .ok (.getfield 24, 3) := by decide +kernel
theorem dX1_minorOf_39 : decode cX1_minorOf 39 = .ok (.iload_n 3, 1) := by decide +kernel
theorem dX1_minorOf_40 : decode cX1_minorOf 40 = .ok (.laload, 1) := by decide +kernel
theorem dX1_minorOf_41 : decode cX1_minorOf 41 = .ok (.goto 12, 3) := by decide +kernel
theorem dX1_minorOf_44 : decode cX1_minorOf 44 = .ok (.aload_n 0, 1) := by decide +kernel
theorem dX1_minorOf_45 : decode cX1_minorOf 45 = .ok (.getfield 21, 3) := by decide +kernel
theorem dX1_minorOf_48 : decode cX1_minorOf 48 = .ok (.iload_n 3, 1) := by decide +kernel
theorem dX1_minorOf_49 : decode cX1_minorOf 49 = .ok (.aaload, 1) := by decide +kernel
theorem dX1_minorOf_50 : decode cX1_minorOf 50 = .ok (.iload 6, 2) := by decide +kernel
theorem dX1_minorOf_52 : decode cX1_minorOf 52 = .ok (.laload, 1) := by decide +kernel
theorem dX1_minorOf_53 : decode cX1_minorOf 53 = .ok (.lstore 7, 2) := by decide +kernel
theorem dX1_minorOf_55 : decode cX1_minorOf 55 = .ok (.lload 7, 2) := by decide +kernel
theorem dX1_minorOf_57 : decode cX1_minorOf 57 = .ok (.aload_n 0, 1) := by decide +kernel
theorem dX1_minorOf_58 : decode cX1_minorOf 58 = .ok (.getfield 27, 3) := by decide +kernel
theorem dX1_minorOf_61 : decode cX1_minorOf 61 = .ok (.iload_n 1, 1) := by decide +kernel
theorem dX1_minorOf_62 : decode cX1_minorOf 62 = .ok (.iconst 1, 1) := by decide +kernel
theorem dX1_minorOf_63 : decode cX1_minorOf 63 = .ok (.iload 6, 2) := by decide +kernel
theorem dX1_minorOf_65 : decode cX1_minorOf 65 = .ok (.ishl, 1) := by decide +kernel
theorem dX1_minorOf_66 : decode cX1_minorOf 66 = .ok (.iconst (-1), 1) := by decide +kernel
theorem dX1_minorOf_67 : decode cX1_minorOf 67 = .ok (.ixor, 1) := by decide +kernel
theorem dX1_minorOf_68 : decode cX1_minorOf 68 = .ok (.iand, 1) := by decide +kernel
theorem dX1_minorOf_69 : decode cX1_minorOf 69 = .ok (.laload, 1) := by decide +kernel
theorem dX1_minorOf_70 : decode cX1_minorOf 70 = .ok (.lmul, 1) := by decide +kernel
theorem dX1_minorOf_71 : decode cX1_minorOf 71 = .ok (.lstore 9, 2) := by decide +kernel
theorem dX1_minorOf_73 : decode cX1_minorOf 73 = .ok (.iload_n 1, 1) := by decide +kernel
theorem dX1_minorOf_74 : decode cX1_minorOf 74 = .ok (.iload 6, 2) := by decide +kernel
theorem dX1_minorOf_76 : decode cX1_minorOf 76 = .ok (.iconst 1, 1) := by decide +kernel
theorem dX1_minorOf_77 : decode cX1_minorOf 77 = .ok (.iadd, 1) := by decide +kernel
theorem dX1_minorOf_78 : decode cX1_minorOf 78 = .ok (.ishr, 1) := by decide +kernel
theorem dX1_minorOf_79 : decode cX1_minorOf 79 = .ok (.invokestatic 74, 3) := by decide +kernel
theorem dX1_minorOf_82 : decode cX1_minorOf 82 = .ok (.iconst 1, 1) := by decide +kernel
theorem dX1_minorOf_83 : decode cX1_minorOf 83 = .ok (.iand, 1) := by decide +kernel
theorem dX1_minorOf_84 : decode cX1_minorOf 84 = .ok (.ifCond .eq 7, 3) := by decide +kernel
theorem dX1_minorOf_87 : decode cX1_minorOf 87 = .ok (.iconst 1, 1) := by decide +kernel
theorem dX1_minorOf_88 : decode cX1_minorOf 88 = .ok (.goto 4, 3) := by decide +kernel
theorem dX1_minorOf_91 : decode cX1_minorOf 91 = .ok (.iconst 0, 1) := by decide +kernel
theorem dX1_minorOf_92 : decode cX1_minorOf 92 = .ok (.istore 11, 2) := by decide +kernel
theorem dX1_minorOf_94 : decode cX1_minorOf 94 = .ok (.lload 4, 2) := by decide +kernel
theorem dX1_minorOf_96 : decode cX1_minorOf 96 = .ok (.iload 11, 2) := by decide +kernel
theorem dX1_minorOf_98 : decode cX1_minorOf 98 = .ok (.ifCond .eq 9, 3) := by decide +kernel
theorem dX1_minorOf_101 : decode cX1_minorOf 101 = .ok (.lload 9, 2) := by decide +kernel
theorem dX1_minorOf_103 : decode cX1_minorOf 103 = .ok (.lneg, 1) := by decide +kernel
theorem dX1_minorOf_104 : decode cX1_minorOf 104 = .ok (.goto 5, 3) := by decide +kernel
theorem dX1_minorOf_107 : decode cX1_minorOf 107 = .ok (.lload 9, 2) := by decide +kernel
theorem dX1_minorOf_109 : decode cX1_minorOf 109 = .ok (.ladd, 1) := by decide +kernel
theorem dX1_minorOf_110 : decode cX1_minorOf 110 = .ok (.lstore 4, 2) := by decide +kernel
theorem dX1_minorOf_112 : decode cX1_minorOf 112 = .ok (.iinc 6 1, 3) := by decide +kernel
theorem dX1_minorOf_115 : decode cX1_minorOf 115 = .ok (.goto (-102), 3) := by decide +kernel
theorem dX1_minorOf_118 : decode cX1_minorOf 118 = .ok (.lload 4, 2) := by decide +kernel
theorem dX1_minorOf_120 : decode cX1_minorOf 120 = .ok (.lreturn, 1) := by decide +kernel
theorem dX2_init_0 : decode cX2_init 0 = .ok (.aload_n 0, 1) := by decide +kernel
theorem dX2_init_1 : decode cX2_init 1 = .ok (.invokespecial 3, 3) := by decide +kernel
theorem dX2_init_4 : decode cX2_init 4 = .ok (.aload_n 0, 1) := by decide +kernel
theorem dX2_init_5 : decode cX2_init 5 = .ok (.bipush 8, 2) := by decide +kernel
theorem dX2_init_7 : decode cX2_init 7 = .ok (.newarray .long, 2) := by decide +kernel
theorem dX2_init_9 : decode cX2_init 9 = .ok (.putfield 9, 3) := by decide +kernel
theorem dX2_init_12 : decode cX2_init 12 = .ok (.aload_n 0, 1) := by decide +kernel
theorem dX2_init_13 : decode cX2_init 13 = .ok (.lconst 1, 1) := by decide +kernel
theorem dX2_init_14 : decode cX2_init 14 = .ok (.putfield 15, 3) := by decide +kernel
theorem dX2_init_17 : decode cX2_init 17 = .ok (.aload_n 0, 1) := by decide +kernel
theorem dX2_init_18 : decode cX2_init 18 = .ok (.bipush 8, 2) := by decide +kernel
theorem dX2_init_20 : decode cX2_init 20 = .ok (.newarray .long, 2) := by decide +kernel
theorem dX2_init_22 : decode cX2_init 22 = .ok (.putfield 19, 3) := by decide +kernel
theorem dX2_init_25 : decode cX2_init 25 = .ok (.return_, 1) := by decide +kernel
theorem dX2_partByUse_0 : decode cX2_partByUse 0 = .ok (.aload_n 0, 1) := by decide +kernel
theorem dX2_partByUse_1 : decode cX2_partByUse 1 = .ok (.aload_n 2, 1) := by decide +kernel
theorem dX2_partByUse_2 : decode cX2_partByUse 2 = .ok (.getfield 22, 3) := by decide +kernel
theorem dX2_partByUse_5 : decode cX2_partByUse 5 = .ok (.putfield 15, 3) := by decide +kernel
theorem dX2_partByUse_8 : decode cX2_partByUse 8 = .ok (.iconst 0, 1) := by decide +kernel
theorem dX2_partByUse_9 : decode cX2_partByUse 9 = .ok (.istore 4, 2) := by decide +kernel
theorem dX2_partByUse_11 : decode cX2_partByUse 11 = .ok (.iload 4, 2) := by decide +kernel
theorem dX2_partByUse_13 : decode cX2_partByUse 13 = .ok (.bipush 8, 2) := by decide +kernel
theorem dX2_partByUse_15 : decode cX2_partByUse 15 = .ok (.if_icmp .ge 74, 3) := by decide +kernel
theorem dX2_partByUse_18 : decode cX2_partByUse 18 = .ok (.lconst 0, 1) := by decide +kernel
theorem dX2_partByUse_19 : decode cX2_partByUse 19 = .ok (.lstore 5, 2) := by decide +kernel
theorem dX2_partByUse_21 : decode cX2_partByUse 21 = .ok (.iconst 0, 1) := by decide +kernel
theorem dX2_partByUse_22 : decode cX2_partByUse 22 = .ok (.istore 7, 2) := by decide +kernel
theorem dX2_partByUse_24 : decode cX2_partByUse 24 = .ok (.iload 7, 2) := by decide +kernel
theorem dX2_partByUse_26 : decode cX2_partByUse 26 = .ok (.bipush 6, 2) := by decide +kernel
theorem dX2_partByUse_28 : decode cX2_partByUse 28 = .ok (.if_icmp .ge 33, 3) := by decide +kernel
theorem dX2_partByUse_31 : decode cX2_partByUse 31 = .ok (.lload 5, 2) := by decide +kernel
theorem dX2_partByUse_33 : decode cX2_partByUse 33 = .ok (.aload_n 1, 1) := by decide +kernel
theorem dX2_partByUse_34 : decode cX2_partByUse 34 = .ok (.getfield 25, 3) := by decide +kernel
theorem dX2_partByUse_37 : decode cX2_partByUse 37 = .ok (.iload 7, 2) := by decide +kernel
theorem dX2_partByUse_39 : decode cX2_partByUse 39 = .ok (.aaload, 1) := by decide +kernel
theorem dX2_partByUse_40 : decode cX2_partByUse 40 = .ok (.iload 4, 2) := by decide +kernel
theorem dX2_partByUse_42 : decode cX2_partByUse 42 = .ok (.iaload, 1) := by decide +kernel
theorem dX2_partByUse_43 : decode cX2_partByUse 43 = .ok (.i2l, 1) := by decide +kernel
theorem dX2_partByUse_44 : decode cX2_partByUse 44 = .ok (.aload_n 2, 1) := by decide +kernel
theorem dX2_partByUse_45 : decode cX2_partByUse 45 = .ok (.getfield 31, 3) := by decide +kernel
theorem dX2_partByUse_48 : decode cX2_partByUse 48 = .ok (.iload 7, 2) := by decide +kernel
theorem dX2_partByUse_50 : decode cX2_partByUse 50 = .ok (.laload, 1) := by decide +kernel
theorem dX2_partByUse_51 : decode cX2_partByUse 51 = .ok (.lmul, 1) := by decide +kernel
theorem dX2_partByUse_52 : decode cX2_partByUse 52 = .ok (.ladd, 1) := by decide +kernel
theorem dX2_partByUse_53 : decode cX2_partByUse 53 = .ok (.lstore 5, 2) := by decide +kernel
theorem dX2_partByUse_55 : decode cX2_partByUse 55 = .ok (.iinc 7 1, 3) := by decide +kernel
theorem dX2_partByUse_58 : decode cX2_partByUse 58 = .ok (.goto (-34), 3) := by decide +kernel
theorem dX2_partByUse_61 : decode cX2_partByUse 61 = .ok (.aload_n 0, 1) := by decide +kernel
theorem dX2_partByUse_62 : decode cX2_partByUse 62 = .ok (.getfield 9, 3) := by decide +kernel
theorem dX2_partByUse_65 : decode cX2_partByUse 65 = .ok (.iload 4, 2) := by decide +kernel
theorem dX2_partByUse_67 : decode cX2_partByUse 67 = .ok (.iload_n 3, 1) := by decide +kernel
theorem dX2_partByUse_68 : decode cX2_partByUse 68 = .ok (.iload 4, 2) := by decide +kernel
theorem dX2_partByUse_70 : decode cX2_partByUse 70 = .ok (.invokestatic 32, 3) := by decide +kernel
theorem dX2_partByUse_73 : decode cX2_partByUse 73 = .ok (.ifCond .eq 8, 3) := by decide +kernel
theorem dX2_partByUse_76 : decode cX2_partByUse 76 = .ok (.lload 5, 2) := by decide +kernel
theorem dX2_partByUse_78 : decode cX2_partByUse 78 = .ok (.goto 4, 3) := by decide +kernel
theorem dX2_partByUse_81 : decode cX2_partByUse 81 = .ok (.lconst 0, 1) := by decide +kernel
theorem dX2_partByUse_82 : decode cX2_partByUse 82 = .ok (.lastore, 1) := by decide +kernel
theorem dX2_partByUse_83 : decode cX2_partByUse 83 = .ok (.iinc 4 1, 3) := by decide +kernel
theorem dX2_partByUse_86 : decode cX2_partByUse 86 = .ok (.goto (-75), 3) := by decide +kernel
theorem dX2_partByUse_89 : decode cX2_partByUse 89 = .ok (.return_, 1) := by decide +kernel
theorem dX2_partByAlone_0 : decode cX2_partByAlone 0 = .ok (.aload_n 1, 1) := by decide +kernel
theorem dX2_partByAlone_1 : decode cX2_partByAlone 1 = .ok (.iload_n 2, 1) := by decide +kernel
theorem dX2_partByAlone_2 : decode cX2_partByAlone 2 = .ok (.invokevirtual 36, 3) := by decide +kernel
theorem dX2_partByAlone_5 : decode cX2_partByAlone 5 = .ok (.i2l, 1) := by decide +kernel
theorem dX2_partByAlone_6 : decode cX2_partByAlone 6 = .ok (.lstore_n 3, 1) := by decide +kernel
theorem dX2_partByAlone_7 : decode cX2_partByAlone 7 = .ok (.lconst 0, 1) := by decide +kernel
theorem dX2_partByAlone_8 : decode cX2_partByAlone 8 = .ok (.lstore 5, 2) := by decide +kernel
theorem dX2_partByAlone_10 : decode cX2_partByAlone 10 = .ok (.iconst 0, 1) := by decide +kernel
theorem dX2_partByAlone_11 : decode cX2_partByAlone 11 = .ok (.istore 7, 2) := by decide +kernel
theorem dX2_partByAlone_13 : decode cX2_partByAlone 13 = .ok (.iload 7, 2) := by decide +kernel
theorem dX2_partByAlone_15 : decode cX2_partByAlone 15 = .ok (.bipush 8, 2) := by decide +kernel
theorem dX2_partByAlone_17 : decode cX2_partByAlone 17 = .ok (.if_icmp .ge 51, 3) := by decide +kernel
theorem dX2_partByAlone_20 : decode cX2_partByAlone 20 = .ok (.iload_n 2, 1) := by decide +kernel
theorem dX2_partByAlone_21 : decode cX2_partByAlone 21 = .ok (.iload 7, 2) := by decide +kernel
theorem dX2_partByAlone_23 : decode cX2_partByAlone 23 = .ok (.invokestatic 32, 3) := by decide +kernel
theorem dX2_partByAlone_26 : decode cX2_partByAlone 26 = .ok (.ifCond .eq 15, 3) := by decide +kernel
theorem dX2_partByAlone_29 : decode cX2_partByAlone 29 = .ok (.aload_n 1, 1) := by decide +kernel
theorem dX2_partByAlone_30 : decode cX2_partByAlone 30 = .ok (.iconst 1, 1) := by decide +kernel
theorem dX2_partByAlone_31 : decode cX2_partByAlone 31 = .ok (.iload 7, 2) := by decide +kernel
theorem dX2_partByAlone_33 : decode cX2_partByAlone 33 = .ok (.ishl, 1) := by decide +kernel
theorem dX2_partByAlone_34 : decode cX2_partByAlone 34 = .ok (.invokevirtual 36, 3) := by decide +kernel
theorem dX2_partByAlone_37 : decode cX2_partByAlone 37 = .ok (.i2l, 1) := by decide +kernel
theorem dX2_partByAlone_38 : decode cX2_partByAlone 38 = .ok (.goto 4, 3) := by decide +kernel
theorem dX2_partByAlone_41 : decode cX2_partByAlone 41 = .ok (.lconst 0, 1) := by decide +kernel
theorem dX2_partByAlone_42 : decode cX2_partByAlone 42 = .ok (.lstore 8, 2) := by decide +kernel
theorem dX2_partByAlone_44 : decode cX2_partByAlone 44 = .ok (.lload 5, 2) := by decide +kernel
theorem dX2_partByAlone_46 : decode cX2_partByAlone 46 = .ok (.lload 8, 2) := by decide +kernel
theorem dX2_partByAlone_48 : decode cX2_partByAlone 48 = .ok (.ladd, 1) := by decide +kernel
theorem dX2_partByAlone_49 : decode cX2_partByAlone 49 = .ok (.lstore 5, 2) := by decide +kernel
theorem dX2_partByAlone_51 : decode cX2_partByAlone 51 = .ok (.aload_n 0, 1) := by decide +kernel
theorem dX2_partByAlone_52 : decode cX2_partByAlone 52 = .ok (.getfield 9, 3) := by decide +kernel
theorem dX2_partByAlone_55 : decode cX2_partByAlone 55 = .ok (.iload 7, 2) := by decide +kernel
theorem dX2_partByAlone_57 : decode cX2_partByAlone 57 = .ok (.lload_n 3, 1) := by decide +kernel
theorem dX2_partByAlone_58 : decode cX2_partByAlone 58 = .ok (.lload 8, 2) := by decide +kernel
theorem dX2_partByAlone_60 : decode cX2_partByAlone 60 = .ok (.lmul, 1) := by decide +kernel
theorem dX2_partByAlone_61 : decode cX2_partByAlone 61 = .ok (.lastore, 1) := by decide +kernel
theorem dX2_partByAlone_62 : decode cX2_partByAlone 62 = .ok (.iinc 7 1, 3) := by decide +kernel
theorem dX2_partByAlone_65 : decode cX2_partByAlone 65 = .ok (.goto (-52), 3) := by decide +kernel
theorem dX2_partByAlone_68 : decode cX2_partByAlone 68 = .ok (.aload_n 0, 1) := by decide +kernel
theorem dX2_partByAlone_69 : decode cX2_partByAlone 69 = .ok (.lload 5, 2) := by decide +kernel
theorem dX2_partByAlone_71 : decode cX2_partByAlone 71 = .ok (.lconst 0, 1) := by decide +kernel
theorem dX2_partByAlone_72 : decode cX2_partByAlone 72 = .ok (.lcmp, 1) := by decide +kernel
theorem dX2_partByAlone_73 : decode cX2_partByAlone 73 = .ok (.ifCond .ne 7, 3) := by decide +kernel
theorem dX2_partByAlone_76 : decode cX2_partByAlone 76 = .ok (.lconst 1, 1) := by decide +kernel
theorem dX2_partByAlone_77 : decode cX2_partByAlone 77 = .ok (.goto 5, 3) := by decide +kernel
theorem dX2_partByAlone_80 : decode cX2_partByAlone 80 = .ok (.lload 5, 2) := by decide +kernel
theorem dX2_partByAlone_82 : decode cX2_partByAlone 82 = .ok (.putfield 15, 3) := by decide +kernel
theorem dX2_partByAlone_85 : decode cX2_partByAlone 85 = .ok (.return_, 1) := by decide +kernel
theorem dX2_partByOrders_0 : decode cX2_partByOrders 0 = .ok (.iload_n 2, 1) := by decide +kernel
theorem dX2_partByOrders_1 : decode cX2_partByOrders 1 = .ok (.invokestatic 40, 3) := by decide +kernel
theorem dX2_partByOrders_4 : decode cX2_partByOrders 4 = .ok (.istore_n 3, 1) := by decide +kernel
theorem dX2_partByOrders_5 : decode cX2_partByOrders 5 = .ok (.aload_n 0, 1) := by decide +kernel
theorem dX2_partByOrders_6 : decode cX2_partByOrders 6 = .ok (.iload_n 3, 1) := by decide +kernel
theorem dX2_partByOrders_7 : decode cX2_partByOrders 7 = .ok (.invokestatic 45, 3) := by decide +kernel
theorem dX2_partByOrders_10 : decode cX2_partByOrders 10 = .ok (.putfield 15, 3) := by decide +kernel
theorem dX2_partByOrders_13 : decode cX2_partByOrders 13 = .ok (.aload_n 0, 1) := by decide +kernel
theorem dX2_partByOrders_14 : decode cX2_partByOrders 14 = .ok (.getfield 9, 3) := by decide +kernel
theorem dX2_partByOrders_17 : decode cX2_partByOrders 17 = .ok (.lconst 0, 1) := by decide +kernel
theorem dX2_partByOrders_18 : decode cX2_partByOrders 18 = .ok (.invokestatic 49, 3) := by decide +kernel
theorem dX2_partByOrders_21 : decode cX2_partByOrders 21 = .ok (.iconst 0, 1) := by decide +kernel
theorem dX2_partByOrders_22 : decode cX2_partByOrders 22 = .ok (.istore 4, 2) := by decide +kernel
theorem dX2_partByOrders_24 : decode cX2_partByOrders 24 = .ok (.iload 4, 2) := by decide +kernel
theorem dX2_partByOrders_26 : decode cX2_partByOrders 26 = .ok (.iload_n 2, 1) := by decide +kernel
theorem dX2_partByOrders_27 : decode cX2_partByOrders 27 = .ok (.if_icmp .ge 111, 3) := by decide +kernel
theorem dX2_partByOrders_30 : decode cX2_partByOrders 30 = .ok (.iload 4, 2) := by decide +kernel
theorem dX2_partByOrders_32 : decode cX2_partByOrders 32 = .ok (.iload_n 2, 1) := by decide +kernel
theorem dX2_partByOrders_33 : decode cX2_partByOrders 33 = .ok (.iconst (-1), 1) := by decide +kernel
theorem dX2_partByOrders_34 : decode cX2_partByOrders 34 = .ok (.ixor, 1) := by decide +kernel
theorem dX2_partByOrders_35 : decode cX2_partByOrders 35 = .ok (.iand, 1) := by decide +kernel
theorem dX2_partByOrders_36 : decode cX2_partByOrders 36 = .ok (.ifCond .eq 6, 3) := by decide +kernel
theorem dX2_partByOrders_39 : decode cX2_partByOrders 39 = .ok (.goto 93, 3) := by decide +kernel
theorem dX2_partByOrders_42 : decode cX2_partByOrders 42 = .ok (.iload 4, 2) := by decide +kernel
theorem dX2_partByOrders_44 : decode cX2_partByOrders 44 = .ok (.invokestatic 40, 3) := by decide +kernel
theorem dX2_partByOrders_47 : decode cX2_partByOrders 47 = .ok (.istore 5, 2) := by decide +kernel
theorem dX2_partByOrders_49 : decode cX2_partByOrders 49 = .ok (.iload 5, 2) := by decide +kernel
theorem dX2_partByOrders_51 : decode cX2_partByOrders 51 = .ok (.invokestatic 45, 3) := by decide +kernel
theorem dX2_partByOrders_54 : decode cX2_partByOrders 54 = .ok (.iload_n 3, 1) := by decide +kernel
theorem dX2_partByOrders_55 : decode cX2_partByOrders 55 = .ok (.iload 5, 2) := by decide +kernel
theorem dX2_partByOrders_57 : decode cX2_partByOrders 57 = .ok (.isub, 1) := by decide +kernel
theorem dX2_partByOrders_58 : decode cX2_partByOrders 58 = .ok (.iconst 1, 1) := by decide +kernel
theorem dX2_partByOrders_59 : decode cX2_partByOrders 59 = .ok (.isub, 1) := by decide +kernel
theorem dX2_partByOrders_60 : decode cX2_partByOrders 60 = .ok (.invokestatic 45, 3) := by decide +kernel
theorem dX2_partByOrders_63 : decode cX2_partByOrders 63 = .ok (.lmul, 1) := by decide +kernel
theorem dX2_partByOrders_64 : decode cX2_partByOrders 64 = .ok (.lstore 6, 2) := by decide +kernel
theorem dX2_partByOrders_66 : decode cX2_partByOrders 66 = .ok (.iconst 0, 1) := by decide +kernel
theorem dX2_partByOrders_67 : decode cX2_partByOrders 67 = .ok (.istore 8, 2) := by decide +kernel
theorem dX2_partByOrders_69 : decode cX2_partByOrders 69 = .ok (.iload 8, 2) := by decide +kernel
theorem dX2_partByOrders_71 : decode cX2_partByOrders 71 = .ok (.bipush 8, 2) := by decide +kernel
theorem dX2_partByOrders_73 : decode cX2_partByOrders 73 = .ok (.if_icmp .ge 59, 3) := by decide +kernel
theorem dX2_partByOrders_76 : decode cX2_partByOrders 76 = .ok (.iload_n 2, 1) := by decide +kernel
theorem dX2_partByOrders_77 : decode cX2_partByOrders 77 = .ok (.iload 4, 2) := by decide +kernel
theorem dX2_partByOrders_79 : decode cX2_partByOrders 79 = .ok (.iconst (-1), 1) := by decide +kernel
theorem dX2_partByOrders_80 : decode cX2_partByOrders 80 = .ok (.ixor, 1) := by decide +kernel
theorem dX2_partByOrders_81 : decode cX2_partByOrders 81 = .ok (.iand, 1) := by decide +kernel
theorem dX2_partByOrders_82 : decode cX2_partByOrders 82 = .ok (.iload 8, 2) := by decide +kernel
theorem dX2_partByOrders_84 : decode cX2_partByOrders 84 = .ok (.invokestatic 32, 3) := by decide +kernel
theorem dX2_partByOrders_87 : decode cX2_partByOrders 87 = .ok (.ifCond .eq 39, 3) := by decide +kernel
theorem dX2_partByOrders_90 : decode cX2_partByOrders 90 = .ok (.aload_n 1, 1) := by decide +kernel
theorem dX2_partByOrders_91 : decode cX2_partByOrders 91 = .ok (.iload 4, 2) := by decide +kernel
theorem dX2_partByOrders_93 : decode cX2_partByOrders 93 = .ok (.iconst 1, 1) := by decide +kernel
theorem dX2_partByOrders_94 : decode cX2_partByOrders 94 = .ok (.iload 8, 2) := by decide +kernel
theorem dX2_partByOrders_96 : decode cX2_partByOrders 96 = .ok (.ishl, 1) := by decide +kernel
theorem dX2_partByOrders_97 : decode cX2_partByOrders 97 = .ok (.ior, 1) := by decide +kernel
theorem dX2_partByOrders_98 : decode cX2_partByOrders 98 = .ok (.invokevirtual 36, 3) := by decide +kernel
theorem dX2_partByOrders_101 : decode cX2_partByOrders 101 = .ok (.aload_n 1, 1) := by decide +kernel
theorem dX2_partByOrders_102 : decode cX2_partByOrders 102 = .ok (.iload 4, 2) := by decide +kernel
theorem dX2_partByOrders_104 : decode cX2_partByOrders 104 = .ok (.invokevirtual 36, 3) := by decide +kernel
theorem dX2_partByOrders_107 : decode cX2_partByOrders 107 = .ok (.isub, 1) := by decide +kernel
theorem dX2_partByOrders_108 : decode cX2_partByOrders 108 = .ok (.istore 9, 2) := by decide +kernel
theorem dX2_partByOrders_110 : decode cX2_partByOrders 110 = .ok (.aload_n 0, 1) := by decide +kernel
theorem dX2_partByOrders_111 : decode cX2_partByOrders 111 = .ok (.getfield 9, 3) := by decide +kernel
theorem dX2_partByOrders_114 : decode cX2_partByOrders 114 = .ok (.iload 8, 2) := by decide +kernel
theorem dX2_partByOrders_116 : decode cX2_partByOrders 116 = .ok (.dup2, 1) := by decide +kernel
theorem dX2_partByOrders_117 : decode cX2_partByOrders 117 = .ok (.laload, 1) := by decide +kernel
theorem dX2_partByOrders_118 : decode cX2_partByOrders 118 = .ok (.lload 6, 2) := by decide +kernel
theorem dX2_partByOrders_120 : decode cX2_partByOrders 120 = .ok (.iload 9, 2) := by decide +kernel
theorem dX2_partByOrders_122 : decode cX2_partByOrders 122 = .ok (.i2l, 1) := by decide +kernel
theorem dX2_partByOrders_123 : decode cX2_partByOrders 123 = .ok (.lmul, 1) := by decide +kernel
theorem dX2_partByOrders_124 : decode cX2_partByOrders 124 = .ok (.ladd, 1) := by decide +kernel
theorem dX2_partByOrders_125 : decode cX2_partByOrders 125 = .ok (.lastore, 1) := by decide +kernel
theorem dX2_partByOrders_126 : decode cX2_partByOrders 126 = .ok (.iinc 8 1, 3) := by decide +kernel
theorem dX2_partByOrders_129 : decode cX2_partByOrders 129 = .ok (.goto (-60), 3) := by decide +kernel
theorem dX2_partByOrders_132 : decode cX2_partByOrders 132 = .ok (.iinc 4 1, 3) := by decide +kernel
theorem dX2_partByOrders_135 : decode cX2_partByOrders 135 = .ok (.goto (-111), 3) := by decide +kernel
theorem dX2_partByOrders_138 : decode cX2_partByOrders 138 = .ok (.return_, 1) := by decide +kernel
theorem dX2_factorial_0 : decode cX2_factorial 0 = .ok (.iload_n 0, 1) := by decide +kernel
theorem dX2_factorial_1 : decode cX2_factorial 1 = .ok (.ifCond .lt 19, 3) := by decide +kernel
theorem dX2_factorial_4 : decode cX2_factorial 4 = .ok (.iload_n 0, 1) := by decide +kernel
theorem dX2_factorial_5 : decode cX2_factorial 5 = .ok (.getstatic 55, 3) := by decide +kernel
theorem dX2_factorial_8 : decode cX2_factorial 8 = .ok (.arraylength, 1) := by decide +kernel
theorem dX2_factorial_9 : decode cX2_factorial 9 = .ok (.if_icmp .ge 11, 3) := by decide +kernel
theorem dX2_factorial_12 : decode cX2_factorial 12 = .ok (.getstatic 55, 3) := by decide +kernel
theorem dX2_factorial_15 : decode cX2_factorial 15 = .ok (.iload_n 0, 1) := by decide +kernel
theorem dX2_factorial_16 : decode cX2_factorial 16 = .ok (.laload, 1) := by decide +kernel
theorem dX2_factorial_17 : decode cX2_factorial 17 = .ok (.goto 4, 3) := by decide +kernel
theorem dX2_factorial_20 : decode cX2_factorial 20 = .ok (.lconst 1, 1) := by decide +kernel
theorem dX2_factorial_21 : decode cX2_factorial 21 = .ok (.lreturn, 1) := by decide +kernel
theorem dX2_numeratorOf_0 : decode cX2_numeratorOf 0 = .ok (.lconst 0, 1) := by decide +kernel
theorem dX2_numeratorOf_1 : decode cX2_numeratorOf 1 = .ok (.lstore_n 2, 1) := by decide +kernel
theorem dX2_numeratorOf_2 : decode cX2_numeratorOf 2 = .ok (.iconst 0, 1) := by decide +kernel
theorem dX2_numeratorOf_3 : decode cX2_numeratorOf 3 = .ok (.istore 4, 2) := by decide +kernel
theorem dX2_numeratorOf_5 : decode cX2_numeratorOf 5 = .ok (.iload 4, 2) := by decide +kernel
theorem dX2_numeratorOf_7 : decode cX2_numeratorOf 7 = .ok (.bipush 8, 2) := by decide +kernel
theorem dX2_numeratorOf_9 : decode cX2_numeratorOf 9 = .ok (.if_icmp .ge 28, 3) := by decide +kernel
theorem dX2_numeratorOf_12 : decode cX2_numeratorOf 12 = .ok (.iload_n 1, 1) := by decide +kernel
theorem dX2_numeratorOf_13 : decode cX2_numeratorOf 13 = .ok (.iload 4, 2) := by decide +kernel
theorem dX2_numeratorOf_15 : decode cX2_numeratorOf 15 = .ok (.invokestatic 32, 3) := by decide +kernel
theorem dX2_numeratorOf_18 : decode cX2_numeratorOf 18 = .ok (.ifCond .eq 13, 3) := by decide +kernel
theorem dX2_numeratorOf_21 : decode cX2_numeratorOf 21 = .ok (.lload_n 2, 1) := by decide +kernel
theorem dX2_numeratorOf_22 : decode cX2_numeratorOf 22 = .ok (.aload_n 0, 1) := by decide +kernel
theorem dX2_numeratorOf_23 : decode cX2_numeratorOf 23 = .ok (.getfield 9, 3) := by decide +kernel
theorem dX2_numeratorOf_26 : decode cX2_numeratorOf 26 = .ok (.iload 4, 2) := by decide +kernel
theorem dX2_numeratorOf_28 : decode cX2_numeratorOf 28 = .ok (.laload, 1) := by decide +kernel
theorem dX2_numeratorOf_29 : decode cX2_numeratorOf 29 = .ok (.ladd, 1) := by decide +kernel
theorem dX2_numeratorOf_30 : decode cX2_numeratorOf 30 = .ok (.lstore_n 2, 1) := by decide +kernel
theorem dX2_numeratorOf_31 : decode cX2_numeratorOf 31 = .ok (.iinc 4 1, 3) := by decide +kernel
theorem dX2_numeratorOf_34 : decode cX2_numeratorOf 34 = .ok (.goto (-29), 3) := by decide +kernel
theorem dX2_numeratorOf_37 : decode cX2_numeratorOf 37 = .ok (.lload_n 2, 1) := by decide +kernel
theorem dX2_numeratorOf_38 : decode cX2_numeratorOf 38 = .ok (.lreturn, 1) := by decide +kernel
theorem dX2_cutInto_0 : decode cX2_cutInto 0 = .ok (.aload_n 0, 1) := by decide +kernel
theorem dX2_cutInto_1 : decode cX2_cutInto 1 = .ok (.getfield 15, 3) := by decide +kernel
theorem dX2_cutInto_4 : decode cX2_cutInto 4 = .ok (.lconst 0, 1) := by decide +kernel
theorem dX2_cutInto_5 : decode cX2_cutInto 5 = .ok (.lcmp, 1) := by decide +kernel
theorem dX2_cutInto_6 : decode cX2_cutInto 6 = .ok (.ifCond .gt 4, 3) := by decide +kernel
theorem dX2_cutInto_9 : decode cX2_cutInto 9 = .ok (.return_, 1) := by decide +kernel
theorem dX2_cutInto_10 : decode cX2_cutInto 10 = .ok (.iload_n 2, 1) := by decide +kernel
theorem dX2_cutInto_11 : decode cX2_cutInto 11 = .ok (.istore 4, 2) := by decide +kernel
theorem dX2_cutInto_13 : decode cX2_cutInto 13 = .ok (.iconst 0, 1) := by decide +kernel
theorem dX2_cutInto_14 : decode cX2_cutInto 14 = .ok (.istore 5, 2) := by decide +kernel
theorem dX2_cutInto_16 : decode cX2_cutInto 16 = .ok (.iload 5, 2) := by decide +kernel
theorem dX2_cutInto_18 : decode cX2_cutInto 18 = .ok (.bipush 8, 2) := by decide +kernel
theorem dX2_cutInto_20 : decode cX2_cutInto 20 = .ok (.if_icmp .ge 69, 3) := by decide +kernel
theorem dX2_cutInto_23 : decode cX2_cutInto 23 = .ok (.aload_n 1, 1) := by decide +kernel
theorem dX2_cutInto_24 : decode cX2_cutInto 24 = .ok (.iload 5, 2) := by decide +kernel
theorem dX2_cutInto_26 : decode cX2_cutInto 26 = .ok (.aload_n 0, 1) := by decide +kernel
theorem dX2_cutInto_27 : decode cX2_cutInto 27 = .ok (.getfield 9, 3) := by decide +kernel
theorem dX2_cutInto_30 : decode cX2_cutInto 30 = .ok (.iload 5, 2) := by decide +kernel
theorem dX2_cutInto_32 : decode cX2_cutInto 32 = .ok (.laload, 1) := by decide +kernel
theorem dX2_cutInto_33 : decode cX2_cutInto 33 = .ok (.aload_n 0, 1) := by decide +kernel
theorem dX2_cutInto_34 : decode cX2_cutInto 34 = .ok (.getfield 15, 3) := by decide +kernel
theorem dX2_cutInto_37 : decode cX2_cutInto 37 = .ok (.ldiv, 1) := by decide +kernel
theorem dX2_cutInto_38 : decode cX2_cutInto 38 = .ok (.l2i, 1) := by decide +kernel
theorem dX2_cutInto_39 : decode cX2_cutInto 39 = .ok (.iastore, 1) := by decide +kernel
theorem dX2_cutInto_40 : decode cX2_cutInto 40 = .ok (.aload_n 0, 1) := by decide +kernel
theorem dX2_cutInto_41 : decode cX2_cutInto 41 = .ok (.getfield 19, 3) := by decide +kernel
theorem dX2_cutInto_44 : decode cX2_cutInto 44 = .ok (.iload 5, 2) := by decide +kernel
theorem dX2_cutInto_46 : decode cX2_cutInto 46 = .ok (.iload_n 3, 1) := by decide +kernel
theorem dX2_cutInto_47 : decode cX2_cutInto 47 = .ok (.iload 5, 2) := by decide +kernel
theorem dX2_cutInto_49 : decode cX2_cutInto 49 = .ok (.invokestatic 32, 3) := by decide +kernel
theorem dX2_cutInto_52 : decode cX2_cutInto 52 = .ok (.ifCond .eq 18, 3) := by decide +kernel
theorem dX2_cutInto_55 : decode cX2_cutInto 55 = .ok (.aload_n 0, 1) := by decide +kernel
theorem dX2_cutInto_56 : decode cX2_cutInto 56 = .ok (.getfield 9, 3) := by decide +kernel
theorem dX2_cutInto_59 : decode cX2_cutInto 59 = .ok (.iload 5, 2) := by decide +kernel
theorem dX2_cutInto_61 : decode cX2_cutInto 61 = .ok (.laload, 1) := by decide +kernel
theorem dX2_cutInto_62 : decode cX2_cutInto 62 = .ok (.aload_n 0, 1) := by decide +kernel
theorem dX2_cutInto_63 : decode cX2_cutInto 63 = .ok (.getfield 15, 3) := by decide +kernel
theorem dX2_cutInto_66 : decode cX2_cutInto 66 = .ok (.lrem, 1) := by decide +kernel
theorem dX2_cutInto_67 : decode cX2_cutInto 67 = .ok (.goto 6, 3) := by decide +kernel
theorem dX2_cutInto_70 : decode cX2_cutInto 70 = .ok (.ldc2_w 58, 3) := by decide +kernel
theorem dX2_cutInto_73 : decode cX2_cutInto 73 = .ok (.lastore, 1) := by decide +kernel
theorem dX2_cutInto_74 : decode cX2_cutInto 74 = .ok (.iload 4, 2) := by decide +kernel
theorem dX2_cutInto_76 : decode cX2_cutInto 76 = .ok (.aload_n 1, 1) := by decide +kernel
theorem dX2_cutInto_77 : decode cX2_cutInto 77 = .ok (.iload 5, 2) := by decide +kernel
theorem dX2_cutInto_79 : decode cX2_cutInto 79 = .ok (.iaload, 1) := by decide +kernel
theorem dX2_cutInto_80 : decode cX2_cutInto 80 = .ok (.isub, 1) := by decide +kernel
theorem dX2_cutInto_81 : decode cX2_cutInto 81 = .ok (.istore 4, 2) := by decide +kernel
theorem dX2_cutInto_83 : decode cX2_cutInto 83 = .ok (.iinc 5 1, 3) := by decide +kernel
theorem dX2_cutInto_86 : decode cX2_cutInto 86 = .ok (.goto (-70), 3) := by decide +kernel
theorem dX2_cutInto_89 : decode cX2_cutInto 89 = .ok (.iconst 0, 1) := by decide +kernel
theorem dX2_cutInto_90 : decode cX2_cutInto 90 = .ok (.istore 5, 2) := by decide +kernel
theorem dX2_cutInto_92 : decode cX2_cutInto 92 = .ok (.iload 5, 2) := by decide +kernel
theorem dX2_cutInto_94 : decode cX2_cutInto 94 = .ok (.bipush 8, 2) := by decide +kernel
theorem dX2_cutInto_96 : decode cX2_cutInto 96 = .ok (.if_icmp .ge 40, 3) := by decide +kernel
theorem dX2_cutInto_99 : decode cX2_cutInto 99 = .ok (.iload 5, 2) := by decide +kernel
theorem dX2_cutInto_101 : decode cX2_cutInto 101 = .ok (.iload 4, 2) := by decide +kernel
theorem dX2_cutInto_103 : decode cX2_cutInto 103 = .ok (.if_icmp .ge 33, 3) := by decide +kernel
theorem dX2_cutInto_106 : decode cX2_cutInto 106 = .ok (.aload_n 0, 1) := by decide +kernel
theorem dX2_cutInto_107 : decode cX2_cutInto 107 = .ok (.invokevirtual 60, 3) := by decide +kernel
theorem dX2_cutInto_110 : decode cX2_cutInto 110 = .ok (.istore 6, 2) := by decide +kernel
theorem dX2_cutInto_112 : decode cX2_cutInto 112 = .ok (.aload_n 1, 1) := by decide +kernel
theorem dX2_cutInto_113 : decode cX2_cutInto 113 = .ok (.iload 6, 2) := by decide +kernel
theorem dX2_cutInto_115 : decode cX2_cutInto 115 = .ok (.dup2, 1) := by decide +kernel
theorem dX2_cutInto_116 : decode cX2_cutInto 116 = .ok (.iaload, 1) := by decide +kernel
theorem dX2_cutInto_117 : decode cX2_cutInto 117 = .ok (.iconst 1, 1) := by decide +kernel
theorem dX2_cutInto_118 : decode cX2_cutInto 118 = .ok (.iadd, 1) := by decide +kernel
theorem dX2_cutInto_119 : decode cX2_cutInto 119 = .ok (.iastore, 1) := by decide +kernel
theorem dX2_cutInto_120 : decode cX2_cutInto 120 = .ok (.aload_n 0, 1) := by decide +kernel
theorem dX2_cutInto_121 : decode cX2_cutInto 121 = .ok (.getfield 19, 3) := by decide +kernel
theorem dX2_cutInto_124 : decode cX2_cutInto 124 = .ok (.iload 6, 2) := by decide +kernel
theorem dX2_cutInto_126 : decode cX2_cutInto 126 = .ok (.ldc2_w 58, 3) := by decide +kernel
theorem dX2_cutInto_129 : decode cX2_cutInto 129 = .ok (.lastore, 1) := by decide +kernel
theorem dX2_cutInto_130 : decode cX2_cutInto 130 = .ok (.iinc 5 1, 3) := by decide +kernel
theorem dX2_cutInto_133 : decode cX2_cutInto 133 = .ok (.goto (-41), 3) := by decide +kernel
theorem dX2_cutInto_136 : decode cX2_cutInto 136 = .ok (.return_, 1) := by decide +kernel
theorem dX2_greatestRest_0 : decode cX2_greatestRest 0 = .ok (.iconst 0, 1) := by decide +kernel
theorem dX2_greatestRest_1 : decode cX2_greatestRest 1 = .ok (.istore_n 1, 1) := by decide +kernel
theorem dX2_greatestRest_2 : decode cX2_greatestRest 2 = .ok (.iconst 1, 1) := by decide +kernel
theorem dX2_greatestRest_3 : decode cX2_greatestRest 3 = .ok (.istore_n 2, 1) := by decide +kernel
theorem dX2_greatestRest_4 : decode cX2_greatestRest 4 = .ok (.iload_n 2, 1) := by decide +kernel
theorem dX2_greatestRest_5 : decode cX2_greatestRest 5 = .ok (.bipush 8, 2) := by decide +kernel
theorem dX2_greatestRest_7 : decode cX2_greatestRest 7 = .ok (.if_icmp .ge 27, 3) := by decide +kernel
theorem dX2_greatestRest_10 : decode cX2_greatestRest 10 = .ok (.aload_n 0, 1) := by decide +kernel
theorem dX2_greatestRest_11 : decode cX2_greatestRest 11 = .ok (.getfield 19, 3) := by decide +kernel
theorem dX2_greatestRest_14 : decode cX2_greatestRest 14 = .ok (.iload_n 2, 1) := by decide +kernel
theorem dX2_greatestRest_15 : decode cX2_greatestRest 15 = .ok (.laload, 1) := by decide +kernel
theorem dX2_greatestRest_16 : decode cX2_greatestRest 16 = .ok (.aload_n 0, 1) := by decide +kernel
theorem dX2_greatestRest_17 : decode cX2_greatestRest 17 = .ok (.getfield 19, 3) := by decide +kernel
theorem dX2_greatestRest_20 : decode cX2_greatestRest 20 = .ok (.iload_n 1, 1) := by decide +kernel
theorem dX2_greatestRest_21 : decode cX2_greatestRest 21 = .ok (.laload, 1) := by decide +kernel
theorem dX2_greatestRest_22 : decode cX2_greatestRest 22 = .ok (.lcmp, 1) := by decide +kernel
theorem dX2_greatestRest_23 : decode cX2_greatestRest 23 = .ok (.ifCond .le 5, 3) := by decide +kernel
theorem dX2_greatestRest_26 : decode cX2_greatestRest 26 = .ok (.iload_n 2, 1) := by decide +kernel
theorem dX2_greatestRest_27 : decode cX2_greatestRest 27 = .ok (.istore_n 1, 1) := by decide +kernel
theorem dX2_greatestRest_28 : decode cX2_greatestRest 28 = .ok (.iinc 2 1, 3) := by decide +kernel
theorem dX2_greatestRest_31 : decode cX2_greatestRest 31 = .ok (.goto (-27), 3) := by decide +kernel
theorem dX2_greatestRest_34 : decode cX2_greatestRest 34 = .ok (.iload_n 1, 1) := by decide +kernel
theorem dX2_greatestRest_35 : decode cX2_greatestRest 35 = .ok (.ireturn, 1) := by decide +kernel
theorem dX3_init_0 : decode cX3_init 0 = .ok (.aload_n 0, 1) := by decide +kernel
theorem dX3_init_1 : decode cX3_init 1 = .ok (.invokespecial 3, 3) := by decide +kernel
theorem dX3_init_4 : decode cX3_init 4 = .ok (.aload_n 0, 1) := by decide +kernel
theorem dX3_init_5 : decode cX3_init 5 = .ok (.bipush 8, 2) := by decide +kernel
theorem dX3_init_7 : decode cX3_init 7 = .ok (.newarray .int, 2) := by decide +kernel
theorem dX3_init_9 : decode cX3_init 9 = .ok (.putfield 9, 3) := by decide +kernel
theorem dX3_init_12 : decode cX3_init 12 = .ok (.return_, 1) := by decide +kernel
theorem dX3_has_0 : decode cX3_has 0 = .ok (.iload_n 1, 1) := by decide +kernel
theorem dX3_has_1 : decode cX3_has 1 = .ok (.ifCond .lt 15, 3) := by decide +kernel
theorem dX3_has_4 : decode cX3_has 4 = .ok (.iload_n 1, 1) := by decide +kernel
theorem dX3_has_5 : decode cX3_has 5 = .ok (.aload_n 0, 1) := by decide +kernel
theorem dX3_has_6 : decode cX3_has 6 = .ok (.getfield 15, 3) := by decide +kernel
theorem dX3_has_9 : decode cX3_has 9 = .ok (.if_icmp .ge 7, 3) := by decide +kernel
theorem dX3_has_12 : decode cX3_has 12 = .ok (.iconst 1, 1) := by decide +kernel
theorem dX3_has_13 : decode cX3_has 13 = .ok (.goto 4, 3) := by decide +kernel
theorem dX3_has_16 : decode cX3_has 16 = .ok (.iconst 0, 1) := by decide +kernel
theorem dX3_has_17 : decode cX3_has 17 = .ok (.ireturn, 1) := by decide +kernel
theorem dX3_isThere_0 : decode cX3_isThere 0 = .ok (.aload_n 0, 1) := by decide +kernel
theorem dX3_isThere_1 : decode cX3_isThere 1 = .ok (.iload_n 1, 1) := by decide +kernel
theorem dX3_isThere_2 : decode cX3_isThere 2 = .ok (.invokevirtual 19, 3) := by decide +kernel
theorem dX3_isThere_5 : decode cX3_isThere 5 = .ok (.ifCond .eq 18, 3) := by decide +kernel
theorem dX3_isThere_8 : decode cX3_isThere 8 = .ok (.aload_n 0, 1) := by decide +kernel
theorem dX3_isThere_9 : decode cX3_isThere 9 = .ok (.getfield 23, 3) := by decide +kernel
theorem dX3_isThere_12 : decode cX3_isThere 12 = .ok (.iload_n 1, 1) := by decide +kernel
theorem dX3_isThere_13 : decode cX3_isThere 13 = .ok (.invokestatic 26, 3) := by decide +kernel
theorem dX3_isThere_16 : decode cX3_isThere 16 = .ok (.ifCond .eq 7, 3) := by decide +kernel
theorem dX3_isThere_19 : decode cX3_isThere 19 = .ok (.iconst 1, 1) := by decide +kernel
theorem dX3_isThere_20 : decode cX3_isThere 20 = .ok (.goto 4, 3) := by decide +kernel
theorem dX3_isThere_23 : decode cX3_isThere 23 = .ok (.iconst 0, 1) := by decide +kernel
theorem dX3_isThere_24 : decode cX3_isThere 24 = .ok (.ireturn, 1) := by decide +kernel
theorem dX3_add_0 : decode cX3_add 0 = .ok (.aload_n 0, 1) := by decide +kernel
theorem dX3_add_1 : decode cX3_add 1 = .ok (.getfield 15, 3) := by decide +kernel
theorem dX3_add_4 : decode cX3_add 4 = .ok (.istore_n 1, 1) := by decide +kernel
theorem dX3_add_5 : decode cX3_add 5 = .ok (.aload_n 0, 1) := by decide +kernel
theorem dX3_add_6 : decode cX3_add 6 = .ok (.dup, 1) := by decide +kernel
theorem dX3_add_7 : decode cX3_add 7 = .ok (.getfield 15, 3) := by decide +kernel
theorem dX3_add_10 : decode cX3_add 10 = .ok (.iconst 1, 1) := by decide +kernel
theorem dX3_add_11 : decode cX3_add 11 = .ok (.iadd, 1) := by decide +kernel
theorem dX3_add_12 : decode cX3_add 12 = .ok (.putfield 15, 3) := by decide +kernel
theorem dX3_add_15 : decode cX3_add 15 = .ok (.aload_n 0, 1) := by decide +kernel
theorem dX3_add_16 : decode cX3_add 16 = .ok (.iload_n 1, 1) := by decide +kernel
theorem dX3_add_17 : decode cX3_add 17 = .ok (.invokevirtual 30, 3) := by decide +kernel
theorem dX3_add_20 : decode cX3_add 20 = .ok (.iload_n 1, 1) := by decide +kernel
theorem dX3_add_21 : decode cX3_add 21 = .ok (.ireturn, 1) := by decide +kernel
theorem dX3_turn_0 : decode cX3_turn 0 = .ok (.aload_n 0, 1) := by decide +kernel
theorem dX3_turn_1 : decode cX3_turn 1 = .ok (.dup, 1) := by decide +kernel
theorem dX3_turn_2 : decode cX3_turn 2 = .ok (.getfield 23, 3) := by decide +kernel
theorem dX3_turn_5 : decode cX3_turn 5 = .ok (.iconst 1, 1) := by decide +kernel
theorem dX3_turn_6 : decode cX3_turn 6 = .ok (.iload_n 1, 1) := by decide +kernel
theorem dX3_turn_7 : decode cX3_turn 7 = .ok (.ishl, 1) := by decide +kernel
theorem dX3_turn_8 : decode cX3_turn 8 = .ok (.ixor, 1) := by decide +kernel
theorem dX3_turn_9 : decode cX3_turn 9 = .ok (.putfield 23, 3) := by decide +kernel
theorem dX3_turn_12 : decode cX3_turn 12 = .ok (.return_, 1) := by decide +kernel
theorem dX3_all_0 : decode cX3_all 0 = .ok (.iconst 1, 1) := by decide +kernel
theorem dX3_all_1 : decode cX3_all 1 = .ok (.aload_n 0, 1) := by decide +kernel
theorem dX3_all_2 : decode cX3_all 2 = .ok (.getfield 15, 3) := by decide +kernel
theorem dX3_all_5 : decode cX3_all 5 = .ok (.ishl, 1) := by decide +kernel
theorem dX3_all_6 : decode cX3_all 6 = .ok (.iconst 1, 1) := by decide +kernel
theorem dX3_all_7 : decode cX3_all 7 = .ok (.isub, 1) := by decide +kernel
theorem dX3_all_8 : decode cX3_all 8 = .ok (.ireturn, 1) := by decide +kernel
theorem dX3_markedOfThoseThere_0 : decode cX3_markedOfThoseThere 0 = .ok (.iconst 0, 1) := by decide +kernel
theorem dX3_markedOfThoseThere_1 : decode cX3_markedOfThoseThere 1 = .ok (.istore_n 1, 1) := by decide +kernel
theorem dX3_markedOfThoseThere_2 : decode cX3_markedOfThoseThere 2 = .ok (.iconst 0, 1) := by decide +kernel
theorem dX3_markedOfThoseThere_3 : decode cX3_markedOfThoseThere 3 = .ok (.istore_n 2, 1) := by decide +kernel
theorem dX3_markedOfThoseThere_4 : decode cX3_markedOfThoseThere 4 = .ok (.iload_n 2, 1) := by decide +kernel
theorem dX3_markedOfThoseThere_5 : decode cX3_markedOfThoseThere 5 = .ok (.aload_n 0, 1) := by decide +kernel
theorem dX3_markedOfThoseThere_6 : decode cX3_markedOfThoseThere 6 = .ok (.getfield 15, 3) := by decide +kernel
theorem dX3_markedOfThoseThere_9 : decode cX3_markedOfThoseThere 9 = .ok (.if_icmp .ge 26, 3) := by decide +kernel
theorem dX3_markedOfThoseThere_12 : decode cX3_markedOfThoseThere 12 = .ok (.aload_n 0, 1) := by decide +kernel
theorem dX3_markedOfThoseThere_13 : decode cX3_markedOfThoseThere 13 = .ok (.iload_n 2, 1) := by decide +kernel
theorem dX3_markedOfThoseThere_14 : decode cX3_markedOfThoseThere 14 = .ok (.invokevirtual 34, 3) := by decide +kernel
theorem dX3_markedOfThoseThere_17 : decode cX3_markedOfThoseThere 17 = .ok (.ifCond .eq 12, 3) := by decide +kernel
theorem dX3_markedOfThoseThere_20 : decode cX3_markedOfThoseThere 20 = .ok (.iload_n 1, 1) := by decide +kernel
theorem dX3_markedOfThoseThere_21 : decode cX3_markedOfThoseThere 21 = .ok (.aload_n 0, 1) := by decide +kernel
theorem dX3_markedOfThoseThere_22 : decode cX3_markedOfThoseThere 22 = .ok (.getfield 9, 3) := by decide +kernel
theorem dX3_markedOfThoseThere_25 : decode cX3_markedOfThoseThere 25 = .ok (.iload_n 2, 1) := by decide +kernel
theorem dX3_markedOfThoseThere_26 : decode cX3_markedOfThoseThere 26 = .ok (.iaload, 1) := by decide +kernel
theorem dX3_markedOfThoseThere_27 : decode cX3_markedOfThoseThere 27 = .ok (.iadd, 1) := by decide +kernel
theorem dX3_markedOfThoseThere_28 : decode cX3_markedOfThoseThere 28 = .ok (.istore_n 1, 1) := by decide +kernel
theorem dX3_markedOfThoseThere_29 : decode cX3_markedOfThoseThere 29 = .ok (.iinc 2 1, 3) := by decide +kernel
theorem dX3_markedOfThoseThere_32 : decode cX3_markedOfThoseThere 32 = .ok (.goto (-28), 3) := by decide +kernel
theorem dX3_markedOfThoseThere_35 : decode cX3_markedOfThoseThere 35 = .ok (.iload_n 1, 1) := by decide +kernel
theorem dX3_markedOfThoseThere_36 : decode cX3_markedOfThoseThere 36 = .ok (.ireturn, 1) := by decide +kernel
theorem dX4_init_0 : decode cX4_init 0 = .ok (.aload_n 0, 1) := by decide +kernel
theorem dX4_init_1 : decode cX4_init 1 = .ok (.invokespecial 3, 3) := by decide +kernel
theorem dX4_init_4 : decode cX4_init 4 = .ok (.aload_n 0, 1) := by decide +kernel
theorem dX4_init_5 : decode cX4_init 5 = .ok (.bipush 6, 2) := by decide +kernel
theorem dX4_init_7 : decode cX4_init 7 = .ok (.newarray .int, 2) := by decide +kernel
theorem dX4_init_9 : decode cX4_init 9 = .ok (.putfield 9, 3) := by decide +kernel
theorem dX4_init_12 : decode cX4_init 12 = .ok (.aload_n 0, 1) := by decide +kernel
theorem dX4_init_13 : decode cX4_init 13 = .ok (.bipush 6, 2) := by decide +kernel
theorem dX4_init_15 : decode cX4_init 15 = .ok (.newarray .int, 2) := by decide +kernel
theorem dX4_init_17 : decode cX4_init 17 = .ok (.putfield 15, 3) := by decide +kernel
theorem dX4_init_20 : decode cX4_init 20 = .ok (.aload_n 0, 1) := by decide +kernel
theorem dX4_init_21 : decode cX4_init 21 = .ok (.bipush 6, 2) := by decide +kernel
theorem dX4_init_23 : decode cX4_init 23 = .ok (.bipush 8, 2) := by decide +kernel
theorem dX4_init_25 : decode cX4_init 25 = .ok (.multianewarray 18 2, 4) := by decide +kernel
theorem dX4_init_29 : decode cX4_init 29 = .ok (.putfield 20, 3) := by decide +kernel
theorem dX4_init_32 : decode cX4_init 32 = .ok (.aload_n 0, 1) := by decide +kernel
theorem dX4_init_33 : decode cX4_init 33 = .ok (.bipush 6, 2) := by decide +kernel
theorem dX4_init_35 : decode cX4_init 35 = .ok (.bipush 6, 2) := by decide +kernel
theorem dX4_init_37 : decode cX4_init 37 = .ok (.multianewarray 18 2, 4) := by decide +kernel
theorem dX4_init_41 : decode cX4_init 41 = .ok (.putfield 23, 3) := by decide +kernel
theorem dX4_init_44 : decode cX4_init 44 = .ok (.aload_n 0, 1) := by decide +kernel
theorem dX4_init_45 : decode cX4_init 45 = .ok (.bipush 8, 2) := by decide +kernel
theorem dX4_init_47 : decode cX4_init 47 = .ok (.newarray .int, 2) := by decide +kernel
theorem dX4_init_49 : decode cX4_init 49 = .ok (.putfield 26, 3) := by decide +kernel
theorem dX4_init_52 : decode cX4_init 52 = .ok (.aload_n 0, 1) := by decide +kernel
theorem dX4_init_53 : decode cX4_init 53 = .ok (.sipush 256, 3) := by decide +kernel
theorem dX4_init_56 : decode cX4_init 56 = .ok (.newarray .int, 2) := by decide +kernel
theorem dX4_init_58 : decode cX4_init 58 = .ok (.putfield 29, 3) := by decide +kernel
theorem dX4_init_61 : decode cX4_init 61 = .ok (.aload_n 0, 1) := by decide +kernel
theorem dX4_init_62 : decode cX4_init 62 = .ok (.getfield 29, 3) := by decide +kernel
theorem dX4_init_65 : decode cX4_init 65 = .ok (.iconst (-1), 1) := by decide +kernel
theorem dX4_init_66 : decode cX4_init 66 = .ok (.invokestatic 32, 3) := by decide +kernel
theorem dX4_init_69 : decode cX4_init 69 = .ok (.return_, 1) := by decide +kernel
theorem dX4_has_0 : decode cX4_has 0 = .ok (.iload_n 1, 1) := by decide +kernel
theorem dX4_has_1 : decode cX4_has 1 = .ok (.ifCond .lt 15, 3) := by decide +kernel
theorem dX4_has_4 : decode cX4_has 4 = .ok (.iload_n 1, 1) := by decide +kernel
theorem dX4_has_5 : decode cX4_has 5 = .ok (.aload_n 0, 1) := by decide +kernel
theorem dX4_has_6 : decode cX4_has 6 = .ok (.getfield 38, 3) := by decide +kernel
theorem dX4_has_9 : decode cX4_has 9 = .ok (.if_icmp .ge 7, 3) := by decide +kernel
theorem dX4_has_12 : decode cX4_has 12 = .ok (.iconst 1, 1) := by decide +kernel
theorem dX4_has_13 : decode cX4_has 13 = .ok (.goto 4, 3) := by decide +kernel
theorem dX4_has_16 : decode cX4_has 16 = .ok (.iconst 0, 1) := by decide +kernel
theorem dX4_has_17 : decode cX4_has 17 = .ok (.ireturn, 1) := by decide +kernel
theorem dX4_add_0 : decode cX4_add 0 = .ok (.aload_n 0, 1) := by decide +kernel
theorem dX4_add_1 : decode cX4_add 1 = .ok (.getfield 38, 3) := by decide +kernel
theorem dX4_add_4 : decode cX4_add 4 = .ok (.istore_n 3, 1) := by decide +kernel
theorem dX4_add_5 : decode cX4_add 5 = .ok (.aload_n 0, 1) := by decide +kernel
theorem dX4_add_6 : decode cX4_add 6 = .ok (.dup, 1) := by decide +kernel
theorem dX4_add_7 : decode cX4_add 7 = .ok (.getfield 38, 3) := by decide +kernel
theorem dX4_add_10 : decode cX4_add 10 = .ok (.iconst 1, 1) := by decide +kernel
theorem dX4_add_11 : decode cX4_add 11 = .ok (.iadd, 1) := by decide +kernel
theorem dX4_add_12 : decode cX4_add 12 = .ok (.putfield 38, 3) := by decide +kernel
theorem dX4_add_15 : decode cX4_add 15 = .ok (.aload_n 0, 1) := by decide +kernel
theorem dX4_add_16 : decode cX4_add 16 = .ok (.iload_n 3, 1) := by decide +kernel
theorem dX4_add_17 : decode cX4_add 17 = .ok (.iload_n 1, 1) := by decide +kernel
theorem dX4_add_18 : decode cX4_add 18 = .ok (.iload_n 2, 1) := by decide +kernel
theorem dX4_add_19 : decode cX4_add 19 = .ok (.invokevirtual 42, 3) := by decide +kernel
theorem dX4_add_22 : decode cX4_add 22 = .ok (.iload_n 3, 1) := by decide +kernel
theorem dX4_add_23 : decode cX4_add 23 = .ok (.ireturn, 1) := by decide +kernel
theorem dX4_putCosts_0 : decode cX4_putCosts 0 = .ok (.aload_n 0, 1) := by decide +kernel
theorem dX4_putCosts_1 : decode cX4_putCosts 1 = .ok (.getfield 9, 3) := by decide +kernel
theorem dX4_putCosts_4 : decode cX4_putCosts 4 = .ok (.iload_n 1, 1) := by decide +kernel
theorem dX4_putCosts_5 : decode cX4_putCosts 5 = .ok (.iload_n 2, 1) := by decide +kernel
theorem dX4_putCosts_6 : decode cX4_putCosts 6 = .ok (.iastore, 1) := by decide +kernel
theorem dX4_putCosts_7 : decode cX4_putCosts 7 = .ok (.aload_n 0, 1) := by decide +kernel
theorem dX4_putCosts_8 : decode cX4_putCosts 8 = .ok (.getfield 15, 3) := by decide +kernel
theorem dX4_putCosts_11 : decode cX4_putCosts 11 = .ok (.iload_n 1, 1) := by decide +kernel
theorem dX4_putCosts_12 : decode cX4_putCosts 12 = .ok (.iload_n 3, 1) := by decide +kernel
theorem dX4_putCosts_13 : decode cX4_putCosts 13 = .ok (.iastore, 1) := by decide +kernel
theorem dX4_putCosts_14 : decode cX4_putCosts 14 = .ok (.aload_n 0, 1) := by decide +kernel
theorem dX4_putCosts_15 : decode cX4_putCosts 15 = .ok (.getfield 29, 3) := by decide +kernel
theorem dX4_putCosts_18 : decode cX4_putCosts 18 = .ok (.iconst (-1), 1) := by decide +kernel
theorem dX4_putCosts_19 : decode cX4_putCosts 19 = .ok (.invokestatic 32, 3) := by decide +kernel
theorem dX4_putCosts_22 : decode cX4_putCosts 22 = .ok (.return_, 1) := by decide +kernel
theorem dX4_putUnitsByUser_0 : decode cX4_putUnitsByUser 0 = .ok (.aload_n 0, 1) := by decide +kernel
theorem dX4_putUnitsByUser_1 : decode cX4_putUnitsByUser 1 = .ok (.getfield 20, 3) := by decide +kernel
theorem dX4_putUnitsByUser_4 : decode cX4_putUnitsByUser 4 = .ok (.iload_n 1, 1) := by decide +kernel
theorem dX4_putUnitsByUser_5 : decode cX4_putUnitsByUser 5 = .ok (.aaload, 1) := by decide +kernel
theorem dX4_putUnitsByUser_6 : decode cX4_putUnitsByUser 6 = .ok (.iload_n 2, 1) := by decide +kernel
theorem dX4_putUnitsByUser_7 : decode cX4_putUnitsByUser 7 = .ok (.iload_n 3, 1) := by decide +kernel
theorem dX4_putUnitsByUser_8 : decode cX4_putUnitsByUser 8 = .ok (.iastore, 1) := by decide +kernel
theorem dX4_putUnitsByUser_9 : decode cX4_putUnitsByUser 9 = .ok (.aload_n 0, 1) := by decide +kernel
theorem dX4_putUnitsByUser_10 : decode cX4_putUnitsByUser 10 = .ok (.invokevirtual 46, 3) := by decide +kernel
theorem dX4_putUnitsByUser_13 : decode cX4_putUnitsByUser 13 = .ok (.return_, 1) := by decide +kernel
theorem dX4_putUnitsByWork_0 : decode cX4_putUnitsByWork 0 = .ok (.aload_n 0, 1) := by decide +kernel
theorem dX4_putUnitsByWork_1 : decode cX4_putUnitsByWork 1 = .ok (.getfield 23, 3) := by decide +kernel
theorem dX4_putUnitsByWork_4 : decode cX4_putUnitsByWork 4 = .ok (.iload_n 1, 1) := by decide +kernel
theorem dX4_putUnitsByWork_5 : decode cX4_putUnitsByWork 5 = .ok (.aaload, 1) := by decide +kernel
theorem dX4_putUnitsByWork_6 : decode cX4_putUnitsByWork 6 = .ok (.iload_n 2, 1) := by decide +kernel
theorem dX4_putUnitsByWork_7 : decode cX4_putUnitsByWork 7 = .ok (.iload_n 3, 1) := by decide +kernel
theorem dX4_putUnitsByWork_8 : decode cX4_putUnitsByWork 8 = .ok (.iastore, 1) := by decide +kernel
theorem dX4_putUnitsByWork_9 : decode cX4_putUnitsByWork 9 = .ok (.aload_n 0, 1) := by decide +kernel
theorem dX4_putUnitsByWork_10 : decode cX4_putUnitsByWork 10 = .ok (.invokevirtual 46, 3) := by decide +kernel
theorem dX4_putUnitsByWork_13 : decode cX4_putUnitsByWork 13 = .ok (.return_, 1) := by decide +kernel
theorem dX4_learnNeeds_0 : decode cX4_learnNeeds 0 = .ok (.iconst 0, 1) := by decide +kernel
theorem dX4_learnNeeds_1 : decode cX4_learnNeeds 1 = .ok (.istore_n 1, 1) := by decide +kernel
theorem dX4_learnNeeds_2 : decode cX4_learnNeeds 2 = .ok (.iload_n 1, 1) := by decide +kernel
theorem dX4_learnNeeds_3 : decode cX4_learnNeeds 3 = .ok (.bipush 8, 2) := by decide +kernel
theorem dX4_learnNeeds_5 : decode cX4_learnNeeds 5 = .ok (.if_icmp .ge 28, 3) := by decide +kernel
theorem dX4_learnNeeds_8 : decode cX4_learnNeeds 8 = .ok (.aload_n 0, 1) := by decide +kernel
theorem dX4_learnNeeds_9 : decode cX4_learnNeeds 9 = .ok (.getfield 26, 3) := by decide +kernel
theorem dX4_learnNeeds_12 : decode cX4_learnNeeds 12 = .ok (.iload_n 1, 1) := by decide +kernel
theorem dX4_learnNeeds_13 : decode cX4_learnNeeds 13 = .ok (.aload_n 0, 1) := by decide +kernel
theorem dX4_learnNeeds_14 : decode cX4_learnNeeds 14 = .ok (.aload_n 0, 1) := by decide +kernel
theorem dX4_learnNeeds_15 : decode cX4_learnNeeds 15 = .ok (.iload_n 1, 1) := by decide +kernel
theorem dX4_learnNeeds_16 : decode cX4_learnNeeds 16 = .ok (.aload_n 0, 1) := by decide +kernel
theorem dX4_learnNeeds_17 : decode cX4_learnNeeds 17 = .ok (.getfield 20, 3) := by decide +kernel
theorem dX4_learnNeeds_20 : decode cX4_learnNeeds 20 = .ok (.invokevirtual 49, 3) := by decide +kernel
theorem dX4_learnNeeds_23 : decode cX4_learnNeeds 23 = .ok (.invokevirtual 53, 3) := by decide +kernel
theorem dX4_learnNeeds_26 : decode cX4_learnNeeds 26 = .ok (.iastore, 1) := by decide +kernel
theorem dX4_learnNeeds_27 : decode cX4_learnNeeds 27 = .ok (.iinc 1 1, 3) := by decide +kernel
theorem dX4_learnNeeds_30 : decode cX4_learnNeeds 30 = .ok (.goto (-28), 3) := by decide +kernel
theorem dX4_learnNeeds_33 : decode cX4_learnNeeds 33 = .ok (.aload_n 0, 1) := by decide +kernel
theorem dX4_learnNeeds_34 : decode cX4_learnNeeds 34 = .ok (.getfield 29, 3) := by decide +kernel
theorem dX4_learnNeeds_37 : decode cX4_learnNeeds 37 = .ok (.iconst (-1), 1) := by decide +kernel
theorem dX4_learnNeeds_38 : decode cX4_learnNeeds 38 = .ok (.invokestatic 32, 3) := by decide +kernel
theorem dX4_learnNeeds_41 : decode cX4_learnNeeds 41 = .ok (.return_, 1) := by decide +kernel
theorem dX4_usedBy_0 : decode cX4_usedBy 0 = .ok (.iconst 0, 1) := by decide +kernel
theorem dX4_usedBy_1 : decode cX4_usedBy 1 = .ok (.istore_n 3, 1) := by decide +kernel
theorem dX4_usedBy_2 : decode cX4_usedBy 2 = .ok (.iconst 0, 1) := by decide +kernel
theorem dX4_usedBy_3 : decode cX4_usedBy 3 = .ok (.istore 4, 2) := by decide +kernel
theorem dX4_usedBy_5 : decode cX4_usedBy 5 = .ok (.iload 4, 2) := by decide +kernel
theorem dX4_usedBy_7 : decode cX4_usedBy 7 = .ok (.aload_n 0, 1) := by decide +kernel
theorem dX4_usedBy_8 : decode cX4_usedBy 8 = .ok (.getfield 38, 3) := by decide +kernel
theorem dX4_usedBy_11 : decode cX4_usedBy 11 = .ok (.if_icmp .ge 25, 3) := by decide +kernel
theorem dX4_usedBy_14 : decode cX4_usedBy 14 = .ok (.aload_n 2, 1) := by decide +kernel
theorem dX4_usedBy_15 : decode cX4_usedBy 15 = .ok (.iload 4, 2) := by decide +kernel
theorem dX4_usedBy_17 : decode cX4_usedBy 17 = .ok (.aaload, 1) := by decide +kernel
theorem dX4_usedBy_18 : decode cX4_usedBy 18 = .ok (.iload_n 1, 1) := by decide +kernel
theorem dX4_usedBy_19 : decode cX4_usedBy 19 = .ok (.iaload, 1) := by decide +kernel
theorem dX4_usedBy_20 : decode cX4_usedBy 20 = .ok (.ifCond .le 10, 3) := by decide +kernel
theorem dX4_usedBy_23 : decode cX4_usedBy 23 = .ok (.iload_n 3, 1) := by decide +kernel
theorem dX4_usedBy_24 : decode cX4_usedBy 24 = .ok (.iconst 1, 1) := by decide +kernel
theorem dX4_usedBy_25 : decode cX4_usedBy 25 = .ok (.iload 4, 2) := by decide +kernel
theorem dX4_usedBy_27 : decode cX4_usedBy 27 = .ok (.ishl, 1) := by decide +kernel
theorem dX4_usedBy_28 : decode cX4_usedBy 28 = .ok (.ior, 1) := by decide +kernel
theorem dX4_usedBy_29 : decode cX4_usedBy 29 = .ok (.istore_n 3, 1) := by decide +kernel
theorem dX4_usedBy_30 : decode cX4_usedBy 30 = .ok (.iinc 4 1, 3) := by decide +kernel
theorem dX4_usedBy_33 : decode cX4_usedBy 33 = .ok (.goto (-28), 3) := by decide +kernel
theorem dX4_usedBy_36 : decode cX4_usedBy 36 = .ok (.iload_n 3, 1) := by decide +kernel
theorem dX4_usedBy_37 : decode cX4_usedBy 37 = .ok (.ireturn, 1) := by decide +kernel
theorem dX4_withAllTheyUse_0 : decode cX4_withAllTheyUse 0 = .ok (.iload_n 1, 1) := by decide +kernel
theorem dX4_withAllTheyUse_1 : decode cX4_withAllTheyUse 1 = .ok (.istore_n 2, 1) := by decide +kernel
theorem dX4_withAllTheyUse_2 : decode cX4_withAllTheyUse 2 = .ok (.iconst 1, 1) := by decide +kernel
theorem dX4_withAllTheyUse_3 : decode cX4_withAllTheyUse 3 = .ok (.istore_n 3, 1) := by decide +kernel
theorem dX4_withAllTheyUse_4 : decode cX4_withAllTheyUse 4 = .ok (.iload_n 3, 1) := by decide +kernel
theorem dX4_withAllTheyUse_5 : decode cX4_withAllTheyUse 5 = .ok (.aload_n 0, 1) := by decide +kernel
theorem dX4_withAllTheyUse_6 : decode cX4_withAllTheyUse 6 = .ok (.getfield 38, 3) := by decide +kernel
theorem dX4_withAllTheyUse_9 : decode cX4_withAllTheyUse 9 = .ok (.if_icmp .ge 49, 3) := by decide +kernel
theorem dX4_withAllTheyUse_12 : decode cX4_withAllTheyUse 12 = .ok (.iconst 0, 1) := by decide +kernel
theorem dX4_withAllTheyUse_13 : decode cX4_withAllTheyUse 13 = .ok (.istore 4, 2) := by decide +kernel
theorem dX4_withAllTheyUse_15 : decode cX4_withAllTheyUse 15 = .ok (.iload 4, 2) := by decide +kernel
theorem dX4_withAllTheyUse_17 : decode cX4_withAllTheyUse 17 = .ok (.aload_n 0, 1) := by decide +kernel
theorem dX4_withAllTheyUse_18 : decode cX4_withAllTheyUse 18 = .ok (.getfield 38, 3) := by decide +kernel
theorem dX4_withAllTheyUse_21 : decode cX4_withAllTheyUse 21 = .ok (.if_icmp .ge 31, 3) := by decide +kernel
theorem dX4_withAllTheyUse_24 : decode cX4_withAllTheyUse 24 = .ok (.iload_n 2, 1) := by decide +kernel
theorem dX4_withAllTheyUse_25 : decode cX4_withAllTheyUse 25 = .ok (.iload 4, 2) := by decide +kernel
theorem dX4_withAllTheyUse_27 : decode cX4_withAllTheyUse 27 = .ok (.invokestatic 57, 3) := by decide +kernel
theorem dX4_withAllTheyUse_30 : decode cX4_withAllTheyUse 30 = .ok (.ifCond .eq 16, 3) := by decide +kernel
theorem dX4_withAllTheyUse_33 : decode cX4_withAllTheyUse 33 = .ok (.iload_n 2, 1) := by decide +kernel
theorem dX4_withAllTheyUse_34 : decode cX4_withAllTheyUse 34 = .ok (.aload_n 0, 1) := by decide +kernel
theorem dX4_withAllTheyUse_35 : decode cX4_withAllTheyUse 35 = .ok (.iload 4, 2) := by decide +kernel
theorem dX4_withAllTheyUse_37 : decode cX4_withAllTheyUse 37 = .ok (.aload_n 0, 1) := by decide +kernel
theorem dX4_withAllTheyUse_38 : decode cX4_withAllTheyUse 38 = .ok (.getfield 23, 3) := by decide +kernel
theorem dX4_withAllTheyUse_41 : decode cX4_withAllTheyUse 41 = .ok (.invokevirtual 49, 3) := by decide +kernel
theorem dX4_withAllTheyUse_44 : decode cX4_withAllTheyUse 44 = .ok (.ior, 1) := by decide +kernel
theorem dX4_withAllTheyUse_45 : decode cX4_withAllTheyUse 45 = .ok (.istore_n 2, 1) := by decide +kernel
theorem dX4_withAllTheyUse_46 : decode cX4_withAllTheyUse 46 = .ok (.iinc 4 1, 3) := by decide +kernel
theorem dX4_withAllTheyUse_49 : decode cX4_withAllTheyUse 49 = .ok (.goto (-34), 3) := by decide +kernel
theorem dX4_withAllTheyUse_52 : decode cX4_withAllTheyUse 52 = .ok (.iinc 3 1, 3) := by decide +kernel
theorem dX4_withAllTheyUse_55 : decode cX4_withAllTheyUse 55 = .ok (.goto (-51), 3) := by decide +kernel
theorem dX4_withAllTheyUse_58 : decode cX4_withAllTheyUse 58 = .ok (.iload_n 2, 1) := by decide +kernel
theorem dX4_withAllTheyUse_59 : decode cX4_withAllTheyUse 59 = .ok (.ireturn, 1) := by decide +kernel
theorem dX4_neededBy_0 : decode cX4_neededBy 0 = .ok (.iconst 0, 1) := by decide +kernel
theorem dX4_neededBy_1 : decode cX4_neededBy 1 = .ok (.istore_n 2, 1) := by decide +kernel
theorem dX4_neededBy_2 : decode cX4_neededBy 2 = .ok (.iconst 0, 1) := by decide +kernel
theorem dX4_neededBy_3 : decode cX4_neededBy 3 = .ok (.istore_n 3, 1) := by decide +kernel
theorem dX4_neededBy_4 : decode cX4_neededBy 4 = .ok (.iload_n 3, 1) := by decide +kernel
theorem dX4_neededBy_5 : decode cX4_neededBy 5 = .ok (.bipush 8, 2) := by decide +kernel
theorem dX4_neededBy_7 : decode cX4_neededBy 7 = .ok (.if_icmp .ge 26, 3) := by decide +kernel
theorem dX4_neededBy_10 : decode cX4_neededBy 10 = .ok (.iload_n 1, 1) := by decide +kernel
theorem dX4_neededBy_11 : decode cX4_neededBy 11 = .ok (.iload_n 3, 1) := by decide +kernel
theorem dX4_neededBy_12 : decode cX4_neededBy 12 = .ok (.invokestatic 57, 3) := by decide +kernel
theorem dX4_neededBy_15 : decode cX4_neededBy 15 = .ok (.ifCond .eq 12, 3) := by decide +kernel
theorem dX4_neededBy_18 : decode cX4_neededBy 18 = .ok (.iload_n 2, 1) := by decide +kernel
theorem dX4_neededBy_19 : decode cX4_neededBy 19 = .ok (.aload_n 0, 1) := by decide +kernel
theorem dX4_neededBy_20 : decode cX4_neededBy 20 = .ok (.getfield 26, 3) := by decide +kernel
theorem dX4_neededBy_23 : decode cX4_neededBy 23 = .ok (.iload_n 3, 1) := by decide +kernel
theorem dX4_neededBy_24 : decode cX4_neededBy 24 = .ok (.iaload, 1) := by decide +kernel
theorem dX4_neededBy_25 : decode cX4_neededBy 25 = .ok (.ior, 1) := by decide +kernel
theorem dX4_neededBy_26 : decode cX4_neededBy 26 = .ok (.istore_n 2, 1) := by decide +kernel
theorem dX4_neededBy_27 : decode cX4_neededBy 27 = .ok (.iinc 3 1, 3) := by decide +kernel
theorem dX4_neededBy_30 : decode cX4_neededBy 30 = .ok (.goto (-26), 3) := by decide +kernel
theorem dX4_neededBy_33 : decode cX4_neededBy 33 = .ok (.iload_n 2, 1) := by decide +kernel
theorem dX4_neededBy_34 : decode cX4_neededBy 34 = .ok (.ireturn, 1) := by decide +kernel
theorem dX4_onRings_0 : decode cX4_onRings 0 = .ok (.iconst 0, 1) := by decide +kernel
theorem dX4_onRings_1 : decode cX4_onRings 1 = .ok (.istore_n 1, 1) := by decide +kernel
theorem dX4_onRings_2 : decode cX4_onRings 2 = .ok (.iconst 0, 1) := by decide +kernel
theorem dX4_onRings_3 : decode cX4_onRings 3 = .ok (.istore_n 2, 1) := by decide +kernel
theorem dX4_onRings_4 : decode cX4_onRings 4 = .ok (.iload_n 2, 1) := by decide +kernel
theorem dX4_onRings_5 : decode cX4_onRings 5 = .ok (.aload_n 0, 1) := by decide +kernel
theorem dX4_onRings_6 : decode cX4_onRings 6 = .ok (.getfield 38, 3) := by decide +kernel
theorem dX4_onRings_9 : decode cX4_onRings 9 = .ok (.if_icmp .ge 35, 3) := by decide +kernel
theorem dX4_onRings_12 : decode cX4_onRings 12 = .ok (.aload_n 0, 1) := by decide +kernel
theorem dX4_onRings_13 : decode cX4_onRings 13 = .ok (.aload_n 0, 1) := by decide +kernel
theorem dX4_onRings_14 : decode cX4_onRings 14 = .ok (.iload_n 2, 1) := by decide +kernel
theorem dX4_onRings_15 : decode cX4_onRings 15 = .ok (.aload_n 0, 1) := by decide +kernel
theorem dX4_onRings_16 : decode cX4_onRings 16 = .ok (.getfield 23, 3) := by decide +kernel
theorem dX4_onRings_19 : decode cX4_onRings 19 = .ok (.invokevirtual 49, 3) := by decide +kernel
theorem dX4_onRings_22 : decode cX4_onRings 22 = .ok (.invokevirtual 53, 3) := by decide +kernel
theorem dX4_onRings_25 : decode cX4_onRings 25 = .ok (.iload_n 2, 1) := by decide +kernel
theorem dX4_onRings_26 : decode cX4_onRings 26 = .ok (.invokestatic 57, 3) := by decide +kernel
theorem dX4_onRings_29 : decode cX4_onRings 29 = .ok (.ifCond .eq 9, 3) := by decide +kernel
theorem dX4_onRings_32 : decode cX4_onRings 32 = .ok (.iload_n 1, 1) := by decide +kernel
theorem dX4_onRings_33 : decode cX4_onRings 33 = .ok (.iconst 1, 1) := by decide +kernel
theorem dX4_onRings_34 : decode cX4_onRings 34 = .ok (.iload_n 2, 1) := by decide +kernel
theorem dX4_onRings_35 : decode cX4_onRings 35 = .ok (.ishl, 1) := by decide +kernel
theorem dX4_onRings_36 : decode cX4_onRings 36 = .ok (.ior, 1) := by decide +kernel
theorem dX4_onRings_37 : decode cX4_onRings 37 = .ok (.istore_n 1, 1) := by decide +kernel
theorem dX4_onRings_38 : decode cX4_onRings 38 = .ok (.iinc 2 1, 3) := by decide +kernel
theorem dX4_onRings_41 : decode cX4_onRings 41 = .ok (.goto (-37), 3) := by decide +kernel
theorem dX4_onRings_44 : decode cX4_onRings 44 = .ok (.iload_n 1, 1) := by decide +kernel
theorem dX4_onRings_45 : decode cX4_onRings 45 = .ok (.ireturn, 1) := by decide +kernel
theorem dX4_unitsOf_0 : decode cX4_unitsOf 0 = .ok (.iconst 0, 1) := by decide +kernel
theorem dX4_unitsOf_1 : decode cX4_unitsOf 1 = .ok (.istore 4, 2) := by decide +kernel
theorem dX4_unitsOf_3 : decode cX4_unitsOf 3 = .ok (.iconst 0, 1) := by decide +kernel
theorem dX4_unitsOf_4 : decode cX4_unitsOf 4 = .ok (.istore 5, 2) := by decide +kernel
theorem dX4_unitsOf_6 : decode cX4_unitsOf 6 = .ok (.iload 5, 2) := by decide +kernel
theorem dX4_unitsOf_8 : decode cX4_unitsOf 8 = .ok (.bipush 8, 2) := by decide +kernel
theorem dX4_unitsOf_10 : decode cX4_unitsOf 10 = .ok (.if_icmp .ge 32, 3) := by decide +kernel
theorem dX4_unitsOf_13 : decode cX4_unitsOf 13 = .ok (.iload_n 2, 1) := by decide +kernel
theorem dX4_unitsOf_14 : decode cX4_unitsOf 14 = .ok (.iload 5, 2) := by decide +kernel
theorem dX4_unitsOf_16 : decode cX4_unitsOf 16 = .ok (.invokestatic 57, 3) := by decide +kernel
theorem dX4_unitsOf_19 : decode cX4_unitsOf 19 = .ok (.ifCond .eq 17, 3) := by decide +kernel
theorem dX4_unitsOf_22 : decode cX4_unitsOf 22 = .ok (.iload 4, 2) := by decide +kernel
theorem dX4_unitsOf_24 : decode cX4_unitsOf 24 = .ok (.aload_n 0, 1) := by decide +kernel
theorem dX4_unitsOf_25 : decode cX4_unitsOf 25 = .ok (.getfield 20, 3) := by decide +kernel
theorem dX4_unitsOf_28 : decode cX4_unitsOf 28 = .ok (.iload_n 1, 1) := by decide +kernel
theorem dX4_unitsOf_29 : decode cX4_unitsOf 29 = .ok (.aaload, 1) := by decide +kernel
theorem dX4_unitsOf_30 : decode cX4_unitsOf 30 = .ok (.iload 5, 2) := by decide +kernel
theorem dX4_unitsOf_32 : decode cX4_unitsOf 32 = .ok (.iaload, 1) := by decide +kernel
theorem dX4_unitsOf_33 : decode cX4_unitsOf 33 = .ok (.iadd, 1) := by decide +kernel
theorem dX4_unitsOf_34 : decode cX4_unitsOf 34 = .ok (.istore 4, 2) := by decide +kernel
theorem dX4_unitsOf_36 : decode cX4_unitsOf 36 = .ok (.iinc 5 1, 3) := by decide +kernel
theorem dX4_unitsOf_39 : decode cX4_unitsOf 39 = .ok (.goto (-33), 3) := by decide +kernel
theorem dX4_unitsOf_42 : decode cX4_unitsOf 42 = .ok (.iconst 0, 1) := by decide +kernel
theorem dX4_unitsOf_43 : decode cX4_unitsOf 43 = .ok (.istore 5, 2) := by decide +kernel
theorem dX4_unitsOf_45 : decode cX4_unitsOf 45 = .ok (.iload 5, 2) := by decide +kernel
theorem dX4_unitsOf_47 : decode cX4_unitsOf 47 = .ok (.aload_n 0, 1) := by decide +kernel
theorem dX4_unitsOf_48 : decode cX4_unitsOf 48 = .ok (.getfield 38, 3) := by decide +kernel
theorem dX4_unitsOf_51 : decode cX4_unitsOf 51 = .ok (.if_icmp .ge 32, 3) := by decide +kernel
theorem dX4_unitsOf_54 : decode cX4_unitsOf 54 = .ok (.iload_n 3, 1) := by decide +kernel
theorem dX4_unitsOf_55 : decode cX4_unitsOf 55 = .ok (.iload 5, 2) := by decide +kernel
theorem dX4_unitsOf_57 : decode cX4_unitsOf 57 = .ok (.invokestatic 57, 3) := by decide +kernel
theorem dX4_unitsOf_60 : decode cX4_unitsOf 60 = .ok (.ifCond .eq 17, 3) := by decide +kernel
theorem dX4_unitsOf_63 : decode cX4_unitsOf 63 = .ok (.iload 4, 2) := by decide +kernel
theorem dX4_unitsOf_65 : decode cX4_unitsOf 65 = .ok (.aload_n 0, 1) := by decide +kernel
theorem dX4_unitsOf_66 : decode cX4_unitsOf 66 = .ok (.getfield 23, 3) := by decide +kernel
theorem dX4_unitsOf_69 : decode cX4_unitsOf 69 = .ok (.iload_n 1, 1) := by decide +kernel
theorem dX4_unitsOf_70 : decode cX4_unitsOf 70 = .ok (.aaload, 1) := by decide +kernel
theorem dX4_unitsOf_71 : decode cX4_unitsOf 71 = .ok (.iload 5, 2) := by decide +kernel
theorem dX4_unitsOf_73 : decode cX4_unitsOf 73 = .ok (.iaload, 1) := by decide +kernel
theorem dX4_unitsOf_74 : decode cX4_unitsOf 74 = .ok (.iadd, 1) := by decide +kernel
theorem dX4_unitsOf_75 : decode cX4_unitsOf 75 = .ok (.istore 4, 2) := by decide +kernel
theorem dX4_unitsOf_77 : decode cX4_unitsOf 77 = .ok (.iinc 5 1, 3) := by decide +kernel
theorem dX4_unitsOf_80 : decode cX4_unitsOf 80 = .ok (.goto (-35), 3) := by decide +kernel
theorem dX4_unitsOf_83 : decode cX4_unitsOf 83 = .ok (.iload 4, 2) := by decide +kernel
theorem dX4_unitsOf_85 : decode cX4_unitsOf 85 = .ok (.ireturn, 1) := by decide +kernel
theorem dX4_costAt_0 : decode cX4_costAt 0 = .ok (.iload_n 2, 1) := by decide +kernel
theorem dX4_costAt_1 : decode cX4_costAt 1 = .ok (.bipush 10, 2) := by decide +kernel
theorem dX4_costAt_3 : decode cX4_costAt 3 = .ok (.iadd, 1) := by decide +kernel
theorem dX4_costAt_4 : decode cX4_costAt 4 = .ok (.iconst 1, 1) := by decide +kernel
theorem dX4_costAt_5 : decode cX4_costAt 5 = .ok (.isub, 1) := by decide +kernel
theorem dX4_costAt_6 : decode cX4_costAt 6 = .ok (.bipush 10, 2) := by decide +kernel
theorem dX4_costAt_8 : decode cX4_costAt 8 = .ok (.idiv, 1) := by decide +kernel
theorem dX4_costAt_9 : decode cX4_costAt 9 = .ok (.istore_n 3, 1) := by decide +kernel
theorem dX4_costAt_10 : decode cX4_costAt 10 = .ok (.aload_n 0, 1) := by decide +kernel
theorem dX4_costAt_11 : decode cX4_costAt 11 = .ok (.getfield 9, 3) := by decide +kernel
theorem dX4_costAt_14 : decode cX4_costAt 14 = .ok (.iload_n 1, 1) := by decide +kernel
theorem dX4_costAt_15 : decode cX4_costAt 15 = .ok (.iaload, 1) := by decide +kernel
theorem dX4_costAt_16 : decode cX4_costAt 16 = .ok (.aload_n 0, 1) := by decide +kernel
theorem dX4_costAt_17 : decode cX4_costAt 17 = .ok (.getfield 15, 3) := by decide +kernel
theorem dX4_costAt_20 : decode cX4_costAt 20 = .ok (.iload_n 1, 1) := by decide +kernel
theorem dX4_costAt_21 : decode cX4_costAt 21 = .ok (.iaload, 1) := by decide +kernel
theorem dX4_costAt_22 : decode cX4_costAt 22 = .ok (.iload_n 3, 1) := by decide +kernel
theorem dX4_costAt_23 : decode cX4_costAt 23 = .ok (.imul, 1) := by decide +kernel
theorem dX4_costAt_24 : decode cX4_costAt 24 = .ok (.iadd, 1) := by decide +kernel
theorem dX4_costAt_25 : decode cX4_costAt 25 = .ok (.ireturn, 1) := by decide +kernel
theorem dX4_costOf_0 : decode cX4_costOf 0 = .ok (.aload_n 0, 1) := by decide +kernel
theorem dX4_costOf_1 : decode cX4_costOf 1 = .ok (.getfield 29, 3) := by decide +kernel
theorem dX4_costOf_4 : decode cX4_costOf 4 = .ok (.iload_n 1, 1) := by decide +kernel
theorem dX4_costOf_5 : decode cX4_costOf 5 = .ok (.iaload, 1) := by decide +kernel
theorem dX4_costOf_6 : decode cX4_costOf 6 = .ok (.iconst (-1), 1) := by decide +kernel
theorem dX4_costOf_7 : decode cX4_costOf 7 = .ok (.if_icmp .eq 10, 3) := by decide +kernel
theorem dX4_costOf_10 : decode cX4_costOf 10 = .ok (.aload_n 0, 1) := by decide +kernel
theorem dX4_costOf_11 : decode cX4_costOf 11 = .ok (.getfield 29, 3) := by decide +kernel
theorem dX4_costOf_14 : decode cX4_costOf 14 = .ok (.iload_n 1, 1) := by decide +kernel
theorem dX4_costOf_15 : decode cX4_costOf 15 = .ok (.iaload, 1) := by decide +kernel
theorem dX4_costOf_16 : decode cX4_costOf 16 = .ok (.ireturn, 1) := by decide +kernel
theorem dX4_costOf_17 : decode cX4_costOf 17 = .ok (.aload_n 0, 1) := by decide +kernel
theorem dX4_costOf_18 : decode cX4_costOf 18 = .ok (.iload_n 1, 1) := by decide +kernel
theorem dX4_costOf_19 : decode cX4_costOf 19 = .ok (.invokevirtual 61, 3) := by decide +kernel
theorem dX4_costOf_22 : decode cX4_costOf 22 = .ok (.istore_n 2, 1) := by decide +kernel
theorem dX4_costOf_23 : decode cX4_costOf 23 = .ok (.iconst 0, 1) := by decide +kernel
theorem dX4_costOf_24 : decode cX4_costOf 24 = .ok (.istore_n 3, 1) := by decide +kernel
theorem dX4_costOf_25 : decode cX4_costOf 25 = .ok (.iconst 0, 1) := by decide +kernel
theorem dX4_costOf_26 : decode cX4_costOf 26 = .ok (.istore 4, 2) := by decide +kernel
theorem dX4_costOf_28 : decode cX4_costOf 28 = .ok (.iload 4, 2) := by decide +kernel
theorem dX4_costOf_30 : decode cX4_costOf 30 = .ok (.aload_n 0, 1) := by decide +kernel
theorem dX4_costOf_31 : decode cX4_costOf 31 = .ok (.getfield 38, 3) := by decide +kernel
theorem dX4_costOf_34 : decode cX4_costOf 34 = .ok (.if_icmp .ge 35, 3) := by decide +kernel
theorem dX4_costOf_37 : decode cX4_costOf 37 = .ok (.iload_n 2, 1) := by decide +kernel
theorem dX4_costOf_38 : decode cX4_costOf 38 = .ok (.iload 4, 2) := by decide +kernel
theorem dX4_costOf_40 : decode cX4_costOf 40 = .ok (.invokestatic 57, 3) := by decide +kernel
theorem dX4_costOf_43 : decode cX4_costOf 43 = .ok (.ifCond .eq 20, 3) := by decide +kernel
theorem dX4_costOf_46 : decode cX4_costOf 46 = .ok (.iload_n 3, 1) := by decide +kernel
theorem dX4_costOf_47 : decode cX4_costOf 47 = .ok (.aload_n 0, 1) := by decide +kernel
theorem dX4_costOf_48 : decode cX4_costOf 48 = .ok (.iload 4, 2) := by decide +kernel
theorem dX4_costOf_50 : decode cX4_costOf 50 = .ok (.aload_n 0, 1) := by decide +kernel
theorem dX4_costOf_51 : decode cX4_costOf 51 = .ok (.iload 4, 2) := by decide +kernel
theorem dX4_costOf_53 : decode cX4_costOf 53 = .ok (.iload_n 1, 1) := by decide +kernel
theorem dX4_costOf_54 : decode cX4_costOf 54 = .ok (.iload_n 2, 1) := by decide +kernel
theorem dX4_costOf_55 : decode cX4_costOf 55 = .ok (.invokevirtual 64, 3) := by decide +kernel
theorem dX4_costOf_58 : decode cX4_costOf 58 = .ok (.invokevirtual 68, 3) := by decide +kernel
theorem dX4_costOf_61 : decode cX4_costOf 61 = .ok (.iadd, 1) := by decide +kernel
theorem dX4_costOf_62 : decode cX4_costOf 62 = .ok (.istore_n 3, 1) := by decide +kernel
theorem dX4_costOf_63 : decode cX4_costOf 63 = .ok (.iinc 4 1, 3) := by decide +kernel
theorem dX4_costOf_66 : decode cX4_costOf 66 = .ok (.goto (-38), 3) := by decide +kernel
theorem dX4_costOf_69 : decode cX4_costOf 69 = .ok (.aload_n 0, 1) := by decide +kernel
theorem dX4_costOf_70 : decode cX4_costOf 70 = .ok (.getfield 29, 3) := by decide +kernel
theorem dX4_costOf_73 : decode cX4_costOf 73 = .ok (.iload_n 1, 1) := by decide +kernel
theorem dX4_costOf_74 : decode cX4_costOf 74 = .ok (.iload_n 3, 1) := by decide +kernel
theorem dX4_costOf_75 : decode cX4_costOf 75 = .ok (.iastore, 1) := by decide +kernel
theorem dX4_costOf_76 : decode cX4_costOf 76 = .ok (.iload_n 3, 1) := by decide +kernel
theorem dX4_costOf_77 : decode cX4_costOf 77 = .ok (.ireturn, 1) := by decide +kernel
theorem dX5_init_0 : decode cX5_init 0 = .ok (.aload_n 0, 1) := by decide +kernel
theorem dX5_init_1 : decode cX5_init 1 = .ok (.invokespecial 1, 3) := by decide +kernel
theorem dX5_init_4 : decode cX5_init 4 = .ok (.aload_n 0, 1) := by decide +kernel
theorem dX5_init_5 : decode cX5_init 5 = .ok (.new 7, 3) := by decide +kernel
theorem dX5_init_8 : decode cX5_init 8 = .ok (.dup, 1) := by decide +kernel
theorem dX5_init_9 : decode cX5_init 9 = .ok (.invokespecial 9, 3) := by decide +kernel
theorem dX5_init_12 : decode cX5_init 12 = .ok (.putfield 10, 3) := by decide +kernel
theorem dX5_init_15 : decode cX5_init 15 = .ok (.aload_n 0, 1) := by decide +kernel
theorem dX5_init_16 : decode cX5_init 16 = .ok (.new 16, 3) := by decide +kernel
theorem dX5_init_19 : decode cX5_init 19 = .ok (.dup, 1) := by decide +kernel
theorem dX5_init_20 : decode cX5_init 20 = .ok (.invokespecial 18, 3) := by decide +kernel
theorem dX5_init_23 : decode cX5_init 23 = .ok (.putfield 19, 3) := by decide +kernel
theorem dX5_init_26 : decode cX5_init 26 = .ok (.aload_n 0, 1) := by decide +kernel
theorem dX5_init_27 : decode cX5_init 27 = .ok (.new 23, 3) := by decide +kernel
theorem dX5_init_30 : decode cX5_init 30 = .ok (.dup, 1) := by decide +kernel
theorem dX5_init_31 : decode cX5_init 31 = .ok (.invokespecial 25, 3) := by decide +kernel
theorem dX5_init_34 : decode cX5_init 34 = .ok (.putfield 26, 3) := by decide +kernel
theorem dX5_init_37 : decode cX5_init 37 = .ok (.aload_n 0, 1) := by decide +kernel
theorem dX5_init_38 : decode cX5_init 38 = .ok (.new 30, 3) := by decide +kernel
theorem dX5_init_41 : decode cX5_init 41 = .ok (.dup, 1) := by decide +kernel
theorem dX5_init_42 : decode cX5_init 42 = .ok (.invokespecial 32, 3) := by decide +kernel
theorem dX5_init_45 : decode cX5_init 45 = .ok (.putfield 33, 3) := by decide +kernel
theorem dX5_init_48 : decode cX5_init 48 = .ok (.aload_n 0, 1) := by decide +kernel
theorem dX5_init_49 : decode cX5_init 49 = .ok (.new 37, 3) := by decide +kernel
theorem dX5_init_52 : decode cX5_init 52 = .ok (.dup, 1) := by decide +kernel
theorem dX5_init_53 : decode cX5_init 53 = .ok (.invokespecial 39, 3) := by decide +kernel
theorem dX5_init_56 : decode cX5_init 56 = .ok (.putfield 40, 3) := by decide +kernel
theorem dX5_init_59 : decode cX5_init 59 = .ok (.aload_n 0, 1) := by decide +kernel
theorem dX5_init_60 : decode cX5_init 60 = .ok (.bipush 8, 2) := by decide +kernel
theorem dX5_init_62 : decode cX5_init 62 = .ok (.newarray .int, 2) := by decide +kernel
theorem dX5_init_64 : decode cX5_init 64 = .ok (.putfield 44, 3) := by decide +kernel
theorem dX5_init_67 : decode cX5_init 67 = .ok (.aload_n 0, 1) := by decide +kernel
theorem dX5_init_68 : decode cX5_init 68 = .ok (.bipush 8, 2) := by decide +kernel
theorem dX5_init_70 : decode cX5_init 70 = .ok (.newarray .int, 2) := by decide +kernel
theorem dX5_init_72 : decode cX5_init 72 = .ok (.putfield 48, 3) := by decide +kernel
theorem dX5_init_75 : decode cX5_init 75 = .ok (.return_, 1) := by decide +kernel
theorem dX5_work_0 : decode cX5_work 0 = .ok (.aload_n 0, 1) := by decide +kernel
theorem dX5_work_1 : decode cX5_work 1 = .ok (.getfield 10, 3) := by decide +kernel
theorem dX5_work_4 : decode cX5_work 4 = .ok (.getfield 51, 3) := by decide +kernel
theorem dX5_work_7 : decode cX5_work 7 = .ok (.bipush 6, 2) := by decide +kernel
theorem dX5_work_9 : decode cX5_work 9 = .ok (.if_icmp .ge 11, 3) := by decide +kernel
theorem dX5_work_12 : decode cX5_work 12 = .ok (.iload_n 1, 1) := by decide +kernel
theorem dX5_work_13 : decode cX5_work 13 = .ok (.iload_n 2, 1) := by decide +kernel
theorem dX5_work_14 : decode cX5_work 14 = .ok (.invokestatic 55, 3) := by decide +kernel
theorem dX5_work_17 : decode cX5_work 17 = .ok (.ifCond .ne 5, 3) := by decide +kernel
theorem dX5_work_20 : decode cX5_work 20 = .ok (.iconst (-1), 1) := by decide +kernel
theorem dX5_work_21 : decode cX5_work 21 = .ok (.ireturn, 1) := by decide +kernel
theorem dX5_work_22 : decode cX5_work 22 = .ok (.aload_n 0, 1) := by decide +kernel
theorem dX5_work_23 : decode cX5_work 23 = .ok (.getfield 10, 3) := by decide +kernel
theorem dX5_work_26 : decode cX5_work 26 = .ok (.iload_n 1, 1) := by decide +kernel
theorem dX5_work_27 : decode cX5_work 27 = .ok (.iload_n 2, 1) := by decide +kernel
theorem dX5_work_28 : decode cX5_work 28 = .ok (.invokevirtual 59, 3) := by decide +kernel
theorem dX5_work_31 : decode cX5_work 31 = .ok (.ireturn, 1) := by decide +kernel
theorem dX5_user_0 : decode cX5_user 0 = .ok (.aload_n 0, 1) := by decide +kernel
theorem dX5_user_1 : decode cX5_user 1 = .ok (.getfield 19, 3) := by decide +kernel
theorem dX5_user_4 : decode cX5_user 4 = .ok (.getfield 63, 3) := by decide +kernel
theorem dX5_user_7 : decode cX5_user 7 = .ok (.bipush 8, 2) := by decide +kernel
theorem dX5_user_9 : decode cX5_user 9 = .ok (.if_icmp .lt 5, 3) := by decide +kernel
theorem dX5_user_12 : decode cX5_user 12 = .ok (.iconst (-1), 1) := by decide +kernel
theorem dX5_user_13 : decode cX5_user 13 = .ok (.ireturn, 1) := by decide +kernel
theorem dX5_user_14 : decode cX5_user 14 = .ok (.aload_n 0, 1) := by decide +kernel
theorem dX5_user_15 : decode cX5_user 15 = .ok (.getfield 19, 3) := by decide +kernel
theorem dX5_user_18 : decode cX5_user 18 = .ok (.invokevirtual 64, 3) := by decide +kernel
theorem dX5_user_21 : decode cX5_user 21 = .ok (.ireturn, 1) := by decide +kernel
theorem dX5_change_0 : decode cX5_change 0 = .ok (.aload_n 0, 1) := by decide +kernel
theorem dX5_change_1 : decode cX5_change 1 = .ok (.getfield 10, 3) := by decide +kernel
theorem dX5_change_4 : decode cX5_change 4 = .ok (.iload_n 1, 1) := by decide +kernel
theorem dX5_change_5 : decode cX5_change 5 = .ok (.invokevirtual 67, 3) := by decide +kernel
theorem dX5_change_8 : decode cX5_change 8 = .ok (.ifCond .eq 11, 3) := by decide +kernel
theorem dX5_change_11 : decode cX5_change 11 = .ok (.iload_n 2, 1) := by decide +kernel
theorem dX5_change_12 : decode cX5_change 12 = .ok (.iload_n 3, 1) := by decide +kernel
theorem dX5_change_13 : decode cX5_change 13 = .ok (.invokestatic 55, 3) := by decide +kernel
theorem dX5_change_16 : decode cX5_change 16 = .ok (.ifCond .ne 5, 3) := by decide +kernel
theorem dX5_change_19 : decode cX5_change 19 = .ok (.iconst 0, 1) := by decide +kernel
theorem dX5_change_20 : decode cX5_change 20 = .ok (.ireturn, 1) := by decide +kernel
theorem dX5_change_21 : decode cX5_change 21 = .ok (.aload_n 0, 1) := by decide +kernel
theorem dX5_change_22 : decode cX5_change 22 = .ok (.getfield 10, 3) := by decide +kernel
theorem dX5_change_25 : decode cX5_change 25 = .ok (.iload_n 1, 1) := by decide +kernel
theorem dX5_change_26 : decode cX5_change 26 = .ok (.iload_n 2, 1) := by decide +kernel
theorem dX5_change_27 : decode cX5_change 27 = .ok (.iload_n 3, 1) := by decide +kernel
theorem dX5_change_28 : decode cX5_change 28 = .ok (.invokevirtual 71, 3) := by decide +kernel
theorem dX5_change_31 : decode cX5_change 31 = .ok (.iconst 1, 1) := by decide +kernel
theorem dX5_change_32 : decode cX5_change 32 = .ok (.ireturn, 1) := by decide +kernel
theorem dX5_use_0 : decode cX5_use 0 = .ok (.aload_n 0, 1) := by decide +kernel
theorem dX5_use_1 : decode cX5_use 1 = .ok (.getfield 10, 3) := by decide +kernel
theorem dX5_use_4 : decode cX5_use 4 = .ok (.iload_n 1, 1) := by decide +kernel
theorem dX5_use_5 : decode cX5_use 5 = .ok (.invokevirtual 67, 3) := by decide +kernel
theorem dX5_use_8 : decode cX5_use 8 = .ok (.ifCond .eq 21, 3) := by decide +kernel
theorem dX5_use_11 : decode cX5_use 11 = .ok (.aload_n 0, 1) := by decide +kernel
theorem dX5_use_12 : decode cX5_use 12 = .ok (.getfield 19, 3) := by decide +kernel
theorem dX5_use_15 : decode cX5_use 15 = .ok (.iload_n 2, 1) := by decide +kernel
theorem dX5_use_16 : decode cX5_use 16 = .ok (.invokevirtual 75, 3) := by decide +kernel
theorem dX5_use_19 : decode cX5_use 19 = .ok (.ifCond .eq 10, 3) := by decide +kernel
theorem dX5_use_22 : decode cX5_use 22 = .ok (.iload_n 3, 1) := by decide +kernel
theorem dX5_use_23 : decode cX5_use 23 = .ok (.invokestatic 76, 3) := by decide +kernel
theorem dX5_use_26 : decode cX5_use 26 = .ok (.ifCond .ne 5, 3) := by decide +kernel
theorem dX5_use_29 : decode cX5_use 29 = .ok (.iconst 0, 1) := by decide +kernel
theorem dX5_use_30 : decode cX5_use 30 = .ok (.ireturn, 1) := by decide +kernel
theorem dX5_use_31 : decode cX5_use 31 = .ok (.aload_n 0, 1) := by decide +kernel
theorem dX5_use_32 : decode cX5_use 32 = .ok (.getfield 10, 3) := by decide +kernel
theorem dX5_use_35 : decode cX5_use 35 = .ok (.iload_n 1, 1) := by decide +kernel
theorem dX5_use_36 : decode cX5_use 36 = .ok (.iload_n 2, 1) := by decide +kernel
theorem dX5_use_37 : decode cX5_use 37 = .ok (.iload_n 3, 1) := by decide +kernel
theorem dX5_use_38 : decode cX5_use 38 = .ok (.invokevirtual 79, 3) := by decide +kernel
theorem dX5_use_41 : decode cX5_use 41 = .ok (.iconst 1, 1) := by decide +kernel
theorem dX5_use_42 : decode cX5_use 42 = .ok (.ireturn, 1) := by decide +kernel
theorem dX5_feed_0 : decode cX5_feed 0 = .ok (.aload_n 0, 1) := by decide +kernel
theorem dX5_feed_1 : decode cX5_feed 1 = .ok (.getfield 10, 3) := by decide +kernel
theorem dX5_feed_4 : decode cX5_feed 4 = .ok (.iload_n 1, 1) := by decide +kernel
theorem dX5_feed_5 : decode cX5_feed 5 = .ok (.invokevirtual 67, 3) := by decide +kernel
theorem dX5_feed_8 : decode cX5_feed 8 = .ok (.ifCond .eq 26, 3) := by decide +kernel
theorem dX5_feed_11 : decode cX5_feed 11 = .ok (.aload_n 0, 1) := by decide +kernel
theorem dX5_feed_12 : decode cX5_feed 12 = .ok (.getfield 10, 3) := by decide +kernel
theorem dX5_feed_15 : decode cX5_feed 15 = .ok (.iload_n 2, 1) := by decide +kernel
theorem dX5_feed_16 : decode cX5_feed 16 = .ok (.invokevirtual 67, 3) := by decide +kernel
theorem dX5_feed_19 : decode cX5_feed 19 = .ok (.ifCond .eq 15, 3) := by decide +kernel
theorem dX5_feed_22 : decode cX5_feed 22 = .ok (.iload_n 1, 1) := by decide +kernel
theorem dX5_feed_23 : decode cX5_feed 23 = .ok (.iload_n 2, 1) := by decide +kernel
theorem dX5_feed_24 : decode cX5_feed 24 = .ok (.if_icmp .eq 10, 3) := by decide +kernel
theorem dX5_feed_27 : decode cX5_feed 27 = .ok (.iload_n 3, 1) := by decide +kernel
theorem dX5_feed_28 : decode cX5_feed 28 = .ok (.invokestatic 76, 3) := by decide +kernel
theorem dX5_feed_31 : decode cX5_feed 31 = .ok (.ifCond .ne 5, 3) := by decide +kernel
theorem dX5_feed_34 : decode cX5_feed 34 = .ok (.iconst 0, 1) := by decide +kernel
theorem dX5_feed_35 : decode cX5_feed 35 = .ok (.ireturn, 1) := by decide +kernel
theorem dX5_feed_36 : decode cX5_feed 36 = .ok (.aload_n 0, 1) := by decide +kernel
theorem dX5_feed_37 : decode cX5_feed 37 = .ok (.getfield 10, 3) := by decide +kernel
theorem dX5_feed_40 : decode cX5_feed 40 = .ok (.iload_n 1, 1) := by decide +kernel
theorem dX5_feed_41 : decode cX5_feed 41 = .ok (.iload_n 2, 1) := by decide +kernel
theorem dX5_feed_42 : decode cX5_feed 42 = .ok (.iload_n 3, 1) := by decide +kernel
theorem dX5_feed_43 : decode cX5_feed 43 = .ok (.invokevirtual 82, 3) := by decide +kernel
theorem dX5_feed_46 : decode cX5_feed 46 = .ok (.iconst 1, 1) := by decide +kernel
theorem dX5_feed_47 : decode cX5_feed 47 = .ok (.ireturn, 1) := by decide +kernel
theorem dX5_set_0 : decode cX5_set 0 = .ok (.aload_n 0, 1) := by decide +kernel
theorem dX5_set_1 : decode cX5_set 1 = .ok (.getfield 19, 3) := by decide +kernel
theorem dX5_set_4 : decode cX5_set 4 = .ok (.iload_n 1, 1) := by decide +kernel
theorem dX5_set_5 : decode cX5_set 5 = .ok (.invokevirtual 75, 3) := by decide +kernel
theorem dX5_set_8 : decode cX5_set 8 = .ok (.ifCond .eq 15, 3) := by decide +kernel
theorem dX5_set_11 : decode cX5_set 11 = .ok (.aload_n 0, 1) := by decide +kernel
theorem dX5_set_12 : decode cX5_set 12 = .ok (.getfield 19, 3) := by decide +kernel
theorem dX5_set_15 : decode cX5_set 15 = .ok (.iload_n 1, 1) := by decide +kernel
theorem dX5_set_16 : decode cX5_set 16 = .ok (.invokevirtual 85, 3) := by decide +kernel
theorem dX5_set_19 : decode cX5_set 19 = .ok (.iload_n 2, 1) := by decide +kernel
theorem dX5_set_20 : decode cX5_set 20 = .ok (.if_icmp .ne 5, 3) := by decide +kernel
theorem dX5_set_23 : decode cX5_set 23 = .ok (.iconst 0, 1) := by decide +kernel
theorem dX5_set_24 : decode cX5_set 24 = .ok (.ireturn, 1) := by decide +kernel
theorem dX5_set_25 : decode cX5_set 25 = .ok (.aload_n 0, 1) := by decide +kernel
theorem dX5_set_26 : decode cX5_set 26 = .ok (.getfield 19, 3) := by decide +kernel
theorem dX5_set_29 : decode cX5_set 29 = .ok (.iload_n 1, 1) := by decide +kernel
theorem dX5_set_30 : decode cX5_set 30 = .ok (.invokevirtual 88, 3) := by decide +kernel
theorem dX5_set_33 : decode cX5_set 33 = .ok (.iconst 1, 1) := by decide +kernel
theorem dX5_set_34 : decode cX5_set 34 = .ok (.ireturn, 1) := by decide +kernel
theorem dX5_mark_0 : decode cX5_mark 0 = .ok (.aload_n 0, 1) := by decide +kernel
theorem dX5_mark_1 : decode cX5_mark 1 = .ok (.getfield 19, 3) := by decide +kernel
theorem dX5_mark_4 : decode cX5_mark 4 = .ok (.iload_n 1, 1) := by decide +kernel
theorem dX5_mark_5 : decode cX5_mark 5 = .ok (.invokevirtual 75, 3) := by decide +kernel
theorem dX5_mark_8 : decode cX5_mark 8 = .ok (.ifCond .ne 7, 3) := by decide +kernel
theorem dX5_mark_11 : decode cX5_mark 11 = .ok (.sipush (-20000), 3) := by decide +kernel
theorem dX5_mark_14 : decode cX5_mark 14 = .ok (.ireturn, 1) := by decide +kernel
theorem dX5_mark_15 : decode cX5_mark 15 = .ok (.aload_n 0, 1) := by decide +kernel
theorem dX5_mark_16 : decode cX5_mark 16 = .ok (.getfield 19, 3) := by decide +kernel
theorem dX5_mark_19 : decode cX5_mark 19 = .ok (.getfield 92, 3) := by decide +kernel
theorem dX5_mark_22 : decode cX5_mark 22 = .ok (.iload_n 1, 1) := by decide +kernel
theorem dX5_mark_23 : decode cX5_mark 23 = .ok (.iaload, 1) := by decide +kernel
theorem dX5_mark_24 : decode cX5_mark 24 = .ok (.i2l, 1) := by decide +kernel
theorem dX5_mark_25 : decode cX5_mark 25 = .ok (.iload_n 2, 1) := by decide +kernel
theorem dX5_mark_26 : decode cX5_mark 26 = .ok (.i2l, 1) := by decide +kernel
theorem dX5_mark_27 : decode cX5_mark 27 = .ok (.ladd, 1) := by decide +kernel
theorem dX5_mark_28 : decode cX5_mark 28 = .ok (.lstore_n 3, 1) := by decide +kernel
theorem dX5_mark_29 : decode cX5_mark 29 = .ok (.lload_n 3, 1) := by decide +kernel
theorem dX5_mark_30 : decode cX5_mark 30 = .ok (.ldc2_w 95, 3) := by decide +kernel
theorem dX5_mark_33 : decode cX5_mark 33 = .ok (.lcmp, 1) := by decide +kernel
theorem dX5_mark_34 : decode cX5_mark 34 = .ok (.ifCond .lt 11, 3) := by decide +kernel
theorem dX5_mark_37 : decode cX5_mark 37 = .ok (.lload_n 3, 1) := by decide +kernel
theorem dX5_mark_38 : decode cX5_mark 38 = .ok (.ldc2_w 97, 3) := by decide +kernel
theorem dX5_mark_41 : decode cX5_mark 41 = .ok (.lcmp, 1) := by decide +kernel
theorem dX5_mark_42 : decode cX5_mark 42 = .ok (.ifCond .le 7, 3) := by decide +kernel
theorem dX5_mark_45 : decode cX5_mark 45 = .ok (.sipush (-20000), 3) := by decide +kernel
theorem dX5_mark_48 : decode cX5_mark 48 = .ok (.ireturn, 1) := by decide +kernel
theorem dX5_mark_49 : decode cX5_mark 49 = .ok (.aload_n 0, 1) := by decide +kernel
theorem dX5_mark_50 : decode cX5_mark 50 = .ok (.getfield 19, 3) := by decide +kernel
theorem dX5_mark_53 : decode cX5_mark 53 = .ok (.getfield 92, 3) := by decide +kernel
theorem dX5_mark_56 : decode cX5_mark 56 = .ok (.iload_n 1, 1) := by decide +kernel
theorem dX5_mark_57 : decode cX5_mark 57 = .ok (.lload_n 3, 1) := by decide +kernel
theorem dX5_mark_58 : decode cX5_mark 58 = .ok (.l2i, 1) := by decide +kernel
theorem dX5_mark_59 : decode cX5_mark 59 = .ok (.iastore, 1) := by decide +kernel
theorem dX5_mark_60 : decode cX5_mark 60 = .ok (.aload_n 0, 1) := by decide +kernel
theorem dX5_mark_61 : decode cX5_mark 61 = .ok (.getfield 19, 3) := by decide +kernel
theorem dX5_mark_64 : decode cX5_mark 64 = .ok (.getfield 92, 3) := by decide +kernel
theorem dX5_mark_67 : decode cX5_mark 67 = .ok (.iload_n 1, 1) := by decide +kernel
theorem dX5_mark_68 : decode cX5_mark 68 = .ok (.iaload, 1) := by decide +kernel
theorem dX5_mark_69 : decode cX5_mark 69 = .ok (.ireturn, 1) := by decide +kernel
theorem dX5_needed_0 : decode cX5_needed 0 = .ok (.aload_n 0, 1) := by decide +kernel
theorem dX5_needed_1 : decode cX5_needed 1 = .ok (.getfield 10, 3) := by decide +kernel
theorem dX5_needed_4 : decode cX5_needed 4 = .ok (.aload_n 0, 1) := by decide +kernel
theorem dX5_needed_5 : decode cX5_needed 5 = .ok (.getfield 19, 3) := by decide +kernel
theorem dX5_needed_8 : decode cX5_needed 8 = .ok (.getfield 99, 3) := by decide +kernel
theorem dX5_needed_11 : decode cX5_needed 11 = .ok (.invokevirtual 102, 3) := by decide +kernel
theorem dX5_needed_14 : decode cX5_needed 14 = .ok (.ireturn, 1) := by decide +kernel
theorem dX5_idle_0 : decode cX5_idle 0 = .ok (.aload_n 0, 1) := by decide +kernel
theorem dX5_idle_1 : decode cX5_idle 1 = .ok (.getfield 10, 3) := by decide +kernel
theorem dX5_idle_4 : decode cX5_idle 4 = .ok (.invokevirtual 106, 3) := by decide +kernel
theorem dX5_idle_7 : decode cX5_idle 7 = .ok (.aload_n 0, 1) := by decide +kernel
theorem dX5_idle_8 : decode cX5_idle 8 = .ok (.getfield 10, 3) := by decide +kernel
theorem dX5_idle_11 : decode cX5_idle 11 = .ok (.aload_n 0, 1) := by decide +kernel
theorem dX5_idle_12 : decode cX5_idle 12 = .ok (.getfield 19, 3) := by decide +kernel
theorem dX5_idle_15 : decode cX5_idle 15 = .ok (.getfield 99, 3) := by decide +kernel
theorem dX5_idle_18 : decode cX5_idle 18 = .ok (.invokevirtual 102, 3) := by decide +kernel
theorem dX5_idle_21 : decode cX5_idle 21 = .ok (.iconst (-1), 1) := by decide +kernel
theorem dX5_idle_22 : decode cX5_idle 22 = .ok (.ixor, 1) := by decide +kernel
theorem dX5_idle_23 : decode cX5_idle 23 = .ok (.iand, 1) := by decide +kernel
theorem dX5_idle_24 : decode cX5_idle 24 = .ok (.ireturn, 1) := by decide +kernel
theorem dX5_total_0 : decode cX5_total 0 = .ok (.aload_n 0, 1) := by decide +kernel
theorem dX5_total_1 : decode cX5_total 1 = .ok (.iload_n 1, 1) := by decide +kernel
theorem dX5_total_2 : decode cX5_total 2 = .ok (.invokevirtual 109, 3) := by decide +kernel
theorem dX5_total_5 : decode cX5_total 5 = .ok (.ifCond .ne 5, 3) := by decide +kernel
theorem dX5_total_8 : decode cX5_total 8 = .ok (.iconst (-1), 1) := by decide +kernel
theorem dX5_total_9 : decode cX5_total 9 = .ok (.ireturn, 1) := by decide +kernel
theorem dX5_total_10 : decode cX5_total 10 = .ok (.aload_n 0, 1) := by decide +kernel
theorem dX5_total_11 : decode cX5_total 11 = .ok (.getfield 10, 3) := by decide +kernel
theorem dX5_total_14 : decode cX5_total 14 = .ok (.iload_n 1, 1) := by decide +kernel
theorem dX5_total_15 : decode cX5_total 15 = .ok (.aload_n 0, 1) := by decide +kernel
theorem dX5_total_16 : decode cX5_total 16 = .ok (.getfield 19, 3) := by decide +kernel
theorem dX5_total_19 : decode cX5_total 19 = .ok (.getfield 99, 3) := by decide +kernel
theorem dX5_total_22 : decode cX5_total 22 = .ok (.aload_n 0, 1) := by decide +kernel
theorem dX5_total_23 : decode cX5_total 23 = .ok (.getfield 10, 3) := by decide +kernel
theorem dX5_total_26 : decode cX5_total 26 = .ok (.aload_n 0, 1) := by decide +kernel
theorem dX5_total_27 : decode cX5_total 27 = .ok (.getfield 19, 3) := by decide +kernel
theorem dX5_total_30 : decode cX5_total 30 = .ok (.getfield 99, 3) := by decide +kernel
theorem dX5_total_33 : decode cX5_total 33 = .ok (.invokevirtual 102, 3) := by decide +kernel
theorem dX5_total_36 : decode cX5_total 36 = .ok (.invokevirtual 112, 3) := by decide +kernel
theorem dX5_total_39 : decode cX5_total 39 = .ok (.ireturn, 1) := by decide +kernel
theorem dX5_cost_0 : decode cX5_cost 0 = .ok (.iload_n 1, 1) := by decide +kernel
theorem dX5_cost_1 : decode cX5_cost 1 = .ok (.aload_n 0, 1) := by decide +kernel
theorem dX5_cost_2 : decode cX5_cost 2 = .ok (.getfield 19, 3) := by decide +kernel
theorem dX5_cost_5 : decode cX5_cost 5 = .ok (.invokevirtual 116, 3) := by decide +kernel
theorem dX5_cost_8 : decode cX5_cost 8 = .ok (.iconst (-1), 1) := by decide +kernel
theorem dX5_cost_9 : decode cX5_cost 9 = .ok (.ixor, 1) := by decide +kernel
theorem dX5_cost_10 : decode cX5_cost 10 = .ok (.iand, 1) := by decide +kernel
theorem dX5_cost_11 : decode cX5_cost 11 = .ok (.ifCond .eq 5, 3) := by decide +kernel
theorem dX5_cost_14 : decode cX5_cost 14 = .ok (.iconst (-1), 1) := by decide +kernel
theorem dX5_cost_15 : decode cX5_cost 15 = .ok (.ireturn, 1) := by decide +kernel
theorem dX5_cost_16 : decode cX5_cost 16 = .ok (.aload_n 0, 1) := by decide +kernel
theorem dX5_cost_17 : decode cX5_cost 17 = .ok (.getfield 10, 3) := by decide +kernel
theorem dX5_cost_20 : decode cX5_cost 20 = .ok (.iload_n 1, 1) := by decide +kernel
theorem dX5_cost_21 : decode cX5_cost 21 = .ok (.invokevirtual 119, 3) := by decide +kernel
theorem dX5_cost_24 : decode cX5_cost 24 = .ok (.ireturn, 1) := by decide +kernel
theorem dX5_price_0 : decode cX5_price 0 = .ok (.aload_n 0, 1) := by decide +kernel
theorem dX5_price_1 : decode cX5_price 1 = .ok (.iload_n 1, 1) := by decide +kernel
theorem dX5_price_2 : decode cX5_price 2 = .ok (.invokevirtual 109, 3) := by decide +kernel
theorem dX5_price_5 : decode cX5_price 5 = .ok (.ifCond .eq 10, 3) := by decide +kernel
theorem dX5_price_8 : decode cX5_price 8 = .ok (.iload_n 2, 1) := by decide +kernel
theorem dX5_price_9 : decode cX5_price 9 = .ok (.invokestatic 122, 3) := by decide +kernel
theorem dX5_price_12 : decode cX5_price 12 = .ok (.ifCond .ne 7, 3) := by decide +kernel
theorem dX5_price_15 : decode cX5_price 15 = .ok (.ldc2_w 125, 3) := by decide +kernel
theorem dX5_price_18 : decode cX5_price 18 = .ok (.lreturn, 1) := by decide +kernel
theorem dX5_price_19 : decode cX5_price 19 = .ok (.aload_n 0, 1) := by decide +kernel
theorem dX5_price_20 : decode cX5_price 20 = .ok (.getfield 26, 3) := by decide +kernel
theorem dX5_price_23 : decode cX5_price 23 = .ok (.aload_n 0, 1) := by decide +kernel
theorem dX5_price_24 : decode cX5_price 24 = .ok (.getfield 10, 3) := by decide +kernel
theorem dX5_price_27 : decode cX5_price 27 = .ok (.aload_n 0, 1) := by decide +kernel
theorem dX5_price_28 : decode cX5_price 28 = .ok (.getfield 19, 3) := by decide +kernel
theorem dX5_price_31 : decode cX5_price 31 = .ok (.getfield 99, 3) := by decide +kernel
theorem dX5_price_34 : decode cX5_price 34 = .ok (.invokevirtual 127, 3) := by decide +kernel
theorem dX5_price_37 : decode cX5_price 37 = .ok (.aload_n 0, 1) := by decide +kernel
theorem dX5_price_38 : decode cX5_price 38 = .ok (.getfield 26, 3) := by decide +kernel
theorem dX5_price_41 : decode cX5_price 41 = .ok (.getfield 131, 3) := by decide +kernel
theorem dX5_price_44 : decode cX5_price 44 = .ok (.iload_n 1, 1) := by decide +kernel
theorem dX5_price_45 : decode cX5_price 45 = .ok (.laload, 1) := by decide +kernel
theorem dX5_price_46 : decode cX5_price 46 = .ok (.aload_n 0, 1) := by decide +kernel
theorem dX5_price_47 : decode cX5_price 47 = .ok (.getfield 26, 3) := by decide +kernel
theorem dX5_price_50 : decode cX5_price 50 = .ok (.getfield 135, 3) := by decide +kernel
theorem dX5_price_53 : decode cX5_price 53 = .ok (.iload_n 2, 1) := by decide +kernel
theorem dX5_price_54 : decode cX5_price 54 = .ok (.invokestatic 139, 3) := by decide +kernel
theorem dX5_price_57 : decode cX5_price 57 = .ok (.lreturn, 1) := by decide +kernel
theorem dX5_bill_0 : decode cX5_bill 0 = .ok (.iload_n 1, 1) := by decide +kernel
theorem dX5_bill_1 : decode cX5_bill 1 = .ok (.invokestatic 143, 3) := by decide +kernel
theorem dX5_bill_4 : decode cX5_bill 4 = .ok (.ifCond .eq 21, 3) := by decide +kernel
theorem dX5_bill_7 : decode cX5_bill 7 = .ok (.aload_n 0, 1) := by decide +kernel
theorem dX5_bill_8 : decode cX5_bill 8 = .ok (.getfield 19, 3) := by decide +kernel
theorem dX5_bill_11 : decode cX5_bill 11 = .ok (.iload_n 2, 1) := by decide +kernel
theorem dX5_bill_12 : decode cX5_bill 12 = .ok (.invokevirtual 85, 3) := by decide +kernel
theorem dX5_bill_15 : decode cX5_bill 15 = .ok (.ifCond .eq 10, 3) := by decide +kernel
theorem dX5_bill_18 : decode cX5_bill 18 = .ok (.iload_n 3, 1) := by decide +kernel
theorem dX5_bill_19 : decode cX5_bill 19 = .ok (.invokestatic 122, 3) := by decide +kernel
theorem dX5_bill_22 : decode cX5_bill 22 = .ok (.ifCond .ne 7, 3) := by decide +kernel
theorem dX5_bill_25 : decode cX5_bill 25 = .ok (.ldc2_w 125, 3) := by decide +kernel
theorem dX5_bill_28 : decode cX5_bill 28 = .ok (.lreturn, 1) := by decide +kernel
theorem dX5_bill_29 : decode cX5_bill 29 = .ok (.aload_n 0, 1) := by decide +kernel
theorem dX5_bill_30 : decode cX5_bill 30 = .ok (.iload_n 1, 1) := by decide +kernel
theorem dX5_bill_31 : decode cX5_bill 31 = .ok (.invokevirtual 146, 3) := by decide +kernel
theorem dX5_bill_34 : decode cX5_bill 34 = .ok (.aload_n 0, 1) := by decide +kernel
theorem dX5_bill_35 : decode cX5_bill 35 = .ok (.getfield 19, 3) := by decide +kernel
theorem dX5_bill_38 : decode cX5_bill 38 = .ok (.getfield 92, 3) := by decide +kernel
theorem dX5_bill_41 : decode cX5_bill 41 = .ok (.iload_n 2, 1) := by decide +kernel
theorem dX5_bill_42 : decode cX5_bill 42 = .ok (.iaload, 1) := by decide +kernel
theorem dX5_bill_43 : decode cX5_bill 43 = .ok (.i2l, 1) := by decide +kernel
theorem dX5_bill_44 : decode cX5_bill 44 = .ok (.aload_n 0, 1) := by decide +kernel
theorem dX5_bill_45 : decode cX5_bill 45 = .ok (.getfield 33, 3) := by decide +kernel
theorem dX5_bill_48 : decode cX5_bill 48 = .ok (.getfield 149, 3) := by decide +kernel
theorem dX5_bill_51 : decode cX5_bill 51 = .ok (.lmul, 1) := by decide +kernel
theorem dX5_bill_52 : decode cX5_bill 52 = .ok (.lstore 4, 2) := by decide +kernel
theorem dX5_bill_54 : decode cX5_bill 54 = .ok (.aload_n 0, 1) := by decide +kernel
theorem dX5_bill_55 : decode cX5_bill 55 = .ok (.getfield 33, 3) := by decide +kernel
theorem dX5_bill_58 : decode cX5_bill 58 = .ok (.getfield 150, 3) := by decide +kernel
theorem dX5_bill_61 : decode cX5_bill 61 = .ok (.iload_n 2, 1) := by decide +kernel
theorem dX5_bill_62 : decode cX5_bill 62 = .ok (.laload, 1) := by decide +kernel
theorem dX5_bill_63 : decode cX5_bill 63 = .ok (.lload 4, 2) := by decide +kernel
theorem dX5_bill_65 : decode cX5_bill 65 = .ok (.ladd, 1) := by decide +kernel
theorem dX5_bill_66 : decode cX5_bill 66 = .ok (.aload_n 0, 1) := by decide +kernel
theorem dX5_bill_67 : decode cX5_bill 67 = .ok (.getfield 33, 3) := by decide +kernel
theorem dX5_bill_70 : decode cX5_bill 70 = .ok (.getfield 149, 3) := by decide +kernel
theorem dX5_bill_73 : decode cX5_bill 73 = .ok (.iload_n 3, 1) := by decide +kernel
theorem dX5_bill_74 : decode cX5_bill 74 = .ok (.invokestatic 139, 3) := by decide +kernel
theorem dX5_bill_77 : decode cX5_bill 77 = .ok (.lreturn, 1) := by decide +kernel
theorem dX5_coins_0 : decode cX5_coins 0 = .ok (.iload_n 1, 1) := by decide +kernel
theorem dX5_coins_1 : decode cX5_coins 1 = .ok (.invokestatic 143, 3) := by decide +kernel
theorem dX5_coins_4 : decode cX5_coins 4 = .ok (.ifCond .eq 14, 3) := by decide +kernel
theorem dX5_coins_7 : decode cX5_coins 7 = .ok (.aload_n 0, 1) := by decide +kernel
theorem dX5_coins_8 : decode cX5_coins 8 = .ok (.getfield 19, 3) := by decide +kernel
theorem dX5_coins_11 : decode cX5_coins 11 = .ok (.iload_n 2, 1) := by decide +kernel
theorem dX5_coins_12 : decode cX5_coins 12 = .ok (.invokevirtual 85, 3) := by decide +kernel
theorem dX5_coins_15 : decode cX5_coins 15 = .ok (.ifCond .ne 6, 3) := by decide +kernel
theorem dX5_coins_18 : decode cX5_coins 18 = .ok (.ldc 151, 2) := by decide +kernel
theorem dX5_coins_20 : decode cX5_coins 20 = .ok (.ireturn, 1) := by decide +kernel
theorem dX5_coins_21 : decode cX5_coins 21 = .ok (.aload_n 0, 1) := by decide +kernel
theorem dX5_coins_22 : decode cX5_coins 22 = .ok (.iload_n 1, 1) := by decide +kernel
theorem dX5_coins_23 : decode cX5_coins 23 = .ok (.aload_n 0, 1) := by decide +kernel
theorem dX5_coins_24 : decode cX5_coins 24 = .ok (.getfield 44, 3) := by decide +kernel
theorem dX5_coins_27 : decode cX5_coins 27 = .ok (.invokevirtual 152, 3) := by decide +kernel
theorem dX5_coins_30 : decode cX5_coins 30 = .ok (.aload_n 0, 1) := by decide +kernel
theorem dX5_coins_31 : decode cX5_coins 31 = .ok (.getfield 44, 3) := by decide +kernel
theorem dX5_coins_34 : decode cX5_coins 34 = .ok (.iload_n 2, 1) := by decide +kernel
theorem dX5_coins_35 : decode cX5_coins 35 = .ok (.iaload, 1) := by decide +kernel
theorem dX5_coins_36 : decode cX5_coins 36 = .ok (.ireturn, 1) := by decide +kernel
theorem dX5_leaving_0 : decode cX5_leaving 0 = .ok (.iload_n 1, 1) := by decide +kernel
theorem dX5_leaving_1 : decode cX5_leaving 1 = .ok (.invokestatic 143, 3) := by decide +kernel
theorem dX5_leaving_4 : decode cX5_leaving 4 = .ok (.ifCond .ne 5, 3) := by decide +kernel
theorem dX5_leaving_7 : decode cX5_leaving 7 = .ok (.iconst (-1), 1) := by decide +kernel
theorem dX5_leaving_8 : decode cX5_leaving 8 = .ok (.ireturn, 1) := by decide +kernel
theorem dX5_leaving_9 : decode cX5_leaving 9 = .ok (.aload_n 0, 1) := by decide +kernel
theorem dX5_leaving_10 : decode cX5_leaving 10 = .ok (.iload_n 1, 1) := by decide +kernel
theorem dX5_leaving_11 : decode cX5_leaving 11 = .ok (.invokevirtual 146, 3) := by decide +kernel
theorem dX5_leaving_14 : decode cX5_leaving 14 = .ok (.iconst 1, 1) := by decide +kernel
theorem dX5_leaving_15 : decode cX5_leaving 15 = .ok (.istore_n 2, 1) := by decide +kernel
theorem dX5_leaving_16 : decode cX5_leaving 16 = .ok (.iload_n 2, 1) := by decide +kernel
theorem dX5_leaving_17 : decode cX5_leaving 17 = .ok (.aload_n 0, 1) := by decide +kernel
theorem dX5_leaving_18 : decode cX5_leaving 18 = .ok (.getfield 19, 3) := by decide +kernel
theorem dX5_leaving_21 : decode cX5_leaving 21 = .ok (.getfield 99, 3) := by decide +kernel
theorem dX5_leaving_24 : decode cX5_leaving 24 = .ok (.if_icmp .gt 64, 3) := by decide +kernel
theorem dX5_leaving_27 : decode cX5_leaving 27 = .ok (.iload_n 2, 1) := by decide +kernel
theorem dX5_leaving_28 : decode cX5_leaving 28 = .ok (.aload_n 0, 1) := by decide +kernel
theorem dX5_leaving_29 : decode cX5_leaving 29 = .ok (.getfield 19, 3) := by decide +kernel
theorem dX5_leaving_32 : decode cX5_leaving 32 = .ok (.getfield 99, 3) := by decide +kernel
theorem dX5_leaving_35 : decode cX5_leaving 35 = .ok (.iconst (-1), 1) := by decide +kernel
theorem dX5_leaving_36 : decode cX5_leaving 36 = .ok (.ixor, 1) := by decide +kernel
theorem dX5_leaving_37 : decode cX5_leaving 37 = .ok (.iand, 1) := by decide +kernel
theorem dX5_leaving_38 : decode cX5_leaving 38 = .ok (.ifCond .ne 7, 3) := by decide +kernel
theorem dX5_leaving_41 : decode cX5_leaving 41 = .ok (.iconst 1, 1) := by decide +kernel
theorem dX5_leaving_42 : decode cX5_leaving 42 = .ok (.goto 4, 3) := by decide +kernel
theorem dX5_leaving_45 : decode cX5_leaving 45 = .ok (.iconst 0, 1) := by decide +kernel
theorem dX5_leaving_46 : decode cX5_leaving 46 = .ok (.istore_n 3, 1) := by decide +kernel
theorem dX5_leaving_47 : decode cX5_leaving 47 = .ok (.iload_n 3, 1) := by decide +kernel
theorem dX5_leaving_48 : decode cX5_leaving 48 = .ok (.ifCond .eq 34, 3) := by decide +kernel
theorem dX5_leaving_51 : decode cX5_leaving 51 = .ok (.aload_n 0, 1) := by decide +kernel
theorem dX5_leaving_52 : decode cX5_leaving 52 = .ok (.getfield 33, 3) := by decide +kernel
theorem dX5_leaving_55 : decode cX5_leaving 55 = .ok (.iload_n 2, 1) := by decide +kernel
theorem dX5_leaving_56 : decode cX5_leaving 56 = .ok (.invokevirtual 156, 3) := by decide +kernel
theorem dX5_leaving_59 : decode cX5_leaving 59 = .ok (.aload_n 0, 1) := by decide +kernel
theorem dX5_leaving_60 : decode cX5_leaving 60 = .ok (.getfield 10, 3) := by decide +kernel
theorem dX5_leaving_63 : decode cX5_leaving 63 = .ok (.iload_n 2, 1) := by decide +kernel
theorem dX5_leaving_64 : decode cX5_leaving 64 = .ok (.invokevirtual 119, 3) := by decide +kernel
theorem dX5_leaving_67 : decode cX5_leaving 67 = .ok (.i2l, 1) := by decide +kernel
theorem dX5_leaving_68 : decode cX5_leaving 68 = .ok (.aload_n 0, 1) := by decide +kernel
theorem dX5_leaving_69 : decode cX5_leaving 69 = .ok (.getfield 33, 3) := by decide +kernel
theorem dX5_leaving_72 : decode cX5_leaving 72 = .ok (.getfield 149, 3) := by decide +kernel
theorem dX5_leaving_75 : decode cX5_leaving 75 = .ok (.lmul, 1) := by decide +kernel
theorem dX5_leaving_76 : decode cX5_leaving 76 = .ok (.lcmp, 1) := by decide +kernel
theorem dX5_leaving_77 : decode cX5_leaving 77 = .ok (.ifCond .le 5, 3) := by decide +kernel
theorem dX5_leaving_80 : decode cX5_leaving 80 = .ok (.iload_n 2, 1) := by decide +kernel
theorem dX5_leaving_81 : decode cX5_leaving 81 = .ok (.ireturn, 1) := by decide +kernel
theorem dX5_leaving_82 : decode cX5_leaving 82 = .ok (.iinc 2 1, 3) := by decide +kernel
theorem dX5_leaving_85 : decode cX5_leaving 85 = .ok (.goto (-69), 3) := by decide +kernel
theorem dX5_leaving_88 : decode cX5_leaving 88 = .ok (.iconst 0, 1) := by decide +kernel
theorem dX5_leaving_89 : decode cX5_leaving 89 = .ok (.ireturn, 1) := by decide +kernel
theorem dX5_saved_0 : decode cX5_saved 0 = .ok (.aload_n 0, 1) := by decide +kernel
theorem dX5_saved_1 : decode cX5_saved 1 = .ok (.getfield 19, 3) := by decide +kernel
theorem dX5_saved_4 : decode cX5_saved 4 = .ok (.iload_n 1, 1) := by decide +kernel
theorem dX5_saved_5 : decode cX5_saved 5 = .ok (.invokevirtual 85, 3) := by decide +kernel
theorem dX5_saved_8 : decode cX5_saved 8 = .ok (.ifCond .ne 5, 3) := by decide +kernel
theorem dX5_saved_11 : decode cX5_saved 11 = .ok (.iconst (-1), 1) := by decide +kernel
theorem dX5_saved_12 : decode cX5_saved 12 = .ok (.ireturn, 1) := by decide +kernel
theorem dX5_saved_13 : decode cX5_saved 13 = .ok (.aload_n 0, 1) := by decide +kernel
theorem dX5_saved_14 : decode cX5_saved 14 = .ok (.getfield 10, 3) := by decide +kernel
theorem dX5_saved_17 : decode cX5_saved 17 = .ok (.aload_n 0, 1) := by decide +kernel
theorem dX5_saved_18 : decode cX5_saved 18 = .ok (.getfield 19, 3) := by decide +kernel
theorem dX5_saved_21 : decode cX5_saved 21 = .ok (.getfield 99, 3) := by decide +kernel
theorem dX5_saved_24 : decode cX5_saved 24 = .ok (.invokevirtual 119, 3) := by decide +kernel
theorem dX5_saved_27 : decode cX5_saved 27 = .ok (.aload_n 0, 1) := by decide +kernel
theorem dX5_saved_28 : decode cX5_saved 28 = .ok (.getfield 10, 3) := by decide +kernel
theorem dX5_saved_31 : decode cX5_saved 31 = .ok (.aload_n 0, 1) := by decide +kernel
theorem dX5_saved_32 : decode cX5_saved 32 = .ok (.getfield 19, 3) := by decide +kernel
theorem dX5_saved_35 : decode cX5_saved 35 = .ok (.getfield 99, 3) := by decide +kernel
theorem dX5_saved_38 : decode cX5_saved 38 = .ok (.iconst 1, 1) := by decide +kernel
theorem dX5_saved_39 : decode cX5_saved 39 = .ok (.iload_n 1, 1) := by decide +kernel
theorem dX5_saved_40 : decode cX5_saved 40 = .ok (.ishl, 1) := by decide +kernel
theorem dX5_saved_41 : decode cX5_saved 41 = .ok (.iconst (-1), 1) := by decide +kernel
theorem dX5_saved_42 : decode cX5_saved 42 = .ok (.ixor, 1) := by decide +kernel
theorem dX5_saved_43 : decode cX5_saved 43 = .ok (.iand, 1) := by decide +kernel
theorem dX5_saved_44 : decode cX5_saved 44 = .ok (.invokevirtual 119, 3) := by decide +kernel
theorem dX5_saved_47 : decode cX5_saved 47 = .ok (.isub, 1) := by decide +kernel
theorem dX5_saved_48 : decode cX5_saved 48 = .ok (.ireturn, 1) := by decide +kernel
theorem dX5_differ_0 : decode cX5_differ 0 = .ok (.iload_n 1, 1) := by decide +kernel
end
section
theorem dX5_differ_1 : decode cX5_differ 1 = .ok (.invokestatic 143, 3) := by decide +kernel
theorem dX5_differ_4 : decode cX5_differ 4 = .ok (.ifCond .eq 10, 3) := by decide +kernel
theorem dX5_differ_7 : decode cX5_differ 7 = .ok (.iload_n 2, 1) := by decide +kernel
theorem dX5_differ_8 : decode cX5_differ 8 = .ok (.invokestatic 143, 3) := by decide +kernel
theorem dX5_differ_11 : decode cX5_differ 11 = .ok (.ifCond .ne 5, 3) := by decide +kernel
theorem dX5_differ_14 : decode cX5_differ 14 = .ok (.iconst (-1), 1) := by decide +kernel
theorem dX5_differ_15 : decode cX5_differ 15 = .ok (.ireturn, 1) := by decide +kernel
theorem dX5_differ_16 : decode cX5_differ 16 = .ok (.aload_n 0, 1) := by decide +kernel
theorem dX5_differ_17 : decode cX5_differ 17 = .ok (.iload_n 1, 1) := by decide +kernel
theorem dX5_differ_18 : decode cX5_differ 18 = .ok (.aload_n 0, 1) := by decide +kernel
theorem dX5_differ_19 : decode cX5_differ 19 = .ok (.getfield 44, 3) := by decide +kernel
theorem dX5_differ_22 : decode cX5_differ 22 = .ok (.invokevirtual 152, 3) := by decide +kernel
theorem dX5_differ_25 : decode cX5_differ 25 = .ok (.aload_n 0, 1) := by decide +kernel
theorem dX5_differ_26 : decode cX5_differ 26 = .ok (.iload_n 2, 1) := by decide +kernel
theorem dX5_differ_27 : decode cX5_differ 27 = .ok (.aload_n 0, 1) := by decide +kernel
theorem dX5_differ_28 : decode cX5_differ 28 = .ok (.getfield 48, 3) := by decide +kernel
theorem dX5_differ_31 : decode cX5_differ 31 = .ok (.invokevirtual 152, 3) := by decide +kernel
theorem dX5_differ_34 : decode cX5_differ 34 = .ok (.iconst 0, 1) := by decide +kernel
theorem dX5_differ_35 : decode cX5_differ 35 = .ok (.istore_n 3, 1) := by decide +kernel
theorem dX5_differ_36 : decode cX5_differ 36 = .ok (.iconst 0, 1) := by decide +kernel
theorem dX5_differ_37 : decode cX5_differ 37 = .ok (.istore 4, 2) := by decide +kernel
theorem dX5_differ_39 : decode cX5_differ 39 = .ok (.iload 4, 2) := by decide +kernel
theorem dX5_differ_41 : decode cX5_differ 41 = .ok (.bipush 8, 2) := by decide +kernel
theorem dX5_differ_43 : decode cX5_differ 43 = .ok (.if_icmp .ge 30, 3) := by decide +kernel
theorem dX5_differ_46 : decode cX5_differ 46 = .ok (.iload_n 3, 1) := by decide +kernel
theorem dX5_differ_47 : decode cX5_differ 47 = .ok (.aload_n 0, 1) := by decide +kernel
theorem dX5_differ_48 : decode cX5_differ 48 = .ok (.getfield 44, 3) := by decide +kernel
theorem dX5_differ_51 : decode cX5_differ 51 = .ok (.iload 4, 2) := by decide +kernel
theorem dX5_differ_53 : decode cX5_differ 53 = .ok (.iaload, 1) := by decide +kernel
theorem dX5_differ_54 : decode cX5_differ 54 = .ok (.aload_n 0, 1) := by decide +kernel
theorem dX5_differ_55 : decode cX5_differ 55 = .ok (.getfield 48, 3) := by decide +kernel
theorem dX5_differ_58 : decode cX5_differ 58 = .ok (.iload 4, 2) := by decide +kernel
theorem dX5_differ_60 : decode cX5_differ 60 = .ok (.iaload, 1) := by decide +kernel
theorem dX5_differ_61 : decode cX5_differ 61 = .ok (.isub, 1) := by decide +kernel
theorem dX5_differ_62 : decode cX5_differ 62 = .ok (.invokestatic 160, 3) := by decide +kernel
theorem dX5_differ_65 : decode cX5_differ 65 = .ok (.iadd, 1) := by decide +kernel
theorem dX5_differ_66 : decode cX5_differ 66 = .ok (.istore_n 3, 1) := by decide +kernel
theorem dX5_differ_67 : decode cX5_differ 67 = .ok (.iinc 4 1, 3) := by decide +kernel
theorem dX5_differ_70 : decode cX5_differ 70 = .ok (.goto (-31), 3) := by decide +kernel
theorem dX5_differ_73 : decode cX5_differ 73 = .ok (.iload_n 3, 1) := by decide +kernel
theorem dX5_differ_74 : decode cX5_differ 74 = .ok (.ireturn, 1) := by decide +kernel
theorem dX5_book_0 : decode cX5_book 0 = .ok (.iload_n 1, 1) := by decide +kernel
theorem dX5_book_1 : decode cX5_book 1 = .ok (.invokestatic 143, 3) := by decide +kernel
theorem dX5_book_4 : decode cX5_book 4 = .ok (.ifCond .ne 5, 3) := by decide +kernel
theorem dX5_book_7 : decode cX5_book 7 = .ok (.iconst (-1), 1) := by decide +kernel
theorem dX5_book_8 : decode cX5_book 8 = .ok (.ireturn, 1) := by decide +kernel
theorem dX5_book_9 : decode cX5_book 9 = .ok (.aload_n 0, 1) := by decide +kernel
theorem dX5_book_10 : decode cX5_book 10 = .ok (.iload_n 1, 1) := by decide +kernel
theorem dX5_book_11 : decode cX5_book 11 = .ok (.aload_n 0, 1) := by decide +kernel
theorem dX5_book_12 : decode cX5_book 12 = .ok (.getfield 44, 3) := by decide +kernel
theorem dX5_book_15 : decode cX5_book 15 = .ok (.invokevirtual 152, 3) := by decide +kernel
theorem dX5_book_18 : decode cX5_book 18 = .ok (.aload_n 0, 1) := by decide +kernel
theorem dX5_book_19 : decode cX5_book 19 = .ok (.getfield 40, 3) := by decide +kernel
theorem dX5_book_22 : decode cX5_book 22 = .ok (.aload_n 0, 1) := by decide +kernel
theorem dX5_book_23 : decode cX5_book 23 = .ok (.getfield 44, 3) := by decide +kernel
theorem dX5_book_26 : decode cX5_book 26 = .ok (.invokevirtual 165, 3) := by decide +kernel
theorem dX5_book_29 : decode cX5_book 29 = .ok (.istore_n 2, 1) := by decide +kernel
theorem dX5_book_30 : decode cX5_book 30 = .ok (.aload_n 0, 1) := by decide +kernel
theorem dX5_book_31 : decode cX5_book 31 = .ok (.getfield 40, 3) := by decide +kernel
theorem dX5_book_34 : decode cX5_book 34 = .ok (.getfield 169, 3) := by decide +kernel
theorem dX5_book_37 : decode cX5_book 37 = .ok (.iload_n 2, 1) := by decide +kernel
theorem dX5_book_38 : decode cX5_book 38 = .ok (.iadd, 1) := by decide +kernel
theorem dX5_book_39 : decode cX5_book 39 = .ok (.sipush 400, 3) := by decide +kernel
theorem dX5_book_42 : decode cX5_book 42 = .ok (.if_icmp .le 5, 3) := by decide +kernel
theorem dX5_book_45 : decode cX5_book 45 = .ok (.iconst (-1), 1) := by decide +kernel
theorem dX5_book_46 : decode cX5_book 46 = .ok (.ireturn, 1) := by decide +kernel
theorem dX5_book_47 : decode cX5_book 47 = .ok (.aload_n 0, 1) := by decide +kernel
theorem dX5_book_48 : decode cX5_book 48 = .ok (.getfield 40, 3) := by decide +kernel
theorem dX5_book_51 : decode cX5_book 51 = .ok (.aload_n 0, 1) := by decide +kernel
theorem dX5_book_52 : decode cX5_book 52 = .ok (.getfield 44, 3) := by decide +kernel
theorem dX5_book_55 : decode cX5_book 55 = .ok (.invokevirtual 172, 3) := by decide +kernel
theorem dX5_book_58 : decode cX5_book 58 = .ok (.iload_n 2, 1) := by decide +kernel
theorem dX5_book_59 : decode cX5_book 59 = .ok (.ireturn, 1) := by decide +kernel
theorem dX5_booked_0 : decode cX5_booked 0 = .ok (.aload_n 0, 1) := by decide +kernel
theorem dX5_booked_1 : decode cX5_booked 1 = .ok (.getfield 19, 3) := by decide +kernel
theorem dX5_booked_4 : decode cX5_booked 4 = .ok (.iload_n 1, 1) := by decide +kernel
theorem dX5_booked_5 : decode cX5_booked 5 = .ok (.invokevirtual 75, 3) := by decide +kernel
theorem dX5_booked_8 : decode cX5_booked 8 = .ok (.ifCond .eq 15, 3) := by decide +kernel
theorem dX5_booked_11 : decode cX5_booked 11 = .ok (.aload_n 0, 1) := by decide +kernel
theorem dX5_booked_12 : decode cX5_booked 12 = .ok (.getfield 40, 3) := by decide +kernel
theorem dX5_booked_15 : decode cX5_booked 15 = .ok (.getfield 176, 3) := by decide +kernel
theorem dX5_booked_18 : decode cX5_booked 18 = .ok (.iload_n 1, 1) := by decide +kernel
theorem dX5_booked_19 : decode cX5_booked 19 = .ok (.iaload, 1) := by decide +kernel
theorem dX5_booked_20 : decode cX5_booked 20 = .ok (.goto 4, 3) := by decide +kernel
theorem dX5_booked_23 : decode cX5_booked 23 = .ok (.iconst 0, 1) := by decide +kernel
theorem dX5_booked_24 : decode cX5_booked 24 = .ok (.ireturn, 1) := by decide +kernel
theorem dX5_line_0 : decode cX5_line 0 = .ok (.iload_n 1, 1) := by decide +kernel
theorem dX5_line_1 : decode cX5_line 1 = .ok (.ifCond .lt 14, 3) := by decide +kernel
theorem dX5_line_4 : decode cX5_line 4 = .ok (.iload_n 1, 1) := by decide +kernel
theorem dX5_line_5 : decode cX5_line 5 = .ok (.aload_n 0, 1) := by decide +kernel
theorem dX5_line_6 : decode cX5_line 6 = .ok (.getfield 40, 3) := by decide +kernel
theorem dX5_line_9 : decode cX5_line 9 = .ok (.getfield 169, 3) := by decide +kernel
theorem dX5_line_12 : decode cX5_line 12 = .ok (.if_icmp .lt 6, 3) := by decide +kernel
theorem dX5_line_15 : decode cX5_line 15 = .ok (.ldc 151, 2) := by decide +kernel
theorem dX5_line_17 : decode cX5_line 17 = .ok (.ireturn, 1) := by decide +kernel
theorem dX5_line_18 : decode cX5_line 18 = .ok (.iload_n 2, 1) := by decide +kernel
theorem dX5_line_19 : decode cX5_line 19 = .ok (.tableswitch 55 0 2 #[25, 35, 45], 25) := by decide +kernel
theorem dX5_line_44 : decode cX5_line 44 = .ok (.aload_n 0, 1) := by decide +kernel
theorem dX5_line_45 : decode cX5_line 45 = .ok (.getfield 40, 3) := by decide +kernel
theorem dX5_line_48 : decode cX5_line 48 = .ok (.getfield 179, 3) := by decide +kernel
theorem dX5_line_51 : decode cX5_line 51 = .ok (.iload_n 1, 1) := by decide +kernel
theorem dX5_line_52 : decode cX5_line 52 = .ok (.iaload, 1) := by decide +kernel
theorem dX5_line_53 : decode cX5_line 53 = .ok (.ireturn, 1) := by decide +kernel
theorem dX5_line_54 : decode cX5_line 54 = .ok (.aload_n 0, 1) := by decide +kernel
theorem dX5_line_55 : decode cX5_line 55 = .ok (.getfield 40, 3) := by decide +kernel
theorem dX5_line_58 : decode cX5_line 58 = .ok (.getfield 182, 3) := by decide +kernel
theorem dX5_line_61 : decode cX5_line 61 = .ok (.iload_n 1, 1) := by decide +kernel
theorem dX5_line_62 : decode cX5_line 62 = .ok (.iaload, 1) := by decide +kernel
theorem dX5_line_63 : decode cX5_line 63 = .ok (.ireturn, 1) := by decide +kernel
theorem dX5_line_64 : decode cX5_line 64 = .ok (.aload_n 0, 1) := by decide +kernel
theorem dX5_line_65 : decode cX5_line 65 = .ok (.getfield 40, 3) := by decide +kernel
theorem dX5_line_68 : decode cX5_line 68 = .ok (.getfield 185, 3) := by decide +kernel
theorem dX5_line_71 : decode cX5_line 71 = .ok (.iload_n 1, 1) := by decide +kernel
theorem dX5_line_72 : decode cX5_line 72 = .ok (.iaload, 1) := by decide +kernel
theorem dX5_line_73 : decode cX5_line 73 = .ok (.ireturn, 1) := by decide +kernel
theorem dX5_line_74 : decode cX5_line 74 = .ok (.ldc 151, 2) := by decide +kernel
theorem dX5_line_76 : decode cX5_line 76 = .ok (.ireturn, 1) := by decide +kernel
theorem dX5_count_0 : decode cX5_count 0 = .ok (.iload_n 1, 1) := by decide +kernel
theorem dX5_count_1 : decode cX5_count 1 = .ok (.tableswitch 102 0 6 #[43, 51, 59, 70, 78, 86, 94], 43) := by decide +kernel
theorem dX5_count_44 : decode cX5_count 44 = .ok (.aload_n 0, 1) := by decide +kernel
theorem dX5_count_45 : decode cX5_count 45 = .ok (.getfield 10, 3) := by decide +kernel
theorem dX5_count_48 : decode cX5_count 48 = .ok (.getfield 51, 3) := by decide +kernel
theorem dX5_count_51 : decode cX5_count 51 = .ok (.ireturn, 1) := by decide +kernel
theorem dX5_count_52 : decode cX5_count 52 = .ok (.aload_n 0, 1) := by decide +kernel
theorem dX5_count_53 : decode cX5_count 53 = .ok (.getfield 19, 3) := by decide +kernel
theorem dX5_count_56 : decode cX5_count 56 = .ok (.getfield 63, 3) := by decide +kernel
theorem dX5_count_59 : decode cX5_count 59 = .ok (.ireturn, 1) := by decide +kernel
theorem dX5_count_60 : decode cX5_count 60 = .ok (.aload_n 0, 1) := by decide +kernel
theorem dX5_count_61 : decode cX5_count 61 = .ok (.getfield 19, 3) := by decide +kernel
theorem dX5_count_64 : decode cX5_count 64 = .ok (.getfield 99, 3) := by decide +kernel
theorem dX5_count_67 : decode cX5_count 67 = .ok (.invokestatic 188, 3) := by decide +kernel
theorem dX5_count_70 : decode cX5_count 70 = .ok (.ireturn, 1) := by decide +kernel
theorem dX5_count_71 : decode cX5_count 71 = .ok (.aload_n 0, 1) := by decide +kernel
theorem dX5_count_72 : decode cX5_count 72 = .ok (.getfield 40, 3) := by decide +kernel
theorem dX5_count_75 : decode cX5_count 75 = .ok (.getfield 169, 3) := by decide +kernel
theorem dX5_count_78 : decode cX5_count 78 = .ok (.ireturn, 1) := by decide +kernel
theorem dX5_count_79 : decode cX5_count 79 = .ok (.aload_n 0, 1) := by decide +kernel
theorem dX5_count_80 : decode cX5_count 80 = .ok (.getfield 40, 3) := by decide +kernel
theorem dX5_count_83 : decode cX5_count 83 = .ok (.getfield 193, 3) := by decide +kernel
theorem dX5_count_86 : decode cX5_count 86 = .ok (.ireturn, 1) := by decide +kernel
theorem dX5_count_87 : decode cX5_count 87 = .ok (.aload_n 0, 1) := by decide +kernel
theorem dX5_count_88 : decode cX5_count 88 = .ok (.getfield 19, 3) := by decide +kernel
theorem dX5_count_91 : decode cX5_count 91 = .ok (.invokevirtual 196, 3) := by decide +kernel
theorem dX5_count_94 : decode cX5_count 94 = .ok (.ireturn, 1) := by decide +kernel
theorem dX5_count_95 : decode cX5_count 95 = .ok (.aload_n 0, 1) := by decide +kernel
theorem dX5_count_96 : decode cX5_count 96 = .ok (.getfield 40, 3) := by decide +kernel
theorem dX5_count_99 : decode cX5_count 99 = .ok (.invokevirtual 199, 3) := by decide +kernel
theorem dX5_count_102 : decode cX5_count 102 = .ok (.ireturn, 1) := by decide +kernel
theorem dX5_count_103 : decode cX5_count 103 = .ok (.ldc 151, 2) := by decide +kernel
theorem dX5_count_105 : decode cX5_count 105 = .ok (.ireturn, 1) := by decide +kernel
theorem dX5_areCosts_0 : decode cX5_areCosts 0 = .ok (.iload_n 0, 1) := by decide +kernel
theorem dX5_areCosts_1 : decode cX5_areCosts 1 = .ok (.ifCond .lt 24, 3) := by decide +kernel
theorem dX5_areCosts_4 : decode cX5_areCosts 4 = .ok (.iload_n 0, 1) := by decide +kernel
theorem dX5_areCosts_5 : decode cX5_areCosts 5 = .ok (.sipush 10000, 3) := by decide +kernel
theorem dX5_areCosts_8 : decode cX5_areCosts 8 = .ok (.if_icmp .gt 17, 3) := by decide +kernel
theorem dX5_areCosts_11 : decode cX5_areCosts 11 = .ok (.iload_n 1, 1) := by decide +kernel
theorem dX5_areCosts_12 : decode cX5_areCosts 12 = .ok (.ifCond .lt 13, 3) := by decide +kernel
theorem dX5_areCosts_15 : decode cX5_areCosts 15 = .ok (.iload_n 1, 1) := by decide +kernel
theorem dX5_areCosts_16 : decode cX5_areCosts 16 = .ok (.bipush 100, 2) := by decide +kernel
theorem dX5_areCosts_18 : decode cX5_areCosts 18 = .ok (.if_icmp .gt 7, 3) := by decide +kernel
theorem dX5_areCosts_21 : decode cX5_areCosts 21 = .ok (.iconst 1, 1) := by decide +kernel
theorem dX5_areCosts_22 : decode cX5_areCosts 22 = .ok (.goto 4, 3) := by decide +kernel
theorem dX5_areCosts_25 : decode cX5_areCosts 25 = .ok (.iconst 0, 1) := by decide +kernel
theorem dX5_areCosts_26 : decode cX5_areCosts 26 = .ok (.ireturn, 1) := by decide +kernel
theorem dX5_areUnits_0 : decode cX5_areUnits 0 = .ok (.iload_n 0, 1) := by decide +kernel
theorem dX5_areUnits_1 : decode cX5_areUnits 1 = .ok (.ifCond .lt 13, 3) := by decide +kernel
theorem dX5_areUnits_4 : decode cX5_areUnits 4 = .ok (.iload_n 0, 1) := by decide +kernel
theorem dX5_areUnits_5 : decode cX5_areUnits 5 = .ok (.bipush 9, 2) := by decide +kernel
theorem dX5_areUnits_7 : decode cX5_areUnits 7 = .ok (.if_icmp .gt 7, 3) := by decide +kernel
theorem dX5_areUnits_10 : decode cX5_areUnits 10 = .ok (.iconst 1, 1) := by decide +kernel
theorem dX5_areUnits_11 : decode cX5_areUnits 11 = .ok (.goto 4, 3) := by decide +kernel
theorem dX5_areUnits_14 : decode cX5_areUnits 14 = .ok (.iconst 0, 1) := by decide +kernel
theorem dX5_areUnits_15 : decode cX5_areUnits 15 = .ok (.ireturn, 1) := by decide +kernel
theorem dX5_isRule_0 : decode cX5_isRule 0 = .ok (.iload_n 0, 1) := by decide +kernel
theorem dX5_isRule_1 : decode cX5_isRule 1 = .ok (.ifCond .lt 12, 3) := by decide +kernel
theorem dX5_isRule_4 : decode cX5_isRule 4 = .ok (.iload_n 0, 1) := by decide +kernel
theorem dX5_isRule_5 : decode cX5_isRule 5 = .ok (.iconst 2, 1) := by decide +kernel
theorem dX5_isRule_6 : decode cX5_isRule 6 = .ok (.if_icmp .gt 7, 3) := by decide +kernel
theorem dX5_isRule_9 : decode cX5_isRule 9 = .ok (.iconst 1, 1) := by decide +kernel
theorem dX5_isRule_10 : decode cX5_isRule 10 = .ok (.goto 4, 3) := by decide +kernel
theorem dX5_isRule_13 : decode cX5_isRule 13 = .ok (.iconst 0, 1) := by decide +kernel
theorem dX5_isRule_14 : decode cX5_isRule 14 = .ok (.ireturn, 1) := by decide +kernel
theorem dX5_isPart_0 : decode cX5_isPart 0 = .ok (.iload_n 0, 1) := by decide +kernel
theorem dX5_isPart_1 : decode cX5_isPart 1 = .ok (.ifCond .eq 8, 3) := by decide +kernel
theorem dX5_isPart_4 : decode cX5_isPart 4 = .ok (.iload_n 0, 1) := by decide +kernel
theorem dX5_isPart_5 : decode cX5_isPart 5 = .ok (.iconst 1, 1) := by decide +kernel
theorem dX5_isPart_6 : decode cX5_isPart 6 = .ok (.if_icmp .ne 7, 3) := by decide +kernel
theorem dX5_isPart_9 : decode cX5_isPart 9 = .ok (.iconst 1, 1) := by decide +kernel
theorem dX5_isPart_10 : decode cX5_isPart 10 = .ok (.goto 4, 3) := by decide +kernel
theorem dX5_isPart_13 : decode cX5_isPart 13 = .ok (.iconst 0, 1) := by decide +kernel
theorem dX5_isPart_14 : decode cX5_isPart 14 = .ok (.ireturn, 1) := by decide +kernel
theorem dX5_isIn_0 : decode cX5_isIn 0 = .ok (.iload_n 0, 1) := by decide +kernel
theorem dX5_isIn_1 : decode cX5_isIn 1 = .ok (.iload_n 1, 1) := by decide +kernel
theorem dX5_isIn_2 : decode cX5_isIn 2 = .ok (.ishr, 1) := by decide +kernel
theorem dX5_isIn_3 : decode cX5_isIn 3 = .ok (.iconst 1, 1) := by decide +kernel
theorem dX5_isIn_4 : decode cX5_isIn 4 = .ok (.iand, 1) := by decide +kernel
theorem dX5_isIn_5 : decode cX5_isIn 5 = .ok (.ifCond .eq 7, 3) := by decide +kernel
theorem dX5_isIn_8 : decode cX5_isIn 8 = .ok (.iconst 1, 1) := by decide +kernel
theorem dX5_isIn_9 : decode cX5_isIn 9 = .ok (.goto 4, 3) := by decide +kernel
theorem dX5_isIn_12 : decode cX5_isIn 12 = .ok (.iconst 0, 1) := by decide +kernel
theorem dX5_isIn_13 : decode cX5_isIn 13 = .ok (.ireturn, 1) := by decide +kernel
theorem dX5_isNeededNow_0 : decode cX5_isNeededNow 0 = .ok (.aload_n 0, 1) := by decide +kernel
theorem dX5_isNeededNow_1 : decode cX5_isNeededNow 1 = .ok (.getfield 10, 3) := by decide +kernel
theorem dX5_isNeededNow_4 : decode cX5_isNeededNow 4 = .ok (.iload_n 1, 1) := by decide +kernel
theorem dX5_isNeededNow_5 : decode cX5_isNeededNow 5 = .ok (.invokevirtual 67, 3) := by decide +kernel
theorem dX5_isNeededNow_8 : decode cX5_isNeededNow 8 = .ok (.ifCond .eq 28, 3) := by decide +kernel
theorem dX5_isNeededNow_11 : decode cX5_isNeededNow 11 = .ok (.aload_n 0, 1) := by decide +kernel
theorem dX5_isNeededNow_12 : decode cX5_isNeededNow 12 = .ok (.getfield 10, 3) := by decide +kernel
theorem dX5_isNeededNow_15 : decode cX5_isNeededNow 15 = .ok (.aload_n 0, 1) := by decide +kernel
theorem dX5_isNeededNow_16 : decode cX5_isNeededNow 16 = .ok (.getfield 19, 3) := by decide +kernel
theorem dX5_isNeededNow_19 : decode cX5_isNeededNow 19 = .ok (.getfield 99, 3) := by decide +kernel
theorem dX5_isNeededNow_22 : decode cX5_isNeededNow 22 = .ok (.invokevirtual 102, 3) := by decide +kernel
theorem dX5_isNeededNow_25 : decode cX5_isNeededNow 25 = .ok (.iload_n 1, 1) := by decide +kernel
theorem dX5_isNeededNow_26 : decode cX5_isNeededNow 26 = .ok (.invokestatic 202, 3) := by decide +kernel
theorem dX5_isNeededNow_29 : decode cX5_isNeededNow 29 = .ok (.ifCond .eq 7, 3) := by decide +kernel
theorem dX5_isNeededNow_32 : decode cX5_isNeededNow 32 = .ok (.iconst 1, 1) := by decide +kernel
theorem dX5_isNeededNow_33 : decode cX5_isNeededNow 33 = .ok (.goto 4, 3) := by decide +kernel
theorem dX5_isNeededNow_36 : decode cX5_isNeededNow 36 = .ok (.iconst 0, 1) := by decide +kernel
theorem dX5_isNeededNow_37 : decode cX5_isNeededNow 37 = .ok (.ireturn, 1) := by decide +kernel
theorem dX5_shareOut_0 : decode cX5_shareOut 0 = .ok (.iload_n 1, 1) := by decide +kernel
theorem dX5_shareOut_1 : decode cX5_shareOut 1 = .ok (.ifCond .ne 46, 3) := by decide +kernel
theorem dX5_shareOut_4 : decode cX5_shareOut 4 = .ok (.aload_n 0, 1) := by decide +kernel
theorem dX5_shareOut_5 : decode cX5_shareOut 5 = .ok (.getfield 26, 3) := by decide +kernel
theorem dX5_shareOut_8 : decode cX5_shareOut 8 = .ok (.aload_n 0, 1) := by decide +kernel
theorem dX5_shareOut_9 : decode cX5_shareOut 9 = .ok (.getfield 10, 3) := by decide +kernel
theorem dX5_shareOut_12 : decode cX5_shareOut 12 = .ok (.aload_n 0, 1) := by decide +kernel
theorem dX5_shareOut_13 : decode cX5_shareOut 13 = .ok (.getfield 19, 3) := by decide +kernel
theorem dX5_shareOut_16 : decode cX5_shareOut 16 = .ok (.getfield 99, 3) := by decide +kernel
theorem dX5_shareOut_19 : decode cX5_shareOut 19 = .ok (.invokevirtual 127, 3) := by decide +kernel
theorem dX5_shareOut_22 : decode cX5_shareOut 22 = .ok (.aload_n 0, 1) := by decide +kernel
theorem dX5_shareOut_23 : decode cX5_shareOut 23 = .ok (.getfield 33, 3) := by decide +kernel
theorem dX5_shareOut_26 : decode cX5_shareOut 26 = .ok (.aload_n 0, 1) := by decide +kernel
theorem dX5_shareOut_27 : decode cX5_shareOut 27 = .ok (.getfield 10, 3) := by decide +kernel
theorem dX5_shareOut_30 : decode cX5_shareOut 30 = .ok (.aload_n 0, 1) := by decide +kernel
theorem dX5_shareOut_31 : decode cX5_shareOut 31 = .ok (.getfield 26, 3) := by decide +kernel
theorem dX5_shareOut_34 : decode cX5_shareOut 34 = .ok (.aload_n 0, 1) := by decide +kernel
theorem dX5_shareOut_35 : decode cX5_shareOut 35 = .ok (.getfield 19, 3) := by decide +kernel
theorem dX5_shareOut_38 : decode cX5_shareOut 38 = .ok (.getfield 99, 3) := by decide +kernel
theorem dX5_shareOut_41 : decode cX5_shareOut 41 = .ok (.invokevirtual 205, 3) := by decide +kernel
theorem dX5_shareOut_44 : decode cX5_shareOut 44 = .ok (.goto 47, 3) := by decide +kernel
theorem dX5_shareOut_47 : decode cX5_shareOut 47 = .ok (.iload_n 1, 1) := by decide +kernel
theorem dX5_shareOut_48 : decode cX5_shareOut 48 = .ok (.iconst 1, 1) := by decide +kernel
theorem dX5_shareOut_49 : decode cX5_shareOut 49 = .ok (.if_icmp .ne 24, 3) := by decide +kernel
theorem dX5_shareOut_52 : decode cX5_shareOut 52 = .ok (.aload_n 0, 1) := by decide +kernel
theorem dX5_shareOut_53 : decode cX5_shareOut 53 = .ok (.getfield 33, 3) := by decide +kernel
theorem dX5_shareOut_56 : decode cX5_shareOut 56 = .ok (.aload_n 0, 1) := by decide +kernel
theorem dX5_shareOut_57 : decode cX5_shareOut 57 = .ok (.getfield 10, 3) := by decide +kernel
theorem dX5_shareOut_60 : decode cX5_shareOut 60 = .ok (.aload_n 0, 1) := by decide +kernel
theorem dX5_shareOut_61 : decode cX5_shareOut 61 = .ok (.getfield 19, 3) := by decide +kernel
theorem dX5_shareOut_64 : decode cX5_shareOut 64 = .ok (.getfield 99, 3) := by decide +kernel
theorem dX5_shareOut_67 : decode cX5_shareOut 67 = .ok (.invokevirtual 209, 3) := by decide +kernel
theorem dX5_shareOut_70 : decode cX5_shareOut 70 = .ok (.goto 21, 3) := by decide +kernel
theorem dX5_shareOut_73 : decode cX5_shareOut 73 = .ok (.aload_n 0, 1) := by decide +kernel
theorem dX5_shareOut_74 : decode cX5_shareOut 74 = .ok (.getfield 33, 3) := by decide +kernel
theorem dX5_shareOut_77 : decode cX5_shareOut 77 = .ok (.aload_n 0, 1) := by decide +kernel
theorem dX5_shareOut_78 : decode cX5_shareOut 78 = .ok (.getfield 10, 3) := by decide +kernel
theorem dX5_shareOut_81 : decode cX5_shareOut 81 = .ok (.aload_n 0, 1) := by decide +kernel
theorem dX5_shareOut_82 : decode cX5_shareOut 82 = .ok (.getfield 19, 3) := by decide +kernel
theorem dX5_shareOut_85 : decode cX5_shareOut 85 = .ok (.getfield 99, 3) := by decide +kernel
theorem dX5_shareOut_88 : decode cX5_shareOut 88 = .ok (.invokevirtual 212, 3) := by decide +kernel
theorem dX5_shareOut_91 : decode cX5_shareOut 91 = .ok (.return_, 1) := by decide +kernel
theorem dX5_fillCoins_0 : decode cX5_fillCoins 0 = .ok (.aload_n 0, 1) := by decide +kernel
theorem dX5_fillCoins_1 : decode cX5_fillCoins 1 = .ok (.iload_n 1, 1) := by decide +kernel
theorem dX5_fillCoins_2 : decode cX5_fillCoins 2 = .ok (.invokevirtual 146, 3) := by decide +kernel
theorem dX5_fillCoins_5 : decode cX5_fillCoins 5 = .ok (.aload_n 0, 1) := by decide +kernel
theorem dX5_fillCoins_6 : decode cX5_fillCoins 6 = .ok (.getfield 33, 3) := by decide +kernel
theorem dX5_fillCoins_9 : decode cX5_fillCoins 9 = .ok (.aload_n 2, 1) := by decide +kernel
theorem dX5_fillCoins_10 : decode cX5_fillCoins 10 = .ok (.aload_n 0, 1) := by decide +kernel
theorem dX5_fillCoins_11 : decode cX5_fillCoins 11 = .ok (.getfield 10, 3) := by decide +kernel
theorem dX5_fillCoins_14 : decode cX5_fillCoins 14 = .ok (.aload_n 0, 1) := by decide +kernel
theorem dX5_fillCoins_15 : decode cX5_fillCoins 15 = .ok (.getfield 19, 3) := by decide +kernel
theorem dX5_fillCoins_18 : decode cX5_fillCoins 18 = .ok (.getfield 99, 3) := by decide +kernel
theorem dX5_fillCoins_21 : decode cX5_fillCoins 21 = .ok (.invokevirtual 119, 3) := by decide +kernel
theorem dX5_fillCoins_24 : decode cX5_fillCoins 24 = .ok (.aload_n 0, 1) := by decide +kernel
theorem dX5_fillCoins_25 : decode cX5_fillCoins 25 = .ok (.getfield 19, 3) := by decide +kernel
theorem dX5_fillCoins_28 : decode cX5_fillCoins 28 = .ok (.getfield 99, 3) := by decide +kernel
theorem dX5_fillCoins_31 : decode cX5_fillCoins 31 = .ok (.invokevirtual 215, 3) := by decide +kernel
theorem dX5_fillCoins_34 : decode cX5_fillCoins 34 = .ok (.iconst 0, 1) := by decide +kernel
theorem dX5_fillCoins_35 : decode cX5_fillCoins 35 = .ok (.istore_n 3, 1) := by decide +kernel
theorem dX5_fillCoins_36 : decode cX5_fillCoins 36 = .ok (.iload_n 3, 1) := by decide +kernel
theorem dX5_fillCoins_37 : decode cX5_fillCoins 37 = .ok (.bipush 8, 2) := by decide +kernel
theorem dX5_fillCoins_39 : decode cX5_fillCoins 39 = .ok (.if_icmp .ge 35, 3) := by decide +kernel
theorem dX5_fillCoins_42 : decode cX5_fillCoins 42 = .ok (.aload_n 0, 1) := by decide +kernel
theorem dX5_fillCoins_43 : decode cX5_fillCoins 43 = .ok (.getfield 19, 3) := by decide +kernel
theorem dX5_fillCoins_46 : decode cX5_fillCoins 46 = .ok (.iload_n 3, 1) := by decide +kernel
theorem dX5_fillCoins_47 : decode cX5_fillCoins 47 = .ok (.invokevirtual 85, 3) := by decide +kernel
theorem dX5_fillCoins_50 : decode cX5_fillCoins 50 = .ok (.ifCond .eq 18, 3) := by decide +kernel
theorem dX5_fillCoins_53 : decode cX5_fillCoins 53 = .ok (.aload_n 2, 1) := by decide +kernel
theorem dX5_fillCoins_54 : decode cX5_fillCoins 54 = .ok (.iload_n 3, 1) := by decide +kernel
theorem dX5_fillCoins_55 : decode cX5_fillCoins 55 = .ok (.dup2, 1) := by decide +kernel
theorem dX5_fillCoins_56 : decode cX5_fillCoins 56 = .ok (.iaload, 1) := by decide +kernel
theorem dX5_fillCoins_57 : decode cX5_fillCoins 57 = .ok (.aload_n 0, 1) := by decide +kernel
theorem dX5_fillCoins_58 : decode cX5_fillCoins 58 = .ok (.getfield 19, 3) := by decide +kernel
theorem dX5_fillCoins_61 : decode cX5_fillCoins 61 = .ok (.getfield 92, 3) := by decide +kernel
theorem dX5_fillCoins_64 : decode cX5_fillCoins 64 = .ok (.iload_n 3, 1) := by decide +kernel
theorem dX5_fillCoins_65 : decode cX5_fillCoins 65 = .ok (.iaload, 1) := by decide +kernel
theorem dX5_fillCoins_66 : decode cX5_fillCoins 66 = .ok (.iadd, 1) := by decide +kernel
theorem dX5_fillCoins_67 : decode cX5_fillCoins 67 = .ok (.iastore, 1) := by decide +kernel
theorem dX5_fillCoins_68 : decode cX5_fillCoins 68 = .ok (.iinc 3 1, 3) := by decide +kernel
theorem dX5_fillCoins_71 : decode cX5_fillCoins 71 = .ok (.goto (-35), 3) := by decide +kernel
theorem dX5_fillCoins_74 : decode cX5_fillCoins 74 = .ok (.return_, 1) := by decide +kernel
theorem dX5_partOfFraction_0 : decode cX5_partOfFraction 0 = .ok (.lload_n 0, 1) := by decide +kernel
theorem dX5_partOfFraction_1 : decode cX5_partOfFraction 1 = .ok (.invokestatic 219, 3) := by decide +kernel
theorem dX5_partOfFraction_4 : decode cX5_partOfFraction 4 = .ok (.lload_n 2, 1) := by decide +kernel
theorem dX5_partOfFraction_5 : decode cX5_partOfFraction 5 = .ok (.invokestatic 222, 3) := by decide +kernel
theorem dX5_partOfFraction_8 : decode cX5_partOfFraction 8 = .ok (.lstore 5, 2) := by decide +kernel
theorem dX5_partOfFraction_10 : decode cX5_partOfFraction 10 = .ok (.lload 5, 2) := by decide +kernel
theorem dX5_partOfFraction_12 : decode cX5_partOfFraction 12 = .ok (.lconst 0, 1) := by decide +kernel
theorem dX5_partOfFraction_13 : decode cX5_partOfFraction 13 = .ok (.lcmp, 1) := by decide +kernel
theorem dX5_partOfFraction_14 : decode cX5_partOfFraction 14 = .ok (.ifCond .ne 7, 3) := by decide +kernel
theorem dX5_partOfFraction_17 : decode cX5_partOfFraction 17 = .ok (.ldc2_w 125, 3) := by decide +kernel
theorem dX5_partOfFraction_20 : decode cX5_partOfFraction 20 = .ok (.lreturn, 1) := by decide +kernel
theorem dX5_partOfFraction_21 : decode cX5_partOfFraction 21 = .ok (.iload 4, 2) := by decide +kernel
theorem dX5_partOfFraction_23 : decode cX5_partOfFraction 23 = .ok (.ifCond .ne 7, 3) := by decide +kernel
theorem dX5_partOfFraction_26 : decode cX5_partOfFraction 26 = .ok (.lload_n 0, 1) := by decide +kernel
theorem dX5_partOfFraction_27 : decode cX5_partOfFraction 27 = .ok (.goto 4, 3) := by decide +kernel
theorem dX5_partOfFraction_30 : decode cX5_partOfFraction 30 = .ok (.lload_n 2, 1) := by decide +kernel
theorem dX5_partOfFraction_31 : decode cX5_partOfFraction 31 = .ok (.lload 5, 2) := by decide +kernel
theorem dX5_partOfFraction_33 : decode cX5_partOfFraction 33 = .ok (.ldiv, 1) := by decide +kernel
theorem dX5_partOfFraction_34 : decode cX5_partOfFraction 34 = .ok (.lreturn, 1) := by decide +kernel
theorem dX5_commonDivisor_0 : decode cX5_commonDivisor 0 = .ok (.iconst 0, 1) := by decide +kernel
theorem dX5_commonDivisor_1 : decode cX5_commonDivisor 1 = .ok (.istore 4, 2) := by decide +kernel
theorem dX5_commonDivisor_3 : decode cX5_commonDivisor 3 = .ok (.iload 4, 2) := by decide +kernel
theorem dX5_commonDivisor_5 : decode cX5_commonDivisor 5 = .ok (.bipush 100, 2) := by decide +kernel
theorem dX5_commonDivisor_7 : decode cX5_commonDivisor 7 = .ok (.if_icmp .ge 25, 3) := by decide +kernel
theorem dX5_commonDivisor_10 : decode cX5_commonDivisor 10 = .ok (.lload_n 2, 1) := by decide +kernel
theorem dX5_commonDivisor_11 : decode cX5_commonDivisor 11 = .ok (.lconst 0, 1) := by decide +kernel
theorem dX5_commonDivisor_12 : decode cX5_commonDivisor 12 = .ok (.lcmp, 1) := by decide +kernel
theorem dX5_commonDivisor_13 : decode cX5_commonDivisor 13 = .ok (.ifCond .eq 19, 3) := by decide +kernel
theorem dX5_commonDivisor_16 : decode cX5_commonDivisor 16 = .ok (.lload_n 0, 1) := by decide +kernel
theorem dX5_commonDivisor_17 : decode cX5_commonDivisor 17 = .ok (.lload_n 2, 1) := by decide +kernel
theorem dX5_commonDivisor_18 : decode cX5_commonDivisor 18 = .ok (.lrem, 1) := by decide +kernel
theorem dX5_commonDivisor_19 : decode cX5_commonDivisor 19 = .ok (.lstore 5, 2) := by decide +kernel
theorem dX5_commonDivisor_21 : decode cX5_commonDivisor 21 = .ok (.lload_n 2, 1) := by decide +kernel
theorem dX5_commonDivisor_22 : decode cX5_commonDivisor 22 = .ok (.lstore_n 0, 1) := by decide +kernel
theorem dX5_commonDivisor_23 : decode cX5_commonDivisor 23 = .ok (.lload 5, 2) := by decide +kernel
theorem dX5_commonDivisor_25 : decode cX5_commonDivisor 25 = .ok (.lstore_n 2, 1) := by decide +kernel
theorem dX5_commonDivisor_26 : decode cX5_commonDivisor 26 = .ok (.iinc 4 1, 3) := by decide +kernel
theorem dX5_commonDivisor_29 : decode cX5_commonDivisor 29 = .ok (.goto (-26), 3) := by decide +kernel
theorem dX5_commonDivisor_32 : decode cX5_commonDivisor 32 = .ok (.lload_n 0, 1) := by decide +kernel
theorem dX5_commonDivisor_33 : decode cX5_commonDivisor 33 = .ok (.lreturn, 1) := by decide +kernel
theorem dX6_init_0 : decode cX6_init 0 = .ok (.aload_n 0, 1) := by decide +kernel
theorem dX6_init_1 : decode cX6_init 1 = .ok (.invokespecial 3, 3) := by decide +kernel
theorem dX6_init_4 : decode cX6_init 4 = .ok (.aload_n 0, 1) := by decide +kernel
theorem dX6_init_5 : decode cX6_init 5 = .ok (.bipush 6, 2) := by decide +kernel
theorem dX6_init_7 : decode cX6_init 7 = .ok (.newarray .int, 2) := by decide +kernel
theorem dX6_init_9 : decode cX6_init 9 = .ok (.putfield 9, 3) := by decide +kernel
theorem dX6_init_12 : decode cX6_init 12 = .ok (.aload_n 0, 1) := by decide +kernel
theorem dX6_init_13 : decode cX6_init 13 = .ok (.bipush 6, 2) := by decide +kernel
theorem dX6_init_15 : decode cX6_init 15 = .ok (.newarray .int, 2) := by decide +kernel
theorem dX6_init_17 : decode cX6_init 17 = .ok (.putfield 13, 3) := by decide +kernel
theorem dX6_init_20 : decode cX6_init 20 = .ok (.aload_n 0, 1) := by decide +kernel
theorem dX6_init_21 : decode cX6_init 21 = .ok (.bipush 48, 2) := by decide +kernel
theorem dX6_init_23 : decode cX6_init 23 = .ok (.newarray .int, 2) := by decide +kernel
theorem dX6_init_25 : decode cX6_init 25 = .ok (.putfield 16, 3) := by decide +kernel
theorem dX6_init_28 : decode cX6_init 28 = .ok (.aload_n 0, 1) := by decide +kernel
theorem dX6_init_29 : decode cX6_init 29 = .ok (.bipush 36, 2) := by decide +kernel
theorem dX6_init_31 : decode cX6_init 31 = .ok (.newarray .int, 2) := by decide +kernel
theorem dX6_init_33 : decode cX6_init 33 = .ok (.putfield 19, 3) := by decide +kernel
theorem dX6_init_36 : decode cX6_init 36 = .ok (.aload_n 0, 1) := by decide +kernel
theorem dX6_init_37 : decode cX6_init 37 = .ok (.bipush 8, 2) := by decide +kernel
theorem dX6_init_39 : decode cX6_init 39 = .ok (.newarray .int, 2) := by decide +kernel
theorem dX6_init_41 : decode cX6_init 41 = .ok (.putfield 22, 3) := by decide +kernel
theorem dX6_init_44 : decode cX6_init 44 = .ok (.aload_n 0, 1) := by decide +kernel
theorem dX6_init_45 : decode cX6_init 45 = .ok (.bipush 8, 2) := by decide +kernel
theorem dX6_init_47 : decode cX6_init 47 = .ok (.newarray .int, 2) := by decide +kernel
theorem dX6_init_49 : decode cX6_init 49 = .ok (.putfield 25, 3) := by decide +kernel
theorem dX6_init_52 : decode cX6_init 52 = .ok (.aload_n 0, 1) := by decide +kernel
theorem dX6_init_53 : decode cX6_init 53 = .ok (.bipush 8, 2) := by decide +kernel
theorem dX6_init_55 : decode cX6_init 55 = .ok (.newarray .boolean, 2) := by decide +kernel
theorem dX6_init_57 : decode cX6_init 57 = .ok (.putfield 28, 3) := by decide +kernel
theorem dX6_init_60 : decode cX6_init 60 = .ok (.aload_n 0, 1) := by decide +kernel
theorem dX6_init_61 : decode cX6_init 61 = .ok (.sipush 400, 3) := by decide +kernel
theorem dX6_init_64 : decode cX6_init 64 = .ok (.newarray .int, 2) := by decide +kernel
theorem dX6_init_66 : decode cX6_init 66 = .ok (.putfield 32, 3) := by decide +kernel
theorem dX6_init_69 : decode cX6_init 69 = .ok (.aload_n 0, 1) := by decide +kernel
theorem dX6_init_70 : decode cX6_init 70 = .ok (.sipush 400, 3) := by decide +kernel
theorem dX6_init_73 : decode cX6_init 73 = .ok (.newarray .int, 2) := by decide +kernel
theorem dX6_init_75 : decode cX6_init 75 = .ok (.putfield 35, 3) := by decide +kernel
theorem dX6_init_78 : decode cX6_init 78 = .ok (.aload_n 0, 1) := by decide +kernel
theorem dX6_init_79 : decode cX6_init 79 = .ok (.sipush 400, 3) := by decide +kernel
theorem dX6_init_82 : decode cX6_init 82 = .ok (.newarray .int, 2) := by decide +kernel
theorem dX6_init_84 : decode cX6_init 84 = .ok (.putfield 38, 3) := by decide +kernel
theorem dX6_init_87 : decode cX6_init 87 = .ok (.aload_n 0, 1) := by decide +kernel
theorem dX6_init_88 : decode cX6_init 88 = .ok (.bipush 6, 2) := by decide +kernel
theorem dX6_init_90 : decode cX6_init 90 = .ok (.newarray .int, 2) := by decide +kernel
theorem dX6_init_92 : decode cX6_init 92 = .ok (.putfield 41, 3) := by decide +kernel
theorem dX6_init_95 : decode cX6_init 95 = .ok (.aload_n 0, 1) := by decide +kernel
theorem dX6_init_96 : decode cX6_init 96 = .ok (.bipush 36, 2) := by decide +kernel
theorem dX6_init_98 : decode cX6_init 98 = .ok (.newarray .long, 2) := by decide +kernel
theorem dX6_init_100 : decode cX6_init 100 = .ok (.putfield 44, 3) := by decide +kernel
theorem dX6_init_103 : decode cX6_init 103 = .ok (.aload_n 0, 1) := by decide +kernel
theorem dX6_init_104 : decode cX6_init 104 = .ok (.bipush 6, 2) := by decide +kernel
theorem dX6_init_106 : decode cX6_init 106 = .ok (.newarray .long, 2) := by decide +kernel
theorem dX6_init_108 : decode cX6_init 108 = .ok (.putfield 48, 3) := by decide +kernel
theorem dX6_init_111 : decode cX6_init 111 = .ok (.aload_n 0, 1) := by decide +kernel
theorem dX6_init_112 : decode cX6_init 112 = .ok (.bipush 6, 2) := by decide +kernel
theorem dX6_init_114 : decode cX6_init 114 = .ok (.newarray .long, 2) := by decide +kernel
theorem dX6_init_116 : decode cX6_init 116 = .ok (.putfield 51, 3) := by decide +kernel
theorem dX6_init_119 : decode cX6_init 119 = .ok (.aload_n 0, 1) := by decide +kernel
theorem dX6_init_120 : decode cX6_init 120 = .ok (.bipush 8, 2) := by decide +kernel
theorem dX6_init_122 : decode cX6_init 122 = .ok (.newarray .long, 2) := by decide +kernel
theorem dX6_init_124 : decode cX6_init 124 = .ok (.putfield 54, 3) := by decide +kernel
theorem dX6_init_127 : decode cX6_init 127 = .ok (.aload_n 0, 1) := by decide +kernel
theorem dX6_init_128 : decode cX6_init 128 = .ok (.sipush 256, 3) := by decide +kernel
theorem dX6_init_131 : decode cX6_init 131 = .ok (.newarray .int, 2) := by decide +kernel
theorem dX6_init_133 : decode cX6_init 133 = .ok (.putfield 57, 3) := by decide +kernel
theorem dX6_init_136 : decode cX6_init 136 = .ok (.aload_n 0, 1) := by decide +kernel
theorem dX6_init_137 : decode cX6_init 137 = .ok (.bipush 8, 2) := by decide +kernel
theorem dX6_init_139 : decode cX6_init 139 = .ok (.newarray .int, 2) := by decide +kernel
theorem dX6_init_141 : decode cX6_init 141 = .ok (.putfield 60, 3) := by decide +kernel
theorem dX6_init_144 : decode cX6_init 144 = .ok (.return_, 1) := by decide +kernel
theorem dX6_isIn_0 : decode cX6_isIn 0 = .ok (.iload_n 0, 1) := by decide +kernel
theorem dX6_isIn_1 : decode cX6_isIn 1 = .ok (.iload_n 1, 1) := by decide +kernel
theorem dX6_isIn_2 : decode cX6_isIn 2 = .ok (.if_icmp .lt 12, 3) := by decide +kernel
theorem dX6_isIn_5 : decode cX6_isIn 5 = .ok (.iload_n 0, 1) := by decide +kernel
theorem dX6_isIn_6 : decode cX6_isIn 6 = .ok (.iload_n 2, 1) := by decide +kernel
theorem dX6_isIn_7 : decode cX6_isIn 7 = .ok (.if_icmp .gt 7, 3) := by decide +kernel
theorem dX6_isIn_10 : decode cX6_isIn 10 = .ok (.iconst 1, 1) := by decide +kernel
theorem dX6_isIn_11 : decode cX6_isIn 11 = .ok (.goto 4, 3) := by decide +kernel
theorem dX6_isIn_14 : decode cX6_isIn 14 = .ok (.iconst 0, 1) := by decide +kernel
theorem dX6_isIn_15 : decode cX6_isIn 15 = .ok (.ireturn, 1) := by decide +kernel
theorem dX6_isWork_0 : decode cX6_isWork 0 = .ok (.iload_n 1, 1) := by decide +kernel
theorem dX6_isWork_1 : decode cX6_isWork 1 = .ok (.ifCond .lt 15, 3) := by decide +kernel
theorem dX6_isWork_4 : decode cX6_isWork 4 = .ok (.iload_n 1, 1) := by decide +kernel
theorem dX6_isWork_5 : decode cX6_isWork 5 = .ok (.aload_n 0, 1) := by decide +kernel
theorem dX6_isWork_6 : decode cX6_isWork 6 = .ok (.getfield 67, 3) := by decide +kernel
theorem dX6_isWork_9 : decode cX6_isWork 9 = .ok (.if_icmp .ge 7, 3) := by decide +kernel
theorem dX6_isWork_12 : decode cX6_isWork 12 = .ok (.iconst 1, 1) := by decide +kernel
theorem dX6_isWork_13 : decode cX6_isWork 13 = .ok (.goto 4, 3) := by decide +kernel
theorem dX6_isWork_16 : decode cX6_isWork 16 = .ok (.iconst 0, 1) := by decide +kernel
theorem dX6_isWork_17 : decode cX6_isWork 17 = .ok (.ireturn, 1) := by decide +kernel
theorem dX6_isUser_0 : decode cX6_isUser 0 = .ok (.iload_n 1, 1) := by decide +kernel
theorem dX6_isUser_1 : decode cX6_isUser 1 = .ok (.ifCond .lt 15, 3) := by decide +kernel
theorem dX6_isUser_4 : decode cX6_isUser 4 = .ok (.iload_n 1, 1) := by decide +kernel
theorem dX6_isUser_5 : decode cX6_isUser 5 = .ok (.aload_n 0, 1) := by decide +kernel
theorem dX6_isUser_6 : decode cX6_isUser 6 = .ok (.getfield 70, 3) := by decide +kernel
theorem dX6_isUser_9 : decode cX6_isUser 9 = .ok (.if_icmp .ge 7, 3) := by decide +kernel
theorem dX6_isUser_12 : decode cX6_isUser 12 = .ok (.iconst 1, 1) := by decide +kernel
theorem dX6_isUser_13 : decode cX6_isUser 13 = .ok (.goto 4, 3) := by decide +kernel
theorem dX6_isUser_16 : decode cX6_isUser 16 = .ok (.iconst 0, 1) := by decide +kernel
theorem dX6_isUser_17 : decode cX6_isUser 17 = .ok (.ireturn, 1) := by decide +kernel
theorem dX6_isThere_0 : decode cX6_isThere 0 = .ok (.aload_n 0, 1) := by decide +kernel
theorem dX6_isThere_1 : decode cX6_isThere 1 = .ok (.iload_n 1, 1) := by decide +kernel
theorem dX6_isThere_2 : decode cX6_isThere 2 = .ok (.invokevirtual 73, 3) := by decide +kernel
theorem dX6_isThere_5 : decode cX6_isThere 5 = .ok (.ifCond .eq 16, 3) := by decide +kernel
theorem dX6_isThere_8 : decode cX6_isThere 8 = .ok (.aload_n 0, 1) := by decide +kernel
theorem dX6_isThere_9 : decode cX6_isThere 9 = .ok (.getfield 28, 3) := by decide +kernel
theorem dX6_isThere_12 : decode cX6_isThere 12 = .ok (.iload_n 1, 1) := by decide +kernel
theorem dX6_isThere_13 : decode cX6_isThere 13 = .ok (.baload, 1) := by decide +kernel
theorem dX6_isThere_14 : decode cX6_isThere 14 = .ok (.ifCond .eq 7, 3) := by decide +kernel
theorem dX6_isThere_17 : decode cX6_isThere 17 = .ok (.iconst 1, 1) := by decide +kernel
theorem dX6_isThere_18 : decode cX6_isThere 18 = .ok (.goto 4, 3) := by decide +kernel
theorem dX6_isThere_21 : decode cX6_isThere 21 = .ok (.iconst 0, 1) := by decide +kernel
theorem dX6_isThere_22 : decode cX6_isThere 22 = .ok (.ireturn, 1) := by decide +kernel
theorem dX6_work_0 : decode cX6_work 0 = .ok (.aload_n 0, 1) := by decide +kernel
theorem dX6_work_1 : decode cX6_work 1 = .ok (.iconst 0, 1) := by decide +kernel
theorem dX6_work_2 : decode cX6_work 2 = .ok (.putfield 63, 3) := by decide +kernel
theorem dX6_work_5 : decode cX6_work 5 = .ok (.aload_n 0, 1) := by decide +kernel
theorem dX6_work_6 : decode cX6_work 6 = .ok (.getfield 67, 3) := by decide +kernel
theorem dX6_work_9 : decode cX6_work 9 = .ok (.bipush 6, 2) := by decide +kernel
theorem dX6_work_11 : decode cX6_work 11 = .ok (.if_icmp .eq 24, 3) := by decide +kernel
theorem dX6_work_14 : decode cX6_work 14 = .ok (.iload_n 1, 1) := by decide +kernel
theorem dX6_work_15 : decode cX6_work 15 = .ok (.iconst 0, 1) := by decide +kernel
theorem dX6_work_16 : decode cX6_work 16 = .ok (.sipush 10000, 3) := by decide +kernel
theorem dX6_work_19 : decode cX6_work 19 = .ok (.invokestatic 77, 3) := by decide +kernel
theorem dX6_work_22 : decode cX6_work 22 = .ok (.ifCond .eq 13, 3) := by decide +kernel
theorem dX6_work_25 : decode cX6_work 25 = .ok (.iload_n 2, 1) := by decide +kernel
theorem dX6_work_26 : decode cX6_work 26 = .ok (.iconst 0, 1) := by decide +kernel
theorem dX6_work_27 : decode cX6_work 27 = .ok (.bipush 100, 2) := by decide +kernel
theorem dX6_work_29 : decode cX6_work 29 = .ok (.invokestatic 77, 3) := by decide +kernel
theorem dX6_work_32 : decode cX6_work 32 = .ok (.ifCond .ne 5, 3) := by decide +kernel
theorem dX6_work_35 : decode cX6_work 35 = .ok (.iconst (-1), 1) := by decide +kernel
theorem dX6_work_36 : decode cX6_work 36 = .ok (.ireturn, 1) := by decide +kernel
theorem dX6_work_37 : decode cX6_work 37 = .ok (.aload_n 0, 1) := by decide +kernel
theorem dX6_work_38 : decode cX6_work 38 = .ok (.getfield 9, 3) := by decide +kernel
theorem dX6_work_41 : decode cX6_work 41 = .ok (.aload_n 0, 1) := by decide +kernel
theorem dX6_work_42 : decode cX6_work 42 = .ok (.getfield 67, 3) := by decide +kernel
theorem dX6_work_45 : decode cX6_work 45 = .ok (.iload_n 1, 1) := by decide +kernel
theorem dX6_work_46 : decode cX6_work 46 = .ok (.iastore, 1) := by decide +kernel
theorem dX6_work_47 : decode cX6_work 47 = .ok (.aload_n 0, 1) := by decide +kernel
theorem dX6_work_48 : decode cX6_work 48 = .ok (.getfield 13, 3) := by decide +kernel
theorem dX6_work_51 : decode cX6_work 51 = .ok (.aload_n 0, 1) := by decide +kernel
theorem dX6_work_52 : decode cX6_work 52 = .ok (.getfield 67, 3) := by decide +kernel
theorem dX6_work_55 : decode cX6_work 55 = .ok (.iload_n 2, 1) := by decide +kernel
theorem dX6_work_56 : decode cX6_work 56 = .ok (.iastore, 1) := by decide +kernel
theorem dX6_work_57 : decode cX6_work 57 = .ok (.aload_n 0, 1) := by decide +kernel
theorem dX6_work_58 : decode cX6_work 58 = .ok (.dup, 1) := by decide +kernel
theorem dX6_work_59 : decode cX6_work 59 = .ok (.getfield 67, 3) := by decide +kernel
theorem dX6_work_62 : decode cX6_work 62 = .ok (.iconst 1, 1) := by decide +kernel
theorem dX6_work_63 : decode cX6_work 63 = .ok (.iadd, 1) := by decide +kernel
theorem dX6_work_64 : decode cX6_work 64 = .ok (.putfield 67, 3) := by decide +kernel
theorem dX6_work_67 : decode cX6_work 67 = .ok (.aload_n 0, 1) := by decide +kernel
theorem dX6_work_68 : decode cX6_work 68 = .ok (.getfield 67, 3) := by decide +kernel
theorem dX6_work_71 : decode cX6_work 71 = .ok (.iconst 1, 1) := by decide +kernel
theorem dX6_work_72 : decode cX6_work 72 = .ok (.isub, 1) := by decide +kernel
theorem dX6_work_73 : decode cX6_work 73 = .ok (.ireturn, 1) := by decide +kernel
theorem dX6_user_0 : decode cX6_user 0 = .ok (.aload_n 0, 1) := by decide +kernel
theorem dX6_user_1 : decode cX6_user 1 = .ok (.iconst 0, 1) := by decide +kernel
theorem dX6_user_2 : decode cX6_user 2 = .ok (.putfield 63, 3) := by decide +kernel
theorem dX6_user_5 : decode cX6_user 5 = .ok (.aload_n 0, 1) := by decide +kernel
theorem dX6_user_6 : decode cX6_user 6 = .ok (.getfield 70, 3) := by decide +kernel
theorem dX6_user_9 : decode cX6_user 9 = .ok (.bipush 8, 2) := by decide +kernel
theorem dX6_user_11 : decode cX6_user 11 = .ok (.if_icmp .ne 5, 3) := by decide +kernel
theorem dX6_user_14 : decode cX6_user 14 = .ok (.iconst (-1), 1) := by decide +kernel
theorem dX6_user_15 : decode cX6_user 15 = .ok (.ireturn, 1) := by decide +kernel
theorem dX6_user_16 : decode cX6_user 16 = .ok (.aload_n 0, 1) := by decide +kernel
theorem dX6_user_17 : decode cX6_user 17 = .ok (.getfield 28, 3) := by decide +kernel
theorem dX6_user_20 : decode cX6_user 20 = .ok (.aload_n 0, 1) := by decide +kernel
theorem dX6_user_21 : decode cX6_user 21 = .ok (.getfield 70, 3) := by decide +kernel
theorem dX6_user_24 : decode cX6_user 24 = .ok (.iconst 1, 1) := by decide +kernel
theorem dX6_user_25 : decode cX6_user 25 = .ok (.bastore, 1) := by decide +kernel
theorem dX6_user_26 : decode cX6_user 26 = .ok (.aload_n 0, 1) := by decide +kernel
theorem dX6_user_27 : decode cX6_user 27 = .ok (.dup, 1) := by decide +kernel
theorem dX6_user_28 : decode cX6_user 28 = .ok (.getfield 70, 3) := by decide +kernel
theorem dX6_user_31 : decode cX6_user 31 = .ok (.iconst 1, 1) := by decide +kernel
theorem dX6_user_32 : decode cX6_user 32 = .ok (.iadd, 1) := by decide +kernel
theorem dX6_user_33 : decode cX6_user 33 = .ok (.putfield 70, 3) := by decide +kernel
theorem dX6_user_36 : decode cX6_user 36 = .ok (.aload_n 0, 1) := by decide +kernel
theorem dX6_user_37 : decode cX6_user 37 = .ok (.getfield 70, 3) := by decide +kernel
theorem dX6_user_40 : decode cX6_user 40 = .ok (.iconst 1, 1) := by decide +kernel
theorem dX6_user_41 : decode cX6_user 41 = .ok (.isub, 1) := by decide +kernel
theorem dX6_user_42 : decode cX6_user 42 = .ok (.ireturn, 1) := by decide +kernel
theorem dX6_change_0 : decode cX6_change 0 = .ok (.aload_n 0, 1) := by decide +kernel
theorem dX6_change_1 : decode cX6_change 1 = .ok (.iconst 0, 1) := by decide +kernel
theorem dX6_change_2 : decode cX6_change 2 = .ok (.putfield 63, 3) := by decide +kernel
theorem dX6_change_5 : decode cX6_change 5 = .ok (.aload_n 0, 1) := by decide +kernel
theorem dX6_change_6 : decode cX6_change 6 = .ok (.iload_n 1, 1) := by decide +kernel
theorem dX6_change_7 : decode cX6_change 7 = .ok (.invokevirtual 81, 3) := by decide +kernel
theorem dX6_change_10 : decode cX6_change 10 = .ok (.ifCond .eq 24, 3) := by decide +kernel
theorem dX6_change_13 : decode cX6_change 13 = .ok (.iload_n 2, 1) := by decide +kernel
theorem dX6_change_14 : decode cX6_change 14 = .ok (.iconst 0, 1) := by decide +kernel
theorem dX6_change_15 : decode cX6_change 15 = .ok (.sipush 10000, 3) := by decide +kernel
theorem dX6_change_18 : decode cX6_change 18 = .ok (.invokestatic 77, 3) := by decide +kernel
theorem dX6_change_21 : decode cX6_change 21 = .ok (.ifCond .eq 13, 3) := by decide +kernel
theorem dX6_change_24 : decode cX6_change 24 = .ok (.iload_n 3, 1) := by decide +kernel
theorem dX6_change_25 : decode cX6_change 25 = .ok (.iconst 0, 1) := by decide +kernel
theorem dX6_change_26 : decode cX6_change 26 = .ok (.bipush 100, 2) := by decide +kernel
theorem dX6_change_28 : decode cX6_change 28 = .ok (.invokestatic 77, 3) := by decide +kernel
theorem dX6_change_31 : decode cX6_change 31 = .ok (.ifCond .ne 5, 3) := by decide +kernel
theorem dX6_change_34 : decode cX6_change 34 = .ok (.iconst 0, 1) := by decide +kernel
theorem dX6_change_35 : decode cX6_change 35 = .ok (.ireturn, 1) := by decide +kernel
theorem dX6_change_36 : decode cX6_change 36 = .ok (.aload_n 0, 1) := by decide +kernel
theorem dX6_change_37 : decode cX6_change 37 = .ok (.getfield 9, 3) := by decide +kernel
theorem dX6_change_40 : decode cX6_change 40 = .ok (.iload_n 1, 1) := by decide +kernel
theorem dX6_change_41 : decode cX6_change 41 = .ok (.iload_n 2, 1) := by decide +kernel
theorem dX6_change_42 : decode cX6_change 42 = .ok (.iastore, 1) := by decide +kernel
theorem dX6_change_43 : decode cX6_change 43 = .ok (.aload_n 0, 1) := by decide +kernel
theorem dX6_change_44 : decode cX6_change 44 = .ok (.getfield 13, 3) := by decide +kernel
theorem dX6_change_47 : decode cX6_change 47 = .ok (.iload_n 1, 1) := by decide +kernel
theorem dX6_change_48 : decode cX6_change 48 = .ok (.iload_n 3, 1) := by decide +kernel
theorem dX6_change_49 : decode cX6_change 49 = .ok (.iastore, 1) := by decide +kernel
theorem dX6_change_50 : decode cX6_change 50 = .ok (.iconst 1, 1) := by decide +kernel
theorem dX6_change_51 : decode cX6_change 51 = .ok (.ireturn, 1) := by decide +kernel
theorem dX6_use_0 : decode cX6_use 0 = .ok (.aload_n 0, 1) := by decide +kernel
theorem dX6_use_1 : decode cX6_use 1 = .ok (.iconst 0, 1) := by decide +kernel
theorem dX6_use_2 : decode cX6_use 2 = .ok (.putfield 63, 3) := by decide +kernel
theorem dX6_use_5 : decode cX6_use 5 = .ok (.aload_n 0, 1) := by decide +kernel
theorem dX6_use_6 : decode cX6_use 6 = .ok (.iload_n 1, 1) := by decide +kernel
theorem dX6_use_7 : decode cX6_use 7 = .ok (.invokevirtual 81, 3) := by decide +kernel
theorem dX6_use_10 : decode cX6_use 10 = .ok (.ifCond .eq 21, 3) := by decide +kernel
theorem dX6_use_13 : decode cX6_use 13 = .ok (.aload_n 0, 1) := by decide +kernel
theorem dX6_use_14 : decode cX6_use 14 = .ok (.iload_n 2, 1) := by decide +kernel
theorem dX6_use_15 : decode cX6_use 15 = .ok (.invokevirtual 73, 3) := by decide +kernel
theorem dX6_use_18 : decode cX6_use 18 = .ok (.ifCond .eq 13, 3) := by decide +kernel
theorem dX6_use_21 : decode cX6_use 21 = .ok (.iload_n 3, 1) := by decide +kernel
theorem dX6_use_22 : decode cX6_use 22 = .ok (.iconst 0, 1) := by decide +kernel
theorem dX6_use_23 : decode cX6_use 23 = .ok (.bipush 9, 2) := by decide +kernel
theorem dX6_use_25 : decode cX6_use 25 = .ok (.invokestatic 77, 3) := by decide +kernel
theorem dX6_use_28 : decode cX6_use 28 = .ok (.ifCond .ne 5, 3) := by decide +kernel
theorem dX6_use_31 : decode cX6_use 31 = .ok (.iconst 0, 1) := by decide +kernel
theorem dX6_use_32 : decode cX6_use 32 = .ok (.ireturn, 1) := by decide +kernel
theorem dX6_use_33 : decode cX6_use 33 = .ok (.aload_n 0, 1) := by decide +kernel
theorem dX6_use_34 : decode cX6_use 34 = .ok (.getfield 16, 3) := by decide +kernel
theorem dX6_use_37 : decode cX6_use 37 = .ok (.bipush 8, 2) := by decide +kernel
theorem dX6_use_39 : decode cX6_use 39 = .ok (.iload_n 1, 1) := by decide +kernel
theorem dX6_use_40 : decode cX6_use 40 = .ok (.imul, 1) := by decide +kernel
theorem dX6_use_41 : decode cX6_use 41 = .ok (.iload_n 2, 1) := by decide +kernel
theorem dX6_use_42 : decode cX6_use 42 = .ok (.iadd, 1) := by decide +kernel
theorem dX6_use_43 : decode cX6_use 43 = .ok (.iload_n 3, 1) := by decide +kernel
theorem dX6_use_44 : decode cX6_use 44 = .ok (.iastore, 1) := by decide +kernel
theorem dX6_use_45 : decode cX6_use 45 = .ok (.iconst 1, 1) := by decide +kernel
theorem dX6_use_46 : decode cX6_use 46 = .ok (.ireturn, 1) := by decide +kernel
theorem dX6_feed_0 : decode cX6_feed 0 = .ok (.aload_n 0, 1) := by decide +kernel
theorem dX6_feed_1 : decode cX6_feed 1 = .ok (.iconst 0, 1) := by decide +kernel
theorem dX6_feed_2 : decode cX6_feed 2 = .ok (.putfield 63, 3) := by decide +kernel
theorem dX6_feed_5 : decode cX6_feed 5 = .ok (.aload_n 0, 1) := by decide +kernel
theorem dX6_feed_6 : decode cX6_feed 6 = .ok (.iload_n 1, 1) := by decide +kernel
theorem dX6_feed_7 : decode cX6_feed 7 = .ok (.invokevirtual 81, 3) := by decide +kernel
theorem dX6_feed_10 : decode cX6_feed 10 = .ok (.ifCond .eq 26, 3) := by decide +kernel
theorem dX6_feed_13 : decode cX6_feed 13 = .ok (.aload_n 0, 1) := by decide +kernel
theorem dX6_feed_14 : decode cX6_feed 14 = .ok (.iload_n 2, 1) := by decide +kernel
theorem dX6_feed_15 : decode cX6_feed 15 = .ok (.invokevirtual 81, 3) := by decide +kernel
theorem dX6_feed_18 : decode cX6_feed 18 = .ok (.ifCond .eq 18, 3) := by decide +kernel
theorem dX6_feed_21 : decode cX6_feed 21 = .ok (.iload_n 1, 1) := by decide +kernel
theorem dX6_feed_22 : decode cX6_feed 22 = .ok (.iload_n 2, 1) := by decide +kernel
theorem dX6_feed_23 : decode cX6_feed 23 = .ok (.if_icmp .eq 13, 3) := by decide +kernel
theorem dX6_feed_26 : decode cX6_feed 26 = .ok (.iload_n 3, 1) := by decide +kernel
theorem dX6_feed_27 : decode cX6_feed 27 = .ok (.iconst 0, 1) := by decide +kernel
theorem dX6_feed_28 : decode cX6_feed 28 = .ok (.bipush 9, 2) := by decide +kernel
theorem dX6_feed_30 : decode cX6_feed 30 = .ok (.invokestatic 77, 3) := by decide +kernel
theorem dX6_feed_33 : decode cX6_feed 33 = .ok (.ifCond .ne 5, 3) := by decide +kernel
theorem dX6_feed_36 : decode cX6_feed 36 = .ok (.iconst 0, 1) := by decide +kernel
theorem dX6_feed_37 : decode cX6_feed 37 = .ok (.ireturn, 1) := by decide +kernel
theorem dX6_feed_38 : decode cX6_feed 38 = .ok (.aload_n 0, 1) := by decide +kernel
theorem dX6_feed_39 : decode cX6_feed 39 = .ok (.getfield 19, 3) := by decide +kernel
theorem dX6_feed_42 : decode cX6_feed 42 = .ok (.bipush 6, 2) := by decide +kernel
theorem dX6_feed_44 : decode cX6_feed 44 = .ok (.iload_n 1, 1) := by decide +kernel
theorem dX6_feed_45 : decode cX6_feed 45 = .ok (.imul, 1) := by decide +kernel
theorem dX6_feed_46 : decode cX6_feed 46 = .ok (.iload_n 2, 1) := by decide +kernel
theorem dX6_feed_47 : decode cX6_feed 47 = .ok (.iadd, 1) := by decide +kernel
theorem dX6_feed_48 : decode cX6_feed 48 = .ok (.iload_n 3, 1) := by decide +kernel
theorem dX6_feed_49 : decode cX6_feed 49 = .ok (.iastore, 1) := by decide +kernel
theorem dX6_feed_50 : decode cX6_feed 50 = .ok (.iconst 1, 1) := by decide +kernel
theorem dX6_feed_51 : decode cX6_feed 51 = .ok (.ireturn, 1) := by decide +kernel
theorem dX6_set_0 : decode cX6_set 0 = .ok (.aload_n 0, 1) := by decide +kernel
theorem dX6_set_1 : decode cX6_set 1 = .ok (.iconst 0, 1) := by decide +kernel
theorem dX6_set_2 : decode cX6_set 2 = .ok (.putfield 63, 3) := by decide +kernel
theorem dX6_set_5 : decode cX6_set 5 = .ok (.aload_n 0, 1) := by decide +kernel
theorem dX6_set_6 : decode cX6_set 6 = .ok (.iload_n 1, 1) := by decide +kernel
theorem dX6_set_7 : decode cX6_set 7 = .ok (.invokevirtual 73, 3) := by decide +kernel
theorem dX6_set_10 : decode cX6_set 10 = .ok (.ifCond .eq 13, 3) := by decide +kernel
theorem dX6_set_13 : decode cX6_set 13 = .ok (.aload_n 0, 1) := by decide +kernel
theorem dX6_set_14 : decode cX6_set 14 = .ok (.getfield 28, 3) := by decide +kernel
theorem dX6_set_17 : decode cX6_set 17 = .ok (.iload_n 1, 1) := by decide +kernel
theorem dX6_set_18 : decode cX6_set 18 = .ok (.baload, 1) := by decide +kernel
theorem dX6_set_19 : decode cX6_set 19 = .ok (.iload_n 2, 1) := by decide +kernel
theorem dX6_set_20 : decode cX6_set 20 = .ok (.if_icmp .ne 5, 3) := by decide +kernel
theorem dX6_set_23 : decode cX6_set 23 = .ok (.iconst 0, 1) := by decide +kernel
theorem dX6_set_24 : decode cX6_set 24 = .ok (.ireturn, 1) := by decide +kernel
theorem dX6_set_25 : decode cX6_set 25 = .ok (.aload_n 0, 1) := by decide +kernel
theorem dX6_set_26 : decode cX6_set 26 = .ok (.getfield 28, 3) := by decide +kernel
theorem dX6_set_29 : decode cX6_set 29 = .ok (.iload_n 1, 1) := by decide +kernel
theorem dX6_set_30 : decode cX6_set 30 = .ok (.iload_n 2, 1) := by decide +kernel
theorem dX6_set_31 : decode cX6_set 31 = .ok (.bastore, 1) := by decide +kernel
theorem dX6_set_32 : decode cX6_set 32 = .ok (.iconst 1, 1) := by decide +kernel
theorem dX6_set_33 : decode cX6_set 33 = .ok (.ireturn, 1) := by decide +kernel
theorem dX6_mark_0 : decode cX6_mark 0 = .ok (.aload_n 0, 1) := by decide +kernel
theorem dX6_mark_1 : decode cX6_mark 1 = .ok (.iconst 0, 1) := by decide +kernel
theorem dX6_mark_2 : decode cX6_mark 2 = .ok (.putfield 63, 3) := by decide +kernel
theorem dX6_mark_5 : decode cX6_mark 5 = .ok (.aload_n 0, 1) := by decide +kernel
theorem dX6_mark_6 : decode cX6_mark 6 = .ok (.iload_n 1, 1) := by decide +kernel
theorem dX6_mark_7 : decode cX6_mark 7 = .ok (.invokevirtual 73, 3) := by decide +kernel
theorem dX6_mark_10 : decode cX6_mark 10 = .ok (.ifCond .ne 7, 3) := by decide +kernel
theorem dX6_mark_13 : decode cX6_mark 13 = .ok (.sipush (-20000), 3) := by decide +kernel
theorem dX6_mark_16 : decode cX6_mark 16 = .ok (.ireturn, 1) := by decide +kernel
theorem dX6_mark_17 : decode cX6_mark 17 = .ok (.aload_n 0, 1) := by decide +kernel
theorem dX6_mark_18 : decode cX6_mark 18 = .ok (.getfield 22, 3) := by decide +kernel
theorem dX6_mark_21 : decode cX6_mark 21 = .ok (.iload_n 1, 1) := by decide +kernel
theorem dX6_mark_22 : decode cX6_mark 22 = .ok (.iaload, 1) := by decide +kernel
theorem dX6_mark_23 : decode cX6_mark 23 = .ok (.i2l, 1) := by decide +kernel
theorem dX6_mark_24 : decode cX6_mark 24 = .ok (.iload_n 2, 1) := by decide +kernel
theorem dX6_mark_25 : decode cX6_mark 25 = .ok (.i2l, 1) := by decide +kernel
theorem dX6_mark_26 : decode cX6_mark 26 = .ok (.ladd, 1) := by decide +kernel
theorem dX6_mark_27 : decode cX6_mark 27 = .ok (.lstore_n 3, 1) := by decide +kernel
theorem dX6_mark_28 : decode cX6_mark 28 = .ok (.lload_n 3, 1) := by decide +kernel
theorem dX6_mark_29 : decode cX6_mark 29 = .ok (.ldc2_w 84, 3) := by decide +kernel
theorem dX6_mark_32 : decode cX6_mark 32 = .ok (.lcmp, 1) := by decide +kernel
theorem dX6_mark_33 : decode cX6_mark 33 = .ok (.ifCond .lt 11, 3) := by decide +kernel
theorem dX6_mark_36 : decode cX6_mark 36 = .ok (.lload_n 3, 1) := by decide +kernel
theorem dX6_mark_37 : decode cX6_mark 37 = .ok (.ldc2_w 86, 3) := by decide +kernel
theorem dX6_mark_40 : decode cX6_mark 40 = .ok (.lcmp, 1) := by decide +kernel
theorem dX6_mark_41 : decode cX6_mark 41 = .ok (.ifCond .le 7, 3) := by decide +kernel
theorem dX6_mark_44 : decode cX6_mark 44 = .ok (.sipush (-20000), 3) := by decide +kernel
theorem dX6_mark_47 : decode cX6_mark 47 = .ok (.ireturn, 1) := by decide +kernel
theorem dX6_mark_48 : decode cX6_mark 48 = .ok (.aload_n 0, 1) := by decide +kernel
theorem dX6_mark_49 : decode cX6_mark 49 = .ok (.getfield 22, 3) := by decide +kernel
theorem dX6_mark_52 : decode cX6_mark 52 = .ok (.iload_n 1, 1) := by decide +kernel
theorem dX6_mark_53 : decode cX6_mark 53 = .ok (.lload_n 3, 1) := by decide +kernel
theorem dX6_mark_54 : decode cX6_mark 54 = .ok (.l2i, 1) := by decide +kernel
theorem dX6_mark_55 : decode cX6_mark 55 = .ok (.iastore, 1) := by decide +kernel
theorem dX6_mark_56 : decode cX6_mark 56 = .ok (.aload_n 0, 1) := by decide +kernel
theorem dX6_mark_57 : decode cX6_mark 57 = .ok (.getfield 22, 3) := by decide +kernel
theorem dX6_mark_60 : decode cX6_mark 60 = .ok (.iload_n 1, 1) := by decide +kernel
theorem dX6_mark_61 : decode cX6_mark 61 = .ok (.iaload, 1) := by decide +kernel
theorem dX6_mark_62 : decode cX6_mark 62 = .ok (.ireturn, 1) := by decide +kernel
theorem dX6_thereSet_0 : decode cX6_thereSet 0 = .ok (.iconst 0, 1) := by decide +kernel
theorem dX6_thereSet_1 : decode cX6_thereSet 1 = .ok (.istore_n 1, 1) := by decide +kernel
theorem dX6_thereSet_2 : decode cX6_thereSet 2 = .ok (.iconst 0, 1) := by decide +kernel
theorem dX6_thereSet_3 : decode cX6_thereSet 3 = .ok (.istore_n 2, 1) := by decide +kernel
theorem dX6_thereSet_4 : decode cX6_thereSet 4 = .ok (.iload_n 2, 1) := by decide +kernel
theorem dX6_thereSet_5 : decode cX6_thereSet 5 = .ok (.aload_n 0, 1) := by decide +kernel
theorem dX6_thereSet_6 : decode cX6_thereSet 6 = .ok (.getfield 70, 3) := by decide +kernel
theorem dX6_thereSet_9 : decode cX6_thereSet 9 = .ok (.if_icmp .ge 28, 3) := by decide +kernel
theorem dX6_thereSet_12 : decode cX6_thereSet 12 = .ok (.iload_n 1, 1) := by decide +kernel
theorem dX6_thereSet_13 : decode cX6_thereSet 13 = .ok (.aload_n 0, 1) := by decide +kernel
theorem dX6_thereSet_14 : decode cX6_thereSet 14 = .ok (.getfield 28, 3) := by decide +kernel
theorem dX6_thereSet_17 : decode cX6_thereSet 17 = .ok (.iload_n 2, 1) := by decide +kernel
theorem dX6_thereSet_18 : decode cX6_thereSet 18 = .ok (.baload, 1) := by decide +kernel
theorem dX6_thereSet_19 : decode cX6_thereSet 19 = .ok (.ifCond .eq 9, 3) := by decide +kernel
theorem dX6_thereSet_22 : decode cX6_thereSet 22 = .ok (.iconst 1, 1) := by decide +kernel
theorem dX6_thereSet_23 : decode cX6_thereSet 23 = .ok (.iload_n 2, 1) := by decide +kernel
theorem dX6_thereSet_24 : decode cX6_thereSet 24 = .ok (.ishl, 1) := by decide +kernel
theorem dX6_thereSet_25 : decode cX6_thereSet 25 = .ok (.goto 4, 3) := by decide +kernel
theorem dX6_thereSet_28 : decode cX6_thereSet 28 = .ok (.iconst 0, 1) := by decide +kernel
theorem dX6_thereSet_29 : decode cX6_thereSet 29 = .ok (.ior, 1) := by decide +kernel
theorem dX6_thereSet_30 : decode cX6_thereSet 30 = .ok (.istore_n 1, 1) := by decide +kernel
theorem dX6_thereSet_31 : decode cX6_thereSet 31 = .ok (.iinc 2 1, 3) := by decide +kernel
theorem dX6_thereSet_34 : decode cX6_thereSet 34 = .ok (.goto (-30), 3) := by decide +kernel
theorem dX6_thereSet_37 : decode cX6_thereSet 37 = .ok (.iload_n 1, 1) := by decide +kernel
theorem dX6_thereSet_38 : decode cX6_thereSet 38 = .ok (.ireturn, 1) := by decide +kernel
theorem dX6_neededBy_0 : decode cX6_neededBy 0 = .ok (.iconst 0, 1) := by decide +kernel
theorem dX6_neededBy_1 : decode cX6_neededBy 1 = .ok (.istore_n 2, 1) := by decide +kernel
theorem dX6_neededBy_2 : decode cX6_neededBy 2 = .ok (.iconst 0, 1) := by decide +kernel
theorem dX6_neededBy_3 : decode cX6_neededBy 3 = .ok (.istore_n 3, 1) := by decide +kernel
theorem dX6_neededBy_4 : decode cX6_neededBy 4 = .ok (.iload_n 3, 1) := by decide +kernel
theorem dX6_neededBy_5 : decode cX6_neededBy 5 = .ok (.aload_n 0, 1) := by decide +kernel
theorem dX6_neededBy_6 : decode cX6_neededBy 6 = .ok (.getfield 67, 3) := by decide +kernel
theorem dX6_neededBy_9 : decode cX6_neededBy 9 = .ok (.if_icmp .ge 58, 3) := by decide +kernel
theorem dX6_neededBy_12 : decode cX6_neededBy 12 = .ok (.iconst 0, 1) := by decide +kernel
theorem dX6_neededBy_13 : decode cX6_neededBy 13 = .ok (.istore 4, 2) := by decide +kernel
theorem dX6_neededBy_15 : decode cX6_neededBy 15 = .ok (.iload 4, 2) := by decide +kernel
theorem dX6_neededBy_17 : decode cX6_neededBy 17 = .ok (.aload_n 0, 1) := by decide +kernel
theorem dX6_neededBy_18 : decode cX6_neededBy 18 = .ok (.getfield 70, 3) := by decide +kernel
theorem dX6_neededBy_21 : decode cX6_neededBy 21 = .ok (.if_icmp .ge 40, 3) := by decide +kernel
theorem dX6_neededBy_24 : decode cX6_neededBy 24 = .ok (.iload_n 1, 1) := by decide +kernel
theorem dX6_neededBy_25 : decode cX6_neededBy 25 = .ok (.iload 4, 2) := by decide +kernel
theorem dX6_neededBy_27 : decode cX6_neededBy 27 = .ok (.ishr, 1) := by decide +kernel
theorem dX6_neededBy_28 : decode cX6_neededBy 28 = .ok (.iconst 1, 1) := by decide +kernel
theorem dX6_neededBy_29 : decode cX6_neededBy 29 = .ok (.iand, 1) := by decide +kernel
theorem dX6_neededBy_30 : decode cX6_neededBy 30 = .ok (.iconst 1, 1) := by decide +kernel
theorem dX6_neededBy_31 : decode cX6_neededBy 31 = .ok (.if_icmp .ne 24, 3) := by decide +kernel
theorem dX6_neededBy_34 : decode cX6_neededBy 34 = .ok (.aload_n 0, 1) := by decide +kernel
theorem dX6_neededBy_35 : decode cX6_neededBy 35 = .ok (.getfield 16, 3) := by decide +kernel
theorem dX6_neededBy_38 : decode cX6_neededBy 38 = .ok (.bipush 8, 2) := by decide +kernel
theorem dX6_neededBy_40 : decode cX6_neededBy 40 = .ok (.iload_n 3, 1) := by decide +kernel
theorem dX6_neededBy_41 : decode cX6_neededBy 41 = .ok (.imul, 1) := by decide +kernel
theorem dX6_neededBy_42 : decode cX6_neededBy 42 = .ok (.iload 4, 2) := by decide +kernel
theorem dX6_neededBy_44 : decode cX6_neededBy 44 = .ok (.iadd, 1) := by decide +kernel
theorem dX6_neededBy_45 : decode cX6_neededBy 45 = .ok (.iaload, 1) := by decide +kernel
theorem dX6_neededBy_46 : decode cX6_neededBy 46 = .ok (.ifCond .le 9, 3) := by decide +kernel
theorem dX6_neededBy_49 : decode cX6_neededBy 49 = .ok (.iload_n 2, 1) := by decide +kernel
theorem dX6_neededBy_50 : decode cX6_neededBy 50 = .ok (.iconst 1, 1) := by decide +kernel
theorem dX6_neededBy_51 : decode cX6_neededBy 51 = .ok (.iload_n 3, 1) := by decide +kernel
theorem dX6_neededBy_52 : decode cX6_neededBy 52 = .ok (.ishl, 1) := by decide +kernel
theorem dX6_neededBy_53 : decode cX6_neededBy 53 = .ok (.ior, 1) := by decide +kernel
theorem dX6_neededBy_54 : decode cX6_neededBy 54 = .ok (.istore_n 2, 1) := by decide +kernel
theorem dX6_neededBy_55 : decode cX6_neededBy 55 = .ok (.iinc 4 1, 3) := by decide +kernel
theorem dX6_neededBy_58 : decode cX6_neededBy 58 = .ok (.goto (-43), 3) := by decide +kernel
theorem dX6_neededBy_61 : decode cX6_neededBy 61 = .ok (.iinc 3 1, 3) := by decide +kernel
theorem dX6_neededBy_64 : decode cX6_neededBy 64 = .ok (.goto (-60), 3) := by decide +kernel
theorem dX6_neededBy_67 : decode cX6_neededBy 67 = .ok (.iconst 0, 1) := by decide +kernel
theorem dX6_neededBy_68 : decode cX6_neededBy 68 = .ok (.istore_n 3, 1) := by decide +kernel
theorem dX6_neededBy_69 : decode cX6_neededBy 69 = .ok (.iload_n 3, 1) := by decide +kernel
theorem dX6_neededBy_70 : decode cX6_neededBy 70 = .ok (.aload_n 0, 1) := by decide +kernel
theorem dX6_neededBy_71 : decode cX6_neededBy 71 = .ok (.getfield 67, 3) := by decide +kernel
theorem dX6_neededBy_74 : decode cX6_neededBy 74 = .ok (.if_icmp .ge 78, 3) := by decide +kernel
theorem dX6_neededBy_77 : decode cX6_neededBy 77 = .ok (.iconst 0, 1) := by decide +kernel
theorem dX6_neededBy_78 : decode cX6_neededBy 78 = .ok (.istore 4, 2) := by decide +kernel
theorem dX6_neededBy_80 : decode cX6_neededBy 80 = .ok (.iload 4, 2) := by decide +kernel
theorem dX6_neededBy_82 : decode cX6_neededBy 82 = .ok (.aload_n 0, 1) := by decide +kernel
theorem dX6_neededBy_83 : decode cX6_neededBy 83 = .ok (.getfield 67, 3) := by decide +kernel
theorem dX6_neededBy_86 : decode cX6_neededBy 86 = .ok (.if_icmp .ge 60, 3) := by decide +kernel
theorem dX6_neededBy_89 : decode cX6_neededBy 89 = .ok (.iconst 0, 1) := by decide +kernel
theorem dX6_neededBy_90 : decode cX6_neededBy 90 = .ok (.istore 5, 2) := by decide +kernel
theorem dX6_neededBy_92 : decode cX6_neededBy 92 = .ok (.iload 5, 2) := by decide +kernel
theorem dX6_neededBy_94 : decode cX6_neededBy 94 = .ok (.aload_n 0, 1) := by decide +kernel
theorem dX6_neededBy_95 : decode cX6_neededBy 95 = .ok (.getfield 67, 3) := by decide +kernel
theorem dX6_neededBy_98 : decode cX6_neededBy 98 = .ok (.if_icmp .ge 42, 3) := by decide +kernel
theorem dX6_neededBy_101 : decode cX6_neededBy 101 = .ok (.iload_n 2, 1) := by decide +kernel
theorem dX6_neededBy_102 : decode cX6_neededBy 102 = .ok (.iload 5, 2) := by decide +kernel
theorem dX6_neededBy_104 : decode cX6_neededBy 104 = .ok (.ishr, 1) := by decide +kernel
theorem dX6_neededBy_105 : decode cX6_neededBy 105 = .ok (.iconst 1, 1) := by decide +kernel
theorem dX6_neededBy_106 : decode cX6_neededBy 106 = .ok (.iand, 1) := by decide +kernel
theorem dX6_neededBy_107 : decode cX6_neededBy 107 = .ok (.iconst 1, 1) := by decide +kernel
theorem dX6_neededBy_108 : decode cX6_neededBy 108 = .ok (.if_icmp .ne 26, 3) := by decide +kernel
theorem dX6_neededBy_111 : decode cX6_neededBy 111 = .ok (.aload_n 0, 1) := by decide +kernel
theorem dX6_neededBy_112 : decode cX6_neededBy 112 = .ok (.getfield 19, 3) := by decide +kernel
theorem dX6_neededBy_115 : decode cX6_neededBy 115 = .ok (.bipush 6, 2) := by decide +kernel
theorem dX6_neededBy_117 : decode cX6_neededBy 117 = .ok (.iload 4, 2) := by decide +kernel
theorem dX6_neededBy_119 : decode cX6_neededBy 119 = .ok (.imul, 1) := by decide +kernel
theorem dX6_neededBy_120 : decode cX6_neededBy 120 = .ok (.iload 5, 2) := by decide +kernel
theorem dX6_neededBy_122 : decode cX6_neededBy 122 = .ok (.iadd, 1) := by decide +kernel
theorem dX6_neededBy_123 : decode cX6_neededBy 123 = .ok (.iaload, 1) := by decide +kernel
theorem dX6_neededBy_124 : decode cX6_neededBy 124 = .ok (.ifCond .le 10, 3) := by decide +kernel
theorem dX6_neededBy_127 : decode cX6_neededBy 127 = .ok (.iload_n 2, 1) := by decide +kernel
theorem dX6_neededBy_128 : decode cX6_neededBy 128 = .ok (.iconst 1, 1) := by decide +kernel
theorem dX6_neededBy_129 : decode cX6_neededBy 129 = .ok (.iload 4, 2) := by decide +kernel
theorem dX6_neededBy_131 : decode cX6_neededBy 131 = .ok (.ishl, 1) := by decide +kernel
theorem dX6_neededBy_132 : decode cX6_neededBy 132 = .ok (.ior, 1) := by decide +kernel
theorem dX6_neededBy_133 : decode cX6_neededBy 133 = .ok (.istore_n 2, 1) := by decide +kernel
theorem dX6_neededBy_134 : decode cX6_neededBy 134 = .ok (.iinc 5 1, 3) := by decide +kernel
theorem dX6_neededBy_137 : decode cX6_neededBy 137 = .ok (.goto (-45), 3) := by decide +kernel
theorem dX6_neededBy_140 : decode cX6_neededBy 140 = .ok (.iinc 4 1, 3) := by decide +kernel
theorem dX6_neededBy_143 : decode cX6_neededBy 143 = .ok (.goto (-63), 3) := by decide +kernel
theorem dX6_neededBy_146 : decode cX6_neededBy 146 = .ok (.iinc 3 1, 3) := by decide +kernel
theorem dX6_neededBy_149 : decode cX6_neededBy 149 = .ok (.goto (-80), 3) := by decide +kernel
theorem dX6_neededBy_152 : decode cX6_neededBy 152 = .ok (.iload_n 2, 1) := by decide +kernel
theorem dX6_neededBy_153 : decode cX6_neededBy 153 = .ok (.ireturn, 1) := by decide +kernel
theorem dX6_totalOf_0 : decode cX6_totalOf 0 = .ok (.iconst 0, 1) := by decide +kernel
theorem dX6_totalOf_1 : decode cX6_totalOf 1 = .ok (.istore 4, 2) := by decide +kernel
theorem dX6_totalOf_3 : decode cX6_totalOf 3 = .ok (.iconst 0, 1) := by decide +kernel
theorem dX6_totalOf_4 : decode cX6_totalOf 4 = .ok (.istore 5, 2) := by decide +kernel
theorem dX6_totalOf_6 : decode cX6_totalOf 6 = .ok (.iload 5, 2) := by decide +kernel
theorem dX6_totalOf_8 : decode cX6_totalOf 8 = .ok (.aload_n 0, 1) := by decide +kernel
theorem dX6_totalOf_9 : decode cX6_totalOf 9 = .ok (.getfield 70, 3) := by decide +kernel
theorem dX6_totalOf_12 : decode cX6_totalOf 12 = .ok (.if_icmp .ge 40, 3) := by decide +kernel
theorem dX6_totalOf_15 : decode cX6_totalOf 15 = .ok (.iload 4, 2) := by decide +kernel
theorem dX6_totalOf_17 : decode cX6_totalOf 17 = .ok (.iload_n 2, 1) := by decide +kernel
theorem dX6_totalOf_18 : decode cX6_totalOf 18 = .ok (.iload 5, 2) := by decide +kernel
theorem dX6_totalOf_20 : decode cX6_totalOf 20 = .ok (.ishr, 1) := by decide +kernel
theorem dX6_totalOf_21 : decode cX6_totalOf 21 = .ok (.iconst 1, 1) := by decide +kernel
theorem dX6_totalOf_22 : decode cX6_totalOf 22 = .ok (.iand, 1) := by decide +kernel
theorem dX6_totalOf_23 : decode cX6_totalOf 23 = .ok (.iconst 1, 1) := by decide +kernel
theorem dX6_totalOf_24 : decode cX6_totalOf 24 = .ok (.if_icmp .ne 18, 3) := by decide +kernel
theorem dX6_totalOf_27 : decode cX6_totalOf 27 = .ok (.aload_n 0, 1) := by decide +kernel
theorem dX6_totalOf_28 : decode cX6_totalOf 28 = .ok (.getfield 16, 3) := by decide +kernel
theorem dX6_totalOf_31 : decode cX6_totalOf 31 = .ok (.bipush 8, 2) := by decide +kernel
theorem dX6_totalOf_33 : decode cX6_totalOf 33 = .ok (.iload_n 1, 1) := by decide +kernel
theorem dX6_totalOf_34 : decode cX6_totalOf 34 = .ok (.imul, 1) := by decide +kernel
theorem dX6_totalOf_35 : decode cX6_totalOf 35 = .ok (.iload 5, 2) := by decide +kernel
theorem dX6_totalOf_37 : decode cX6_totalOf 37 = .ok (.iadd, 1) := by decide +kernel
theorem dX6_totalOf_38 : decode cX6_totalOf 38 = .ok (.iaload, 1) := by decide +kernel
theorem dX6_totalOf_39 : decode cX6_totalOf 39 = .ok (.goto 4, 3) := by decide +kernel
theorem dX6_totalOf_42 : decode cX6_totalOf 42 = .ok (.iconst 0, 1) := by decide +kernel
theorem dX6_totalOf_43 : decode cX6_totalOf 43 = .ok (.iadd, 1) := by decide +kernel
theorem dX6_totalOf_44 : decode cX6_totalOf 44 = .ok (.istore 4, 2) := by decide +kernel
theorem dX6_totalOf_46 : decode cX6_totalOf 46 = .ok (.iinc 5 1, 3) := by decide +kernel
theorem dX6_totalOf_49 : decode cX6_totalOf 49 = .ok (.goto (-43), 3) := by decide +kernel
theorem dX6_totalOf_52 : decode cX6_totalOf 52 = .ok (.iconst 0, 1) := by decide +kernel
theorem dX6_totalOf_53 : decode cX6_totalOf 53 = .ok (.istore 5, 2) := by decide +kernel
theorem dX6_totalOf_55 : decode cX6_totalOf 55 = .ok (.iload 5, 2) := by decide +kernel
theorem dX6_totalOf_57 : decode cX6_totalOf 57 = .ok (.aload_n 0, 1) := by decide +kernel
theorem dX6_totalOf_58 : decode cX6_totalOf 58 = .ok (.getfield 67, 3) := by decide +kernel
theorem dX6_totalOf_61 : decode cX6_totalOf 61 = .ok (.if_icmp .ge 40, 3) := by decide +kernel
theorem dX6_totalOf_64 : decode cX6_totalOf 64 = .ok (.iload 4, 2) := by decide +kernel
theorem dX6_totalOf_66 : decode cX6_totalOf 66 = .ok (.iload_n 3, 1) := by decide +kernel
theorem dX6_totalOf_67 : decode cX6_totalOf 67 = .ok (.iload 5, 2) := by decide +kernel
theorem dX6_totalOf_69 : decode cX6_totalOf 69 = .ok (.ishr, 1) := by decide +kernel
theorem dX6_totalOf_70 : decode cX6_totalOf 70 = .ok (.iconst 1, 1) := by decide +kernel
theorem dX6_totalOf_71 : decode cX6_totalOf 71 = .ok (.iand, 1) := by decide +kernel
theorem dX6_totalOf_72 : decode cX6_totalOf 72 = .ok (.iconst 1, 1) := by decide +kernel
theorem dX6_totalOf_73 : decode cX6_totalOf 73 = .ok (.if_icmp .ne 18, 3) := by decide +kernel
theorem dX6_totalOf_76 : decode cX6_totalOf 76 = .ok (.aload_n 0, 1) := by decide +kernel
theorem dX6_totalOf_77 : decode cX6_totalOf 77 = .ok (.getfield 19, 3) := by decide +kernel
theorem dX6_totalOf_80 : decode cX6_totalOf 80 = .ok (.bipush 6, 2) := by decide +kernel
theorem dX6_totalOf_82 : decode cX6_totalOf 82 = .ok (.iload_n 1, 1) := by decide +kernel
theorem dX6_totalOf_83 : decode cX6_totalOf 83 = .ok (.imul, 1) := by decide +kernel
theorem dX6_totalOf_84 : decode cX6_totalOf 84 = .ok (.iload 5, 2) := by decide +kernel
theorem dX6_totalOf_86 : decode cX6_totalOf 86 = .ok (.iadd, 1) := by decide +kernel
theorem dX6_totalOf_87 : decode cX6_totalOf 87 = .ok (.iaload, 1) := by decide +kernel
theorem dX6_totalOf_88 : decode cX6_totalOf 88 = .ok (.goto 4, 3) := by decide +kernel
theorem dX6_totalOf_91 : decode cX6_totalOf 91 = .ok (.iconst 0, 1) := by decide +kernel
theorem dX6_totalOf_92 : decode cX6_totalOf 92 = .ok (.iadd, 1) := by decide +kernel
theorem dX6_totalOf_93 : decode cX6_totalOf 93 = .ok (.istore 4, 2) := by decide +kernel
theorem dX6_totalOf_95 : decode cX6_totalOf 95 = .ok (.iinc 5 1, 3) := by decide +kernel
theorem dX6_totalOf_98 : decode cX6_totalOf 98 = .ok (.goto (-43), 3) := by decide +kernel
theorem dX6_totalOf_101 : decode cX6_totalOf 101 = .ok (.iload 4, 2) := by decide +kernel
theorem dX6_totalOf_103 : decode cX6_totalOf 103 = .ok (.ireturn, 1) := by decide +kernel
theorem dX6_workCost_0 : decode cX6_workCost 0 = .ok (.aload_n 0, 1) := by decide +kernel
theorem dX6_workCost_1 : decode cX6_workCost 1 = .ok (.getfield 9, 3) := by decide +kernel
theorem dX6_workCost_4 : decode cX6_workCost 4 = .ok (.iload_n 1, 1) := by decide +kernel
theorem dX6_workCost_5 : decode cX6_workCost 5 = .ok (.iaload, 1) := by decide +kernel
theorem dX6_workCost_6 : decode cX6_workCost 6 = .ok (.aload_n 0, 1) := by decide +kernel
theorem dX6_workCost_7 : decode cX6_workCost 7 = .ok (.getfield 13, 3) := by decide +kernel
theorem dX6_workCost_10 : decode cX6_workCost 10 = .ok (.iload_n 1, 1) := by decide +kernel
theorem dX6_workCost_11 : decode cX6_workCost 11 = .ok (.iaload, 1) := by decide +kernel
theorem dX6_workCost_12 : decode cX6_workCost 12 = .ok (.iload_n 2, 1) := by decide +kernel
theorem dX6_workCost_13 : decode cX6_workCost 13 = .ok (.bipush 9, 2) := by decide +kernel
theorem dX6_workCost_15 : decode cX6_workCost 15 = .ok (.iadd, 1) := by decide +kernel
theorem dX6_workCost_16 : decode cX6_workCost 16 = .ok (.bipush 10, 2) := by decide +kernel
theorem dX6_workCost_18 : decode cX6_workCost 18 = .ok (.idiv, 1) := by decide +kernel
theorem dX6_workCost_19 : decode cX6_workCost 19 = .ok (.imul, 1) := by decide +kernel
theorem dX6_workCost_20 : decode cX6_workCost 20 = .ok (.iadd, 1) := by decide +kernel
theorem dX6_workCost_21 : decode cX6_workCost 21 = .ok (.ireturn, 1) := by decide +kernel
theorem dX6_costOf_0 : decode cX6_costOf 0 = .ok (.aload_n 0, 1) := by decide +kernel
theorem dX6_costOf_1 : decode cX6_costOf 1 = .ok (.iload_n 1, 1) := by decide +kernel
theorem dX6_costOf_2 : decode cX6_costOf 2 = .ok (.invokevirtual 88, 3) := by decide +kernel
theorem dX6_costOf_5 : decode cX6_costOf 5 = .ok (.istore_n 2, 1) := by decide +kernel
theorem dX6_costOf_6 : decode cX6_costOf 6 = .ok (.iconst 0, 1) := by decide +kernel
theorem dX6_costOf_7 : decode cX6_costOf 7 = .ok (.istore_n 3, 1) := by decide +kernel
theorem dX6_costOf_8 : decode cX6_costOf 8 = .ok (.iconst 0, 1) := by decide +kernel
theorem dX6_costOf_9 : decode cX6_costOf 9 = .ok (.istore 4, 2) := by decide +kernel
theorem dX6_costOf_11 : decode cX6_costOf 11 = .ok (.iload 4, 2) := by decide +kernel
theorem dX6_costOf_13 : decode cX6_costOf 13 = .ok (.aload_n 0, 1) := by decide +kernel
theorem dX6_costOf_14 : decode cX6_costOf 14 = .ok (.getfield 67, 3) := by decide +kernel
theorem dX6_costOf_17 : decode cX6_costOf 17 = .ok (.if_icmp .ge 36, 3) := by decide +kernel
theorem dX6_costOf_20 : decode cX6_costOf 20 = .ok (.iload_n 2, 1) := by decide +kernel
theorem dX6_costOf_21 : decode cX6_costOf 21 = .ok (.iload 4, 2) := by decide +kernel
theorem dX6_costOf_23 : decode cX6_costOf 23 = .ok (.ishr, 1) := by decide +kernel
theorem dX6_costOf_24 : decode cX6_costOf 24 = .ok (.iconst 1, 1) := by decide +kernel
theorem dX6_costOf_25 : decode cX6_costOf 25 = .ok (.iand, 1) := by decide +kernel
theorem dX6_costOf_26 : decode cX6_costOf 26 = .ok (.iconst 1, 1) := by decide +kernel
theorem dX6_costOf_27 : decode cX6_costOf 27 = .ok (.if_icmp .ne 20, 3) := by decide +kernel
theorem dX6_costOf_30 : decode cX6_costOf 30 = .ok (.iload_n 3, 1) := by decide +kernel
theorem dX6_costOf_31 : decode cX6_costOf 31 = .ok (.aload_n 0, 1) := by decide +kernel
theorem dX6_costOf_32 : decode cX6_costOf 32 = .ok (.iload 4, 2) := by decide +kernel
theorem dX6_costOf_34 : decode cX6_costOf 34 = .ok (.aload_n 0, 1) := by decide +kernel
theorem dX6_costOf_35 : decode cX6_costOf 35 = .ok (.iload 4, 2) := by decide +kernel
theorem dX6_costOf_37 : decode cX6_costOf 37 = .ok (.iload_n 1, 1) := by decide +kernel
theorem dX6_costOf_38 : decode cX6_costOf 38 = .ok (.iload_n 2, 1) := by decide +kernel
theorem dX6_costOf_39 : decode cX6_costOf 39 = .ok (.invokevirtual 92, 3) := by decide +kernel
theorem dX6_costOf_42 : decode cX6_costOf 42 = .ok (.invokevirtual 96, 3) := by decide +kernel
theorem dX6_costOf_45 : decode cX6_costOf 45 = .ok (.iadd, 1) := by decide +kernel
theorem dX6_costOf_46 : decode cX6_costOf 46 = .ok (.istore_n 3, 1) := by decide +kernel
theorem dX6_costOf_47 : decode cX6_costOf 47 = .ok (.iinc 4 1, 3) := by decide +kernel
theorem dX6_costOf_50 : decode cX6_costOf 50 = .ok (.goto (-39), 3) := by decide +kernel
theorem dX6_costOf_53 : decode cX6_costOf 53 = .ok (.iload_n 3, 1) := by decide +kernel
theorem dX6_costOf_54 : decode cX6_costOf 54 = .ok (.ireturn, 1) := by decide +kernel
theorem dX6_needed_0 : decode cX6_needed 0 = .ok (.aload_n 0, 1) := by decide +kernel
theorem dX6_needed_1 : decode cX6_needed 1 = .ok (.iconst 0, 1) := by decide +kernel
theorem dX6_needed_2 : decode cX6_needed 2 = .ok (.putfield 63, 3) := by decide +kernel
theorem dX6_needed_5 : decode cX6_needed 5 = .ok (.aload_n 0, 1) := by decide +kernel
theorem dX6_needed_6 : decode cX6_needed 6 = .ok (.aload_n 0, 1) := by decide +kernel
theorem dX6_needed_7 : decode cX6_needed 7 = .ok (.invokevirtual 100, 3) := by decide +kernel
theorem dX6_needed_10 : decode cX6_needed 10 = .ok (.invokevirtual 88, 3) := by decide +kernel
theorem dX6_needed_13 : decode cX6_needed 13 = .ok (.ireturn, 1) := by decide +kernel
theorem dX6_idle_0 : decode cX6_idle 0 = .ok (.aload_n 0, 1) := by decide +kernel
theorem dX6_idle_1 : decode cX6_idle 1 = .ok (.iconst 0, 1) := by decide +kernel
theorem dX6_idle_2 : decode cX6_idle 2 = .ok (.putfield 63, 3) := by decide +kernel
theorem dX6_idle_5 : decode cX6_idle 5 = .ok (.aload_n 0, 1) := by decide +kernel
theorem dX6_idle_6 : decode cX6_idle 6 = .ok (.aload_n 0, 1) := by decide +kernel
theorem dX6_idle_7 : decode cX6_idle 7 = .ok (.invokevirtual 100, 3) := by decide +kernel
theorem dX6_idle_10 : decode cX6_idle 10 = .ok (.invokevirtual 88, 3) := by decide +kernel
theorem dX6_idle_13 : decode cX6_idle 13 = .ok (.istore_n 1, 1) := by decide +kernel
theorem dX6_idle_14 : decode cX6_idle 14 = .ok (.iconst 0, 1) := by decide +kernel
theorem dX6_idle_15 : decode cX6_idle 15 = .ok (.istore_n 2, 1) := by decide +kernel
theorem dX6_idle_16 : decode cX6_idle 16 = .ok (.iconst 0, 1) := by decide +kernel
theorem dX6_idle_17 : decode cX6_idle 17 = .ok (.istore_n 3, 1) := by decide +kernel
theorem dX6_idle_18 : decode cX6_idle 18 = .ok (.iload_n 3, 1) := by decide +kernel
theorem dX6_idle_19 : decode cX6_idle 19 = .ok (.aload_n 0, 1) := by decide +kernel
theorem dX6_idle_20 : decode cX6_idle 20 = .ok (.getfield 67, 3) := by decide +kernel
theorem dX6_idle_23 : decode cX6_idle 23 = .ok (.if_icmp .ge 168, 3) := by decide +kernel
theorem dX6_idle_26 : decode cX6_idle 26 = .ok (.iconst 0, 1) := by decide +kernel
theorem dX6_idle_27 : decode cX6_idle 27 = .ok (.istore 4, 2) := by decide +kernel
theorem dX6_idle_29 : decode cX6_idle 29 = .ok (.iconst 0, 1) := by decide +kernel
theorem dX6_idle_30 : decode cX6_idle 30 = .ok (.istore 5, 2) := by decide +kernel
theorem dX6_idle_32 : decode cX6_idle 32 = .ok (.iload 5, 2) := by decide +kernel
theorem dX6_idle_34 : decode cX6_idle 34 = .ok (.aload_n 0, 1) := by decide +kernel
theorem dX6_idle_35 : decode cX6_idle 35 = .ok (.getfield 67, 3) := by decide +kernel
theorem dX6_idle_38 : decode cX6_idle 38 = .ok (.if_icmp .ge 33, 3) := by decide +kernel
theorem dX6_idle_41 : decode cX6_idle 41 = .ok (.aload_n 0, 1) := by decide +kernel
theorem dX6_idle_42 : decode cX6_idle 42 = .ok (.getfield 19, 3) := by decide +kernel
theorem dX6_idle_45 : decode cX6_idle 45 = .ok (.bipush 6, 2) := by decide +kernel
theorem dX6_idle_47 : decode cX6_idle 47 = .ok (.iload 5, 2) := by decide +kernel
theorem dX6_idle_49 : decode cX6_idle 49 = .ok (.imul, 1) := by decide +kernel
theorem dX6_idle_50 : decode cX6_idle 50 = .ok (.iload_n 3, 1) := by decide +kernel
theorem dX6_idle_51 : decode cX6_idle 51 = .ok (.iadd, 1) := by decide +kernel
theorem dX6_idle_52 : decode cX6_idle 52 = .ok (.iaload, 1) := by decide +kernel
theorem dX6_idle_53 : decode cX6_idle 53 = .ok (.ifCond .le 12, 3) := by decide +kernel
theorem dX6_idle_56 : decode cX6_idle 56 = .ok (.iload 4, 2) := by decide +kernel
theorem dX6_idle_58 : decode cX6_idle 58 = .ok (.iconst 1, 1) := by decide +kernel
theorem dX6_idle_59 : decode cX6_idle 59 = .ok (.iload 5, 2) := by decide +kernel
theorem dX6_idle_61 : decode cX6_idle 61 = .ok (.ishl, 1) := by decide +kernel
theorem dX6_idle_62 : decode cX6_idle 62 = .ok (.ior, 1) := by decide +kernel
theorem dX6_idle_63 : decode cX6_idle 63 = .ok (.istore 4, 2) := by decide +kernel
theorem dX6_idle_65 : decode cX6_idle 65 = .ok (.iinc 5 1, 3) := by decide +kernel
theorem dX6_idle_68 : decode cX6_idle 68 = .ok (.goto (-36), 3) := by decide +kernel
theorem dX6_idle_71 : decode cX6_idle 71 = .ok (.iconst 0, 1) := by decide +kernel
theorem dX6_idle_72 : decode cX6_idle 72 = .ok (.istore 5, 2) := by decide +kernel
theorem dX6_idle_74 : decode cX6_idle 74 = .ok (.iload 5, 2) := by decide +kernel
theorem dX6_idle_76 : decode cX6_idle 76 = .ok (.aload_n 0, 1) := by decide +kernel
theorem dX6_idle_77 : decode cX6_idle 77 = .ok (.getfield 67, 3) := by decide +kernel
theorem dX6_idle_80 : decode cX6_idle 80 = .ok (.if_icmp .ge 81, 3) := by decide +kernel
theorem dX6_idle_83 : decode cX6_idle 83 = .ok (.iconst 0, 1) := by decide +kernel
theorem dX6_idle_84 : decode cX6_idle 84 = .ok (.istore 6, 2) := by decide +kernel
theorem dX6_idle_86 : decode cX6_idle 86 = .ok (.iload 6, 2) := by decide +kernel
theorem dX6_idle_88 : decode cX6_idle 88 = .ok (.aload_n 0, 1) := by decide +kernel
theorem dX6_idle_89 : decode cX6_idle 89 = .ok (.getfield 67, 3) := by decide +kernel
theorem dX6_idle_92 : decode cX6_idle 92 = .ok (.if_icmp .ge 63, 3) := by decide +kernel
theorem dX6_idle_95 : decode cX6_idle 95 = .ok (.iconst 0, 1) := by decide +kernel
theorem dX6_idle_96 : decode cX6_idle 96 = .ok (.istore 7, 2) := by decide +kernel
theorem dX6_idle_98 : decode cX6_idle 98 = .ok (.iload 7, 2) := by decide +kernel
theorem dX6_idle_100 : decode cX6_idle 100 = .ok (.aload_n 0, 1) := by decide +kernel
theorem dX6_idle_101 : decode cX6_idle 101 = .ok (.getfield 67, 3) := by decide +kernel
theorem dX6_idle_104 : decode cX6_idle 104 = .ok (.if_icmp .ge 45, 3) := by decide +kernel
theorem dX6_idle_107 : decode cX6_idle 107 = .ok (.iload 4, 2) := by decide +kernel
theorem dX6_idle_109 : decode cX6_idle 109 = .ok (.iload 7, 2) := by decide +kernel
theorem dX6_idle_111 : decode cX6_idle 111 = .ok (.ishr, 1) := by decide +kernel
theorem dX6_idle_112 : decode cX6_idle 112 = .ok (.iconst 1, 1) := by decide +kernel
theorem dX6_idle_113 : decode cX6_idle 113 = .ok (.iand, 1) := by decide +kernel
theorem dX6_idle_114 : decode cX6_idle 114 = .ok (.iconst 1, 1) := by decide +kernel
theorem dX6_idle_115 : decode cX6_idle 115 = .ok (.if_icmp .ne 28, 3) := by decide +kernel
theorem dX6_idle_118 : decode cX6_idle 118 = .ok (.aload_n 0, 1) := by decide +kernel
theorem dX6_idle_119 : decode cX6_idle 119 = .ok (.getfield 19, 3) := by decide +kernel
theorem dX6_idle_122 : decode cX6_idle 122 = .ok (.bipush 6, 2) := by decide +kernel
theorem dX6_idle_124 : decode cX6_idle 124 = .ok (.iload 6, 2) := by decide +kernel
theorem dX6_idle_126 : decode cX6_idle 126 = .ok (.imul, 1) := by decide +kernel
theorem dX6_idle_127 : decode cX6_idle 127 = .ok (.iload 7, 2) := by decide +kernel
theorem dX6_idle_129 : decode cX6_idle 129 = .ok (.iadd, 1) := by decide +kernel
theorem dX6_idle_130 : decode cX6_idle 130 = .ok (.iaload, 1) := by decide +kernel
theorem dX6_idle_131 : decode cX6_idle 131 = .ok (.ifCond .le 12, 3) := by decide +kernel
theorem dX6_idle_134 : decode cX6_idle 134 = .ok (.iload 4, 2) := by decide +kernel
theorem dX6_idle_136 : decode cX6_idle 136 = .ok (.iconst 1, 1) := by decide +kernel
theorem dX6_idle_137 : decode cX6_idle 137 = .ok (.iload 6, 2) := by decide +kernel
theorem dX6_idle_139 : decode cX6_idle 139 = .ok (.ishl, 1) := by decide +kernel
theorem dX6_idle_140 : decode cX6_idle 140 = .ok (.ior, 1) := by decide +kernel
theorem dX6_idle_141 : decode cX6_idle 141 = .ok (.istore 4, 2) := by decide +kernel
theorem dX6_idle_143 : decode cX6_idle 143 = .ok (.iinc 7 1, 3) := by decide +kernel
theorem dX6_idle_146 : decode cX6_idle 146 = .ok (.goto (-48), 3) := by decide +kernel
theorem dX6_idle_149 : decode cX6_idle 149 = .ok (.iinc 6 1, 3) := by decide +kernel
theorem dX6_idle_152 : decode cX6_idle 152 = .ok (.goto (-66), 3) := by decide +kernel
theorem dX6_idle_155 : decode cX6_idle 155 = .ok (.iinc 5 1, 3) := by decide +kernel
theorem dX6_idle_158 : decode cX6_idle 158 = .ok (.goto (-84), 3) := by decide +kernel
theorem dX6_idle_161 : decode cX6_idle 161 = .ok (.iload_n 1, 1) := by decide +kernel
theorem dX6_idle_162 : decode cX6_idle 162 = .ok (.iload_n 3, 1) := by decide +kernel
theorem dX6_idle_163 : decode cX6_idle 163 = .ok (.ishr, 1) := by decide +kernel
theorem dX6_idle_164 : decode cX6_idle 164 = .ok (.iconst 1, 1) := by decide +kernel
theorem dX6_idle_165 : decode cX6_idle 165 = .ok (.iand, 1) := by decide +kernel
theorem dX6_idle_166 : decode cX6_idle 166 = .ok (.ifCond .ne 19, 3) := by decide +kernel
theorem dX6_idle_169 : decode cX6_idle 169 = .ok (.iload 4, 2) := by decide +kernel
theorem dX6_idle_171 : decode cX6_idle 171 = .ok (.iload_n 3, 1) := by decide +kernel
theorem dX6_idle_172 : decode cX6_idle 172 = .ok (.ishr, 1) := by decide +kernel
theorem dX6_idle_173 : decode cX6_idle 173 = .ok (.iconst 1, 1) := by decide +kernel
theorem dX6_idle_174 : decode cX6_idle 174 = .ok (.iand, 1) := by decide +kernel
theorem dX6_idle_175 : decode cX6_idle 175 = .ok (.iconst 1, 1) := by decide +kernel
theorem dX6_idle_176 : decode cX6_idle 176 = .ok (.if_icmp .ne 9, 3) := by decide +kernel
theorem dX6_idle_179 : decode cX6_idle 179 = .ok (.iload_n 2, 1) := by decide +kernel
theorem dX6_idle_180 : decode cX6_idle 180 = .ok (.iconst 1, 1) := by decide +kernel
theorem dX6_idle_181 : decode cX6_idle 181 = .ok (.iload_n 3, 1) := by decide +kernel
theorem dX6_idle_182 : decode cX6_idle 182 = .ok (.ishl, 1) := by decide +kernel
theorem dX6_idle_183 : decode cX6_idle 183 = .ok (.ior, 1) := by decide +kernel
theorem dX6_idle_184 : decode cX6_idle 184 = .ok (.istore_n 2, 1) := by decide +kernel
theorem dX6_idle_185 : decode cX6_idle 185 = .ok (.iinc 3 1, 3) := by decide +kernel
theorem dX6_idle_188 : decode cX6_idle 188 = .ok (.goto (-170), 3) := by decide +kernel
theorem dX6_idle_191 : decode cX6_idle 191 = .ok (.iload_n 2, 1) := by decide +kernel
theorem dX6_idle_192 : decode cX6_idle 192 = .ok (.ireturn, 1) := by decide +kernel
theorem dX6_total_0 : decode cX6_total 0 = .ok (.aload_n 0, 1) := by decide +kernel
theorem dX6_total_1 : decode cX6_total 1 = .ok (.iconst 0, 1) := by decide +kernel
theorem dX6_total_2 : decode cX6_total 2 = .ok (.putfield 63, 3) := by decide +kernel
theorem dX6_total_5 : decode cX6_total 5 = .ok (.aload_n 0, 1) := by decide +kernel
theorem dX6_total_6 : decode cX6_total 6 = .ok (.invokevirtual 100, 3) := by decide +kernel
theorem dX6_total_9 : decode cX6_total 9 = .ok (.istore_n 2, 1) := by decide +kernel
theorem dX6_total_10 : decode cX6_total 10 = .ok (.aload_n 0, 1) := by decide +kernel
theorem dX6_total_11 : decode cX6_total 11 = .ok (.iload_n 2, 1) := by decide +kernel
theorem dX6_total_12 : decode cX6_total 12 = .ok (.invokevirtual 88, 3) := by decide +kernel
theorem dX6_total_15 : decode cX6_total 15 = .ok (.istore_n 3, 1) := by decide +kernel
theorem dX6_total_16 : decode cX6_total 16 = .ok (.aload_n 0, 1) := by decide +kernel
theorem dX6_total_17 : decode cX6_total 17 = .ok (.iload_n 1, 1) := by decide +kernel
theorem dX6_total_18 : decode cX6_total 18 = .ok (.invokevirtual 81, 3) := by decide +kernel
theorem dX6_total_21 : decode cX6_total 21 = .ok (.ifCond .eq 22, 3) := by decide +kernel
theorem dX6_total_24 : decode cX6_total 24 = .ok (.iload_n 3, 1) := by decide +kernel
theorem dX6_total_25 : decode cX6_total 25 = .ok (.iload_n 1, 1) := by decide +kernel
theorem dX6_total_26 : decode cX6_total 26 = .ok (.ishr, 1) := by decide +kernel
theorem dX6_total_27 : decode cX6_total 27 = .ok (.iconst 1, 1) := by decide +kernel
theorem dX6_total_28 : decode cX6_total 28 = .ok (.iand, 1) := by decide +kernel
theorem dX6_total_29 : decode cX6_total 29 = .ok (.iconst 1, 1) := by decide +kernel
theorem dX6_total_30 : decode cX6_total 30 = .ok (.if_icmp .ne 13, 3) := by decide +kernel
theorem dX6_total_33 : decode cX6_total 33 = .ok (.aload_n 0, 1) := by decide +kernel
theorem dX6_total_34 : decode cX6_total 34 = .ok (.iload_n 1, 1) := by decide +kernel
theorem dX6_total_35 : decode cX6_total 35 = .ok (.iload_n 2, 1) := by decide +kernel
theorem dX6_total_36 : decode cX6_total 36 = .ok (.iload_n 3, 1) := by decide +kernel
theorem dX6_total_37 : decode cX6_total 37 = .ok (.invokevirtual 92, 3) := by decide +kernel
theorem dX6_total_40 : decode cX6_total 40 = .ok (.goto 4, 3) := by decide +kernel
theorem dX6_total_43 : decode cX6_total 43 = .ok (.iconst (-1), 1) := by decide +kernel
theorem dX6_total_44 : decode cX6_total 44 = .ok (.ireturn, 1) := by decide +kernel
theorem dX6_cost_0 : decode cX6_cost 0 = .ok (.aload_n 0, 1) := by decide +kernel
theorem dX6_cost_1 : decode cX6_cost 1 = .ok (.iconst 0, 1) := by decide +kernel
theorem dX6_cost_2 : decode cX6_cost 2 = .ok (.putfield 63, 3) := by decide +kernel
theorem dX6_cost_5 : decode cX6_cost 5 = .ok (.iload_n 1, 1) := by decide +kernel
theorem dX6_cost_6 : decode cX6_cost 6 = .ok (.iconst 0, 1) := by decide +kernel
theorem dX6_cost_7 : decode cX6_cost 7 = .ok (.iconst 1, 1) := by decide +kernel
theorem dX6_cost_8 : decode cX6_cost 8 = .ok (.aload_n 0, 1) := by decide +kernel
theorem dX6_cost_9 : decode cX6_cost 9 = .ok (.getfield 70, 3) := by decide +kernel
theorem dX6_cost_12 : decode cX6_cost 12 = .ok (.ishl, 1) := by decide +kernel
theorem dX6_cost_13 : decode cX6_cost 13 = .ok (.iconst 1, 1) := by decide +kernel
theorem dX6_cost_14 : decode cX6_cost 14 = .ok (.isub, 1) := by decide +kernel
theorem dX6_cost_15 : decode cX6_cost 15 = .ok (.invokestatic 77, 3) := by decide +kernel
theorem dX6_cost_18 : decode cX6_cost 18 = .ok (.ifCond .eq 11, 3) := by decide +kernel
theorem dX6_cost_21 : decode cX6_cost 21 = .ok (.aload_n 0, 1) := by decide +kernel
theorem dX6_cost_22 : decode cX6_cost 22 = .ok (.iload_n 1, 1) := by decide +kernel
theorem dX6_cost_23 : decode cX6_cost 23 = .ok (.invokevirtual 104, 3) := by decide +kernel
theorem dX6_cost_26 : decode cX6_cost 26 = .ok (.goto 4, 3) := by decide +kernel
theorem dX6_cost_29 : decode cX6_cost 29 = .ok (.iconst (-1), 1) := by decide +kernel
theorem dX6_cost_30 : decode cX6_cost 30 = .ok (.ireturn, 1) := by decide +kernel
theorem dX6_determinant_0 : decode cX6_determinant 0 = .ok (.iload_n 1, 1) := by decide +kernel
theorem dX6_determinant_1 : decode cX6_determinant 1 = .ok (.aload_n 0, 1) := by decide +kernel
theorem dX6_determinant_2 : decode cX6_determinant 2 = .ok (.getfield 107, 3) := by decide +kernel
theorem dX6_determinant_5 : decode cX6_determinant 5 = .ok (.if_icmp .ne 5, 3) := by decide +kernel
theorem dX6_determinant_8 : decode cX6_determinant 8 = .ok (.lconst 1, 1) := by decide +kernel
theorem dX6_determinant_9 : decode cX6_determinant 9 = .ok (.lreturn, 1) := by decide +kernel
theorem dX6_determinant_10 : decode cX6_determinant 10 = .ok (.lconst 0, 1) := by decide +kernel
theorem dX6_determinant_11 : decode cX6_determinant 11 = .ok (.lstore 4, 2) := by decide +kernel
theorem dX6_determinant_13 : decode cX6_determinant 13 = .ok (.iconst 1, 1) := by decide +kernel
theorem dX6_determinant_14 : decode cX6_determinant 14 = .ok (.istore 6, 2) := by decide +kernel
theorem dX6_determinant_16 : decode cX6_determinant 16 = .ok (.iconst 0, 1) := by decide +kernel
theorem dX6_determinant_17 : decode cX6_determinant 17 = .ok (.istore 7, 2) := by decide +kernel
theorem dX6_determinant_19 : decode cX6_determinant 19 = .ok (.iload 7, 2) := by decide +kernel
theorem dX6_determinant_21 : decode cX6_determinant 21 = .ok (.aload_n 0, 1) := by decide +kernel
theorem dX6_determinant_22 : decode cX6_determinant 22 = .ok (.getfield 107, 3) := by decide +kernel
theorem dX6_determinant_25 : decode cX6_determinant 25 = .ok (.if_icmp .ge 89, 3) := by decide +kernel
theorem dX6_determinant_28 : decode cX6_determinant 28 = .ok (.iload_n 2, 1) := by decide +kernel
theorem dX6_determinant_29 : decode cX6_determinant 29 = .ok (.iload 7, 2) := by decide +kernel
theorem dX6_determinant_31 : decode cX6_determinant 31 = .ok (.ishr, 1) := by decide +kernel
theorem dX6_determinant_32 : decode cX6_determinant 32 = .ok (.iconst 1, 1) := by decide +kernel
theorem dX6_determinant_33 : decode cX6_determinant 33 = .ok (.iand, 1) := by decide +kernel
theorem dX6_determinant_34 : decode cX6_determinant 34 = .ok (.iconst 1, 1) := by decide +kernel
theorem dX6_determinant_35 : decode cX6_determinant 35 = .ok (.if_icmp .ne 6, 3) := by decide +kernel
theorem dX6_determinant_38 : decode cX6_determinant 38 = .ok (.goto 70, 3) := by decide +kernel
theorem dX6_determinant_41 : decode cX6_determinant 41 = .ok (.iload 7, 2) := by decide +kernel
theorem dX6_determinant_43 : decode cX6_determinant 43 = .ok (.iload_n 3, 1) := by decide +kernel
theorem dX6_determinant_44 : decode cX6_determinant 44 = .ok (.if_icmp .ne 12, 3) := by decide +kernel
theorem dX6_determinant_47 : decode cX6_determinant 47 = .ok (.aload_n 0, 1) := by decide +kernel
theorem dX6_determinant_48 : decode cX6_determinant 48 = .ok (.getfield 48, 3) := by decide +kernel
theorem dX6_determinant_51 : decode cX6_determinant 51 = .ok (.iload_n 1, 1) := by decide +kernel
theorem dX6_determinant_52 : decode cX6_determinant 52 = .ok (.laload, 1) := by decide +kernel
theorem dX6_determinant_53 : decode cX6_determinant 53 = .ok (.goto 15, 3) := by decide +kernel
theorem dX6_determinant_56 : decode cX6_determinant 56 = .ok (.aload_n 0, 1) := by decide +kernel
theorem dX6_determinant_57 : decode cX6_determinant 57 = .ok (.getfield 44, 3) := by decide +kernel
theorem dX6_determinant_60 : decode cX6_determinant 60 = .ok (.bipush 6, 2) := by decide +kernel
theorem dX6_determinant_62 : decode cX6_determinant 62 = .ok (.iload_n 1, 1) := by decide +kernel
theorem dX6_determinant_63 : decode cX6_determinant 63 = .ok (.imul, 1) := by decide +kernel
theorem dX6_determinant_64 : decode cX6_determinant 64 = .ok (.iload 7, 2) := by decide +kernel
theorem dX6_determinant_66 : decode cX6_determinant 66 = .ok (.iadd, 1) := by decide +kernel
theorem dX6_determinant_67 : decode cX6_determinant 67 = .ok (.laload, 1) := by decide +kernel
theorem dX6_determinant_68 : decode cX6_determinant 68 = .ok (.lstore 8, 2) := by decide +kernel
theorem dX6_determinant_70 : decode cX6_determinant 70 = .ok (.lload 8, 2) := by decide +kernel
theorem dX6_determinant_72 : decode cX6_determinant 72 = .ok (.lconst 0, 1) := by decide +kernel
theorem dX6_determinant_73 : decode cX6_determinant 73 = .ok (.lcmp, 1) := by decide +kernel
theorem dX6_determinant_74 : decode cX6_determinant 74 = .ok (.ifCond .eq 29, 3) := by decide +kernel
theorem dX6_determinant_77 : decode cX6_determinant 77 = .ok (.lload 4, 2) := by decide +kernel
theorem dX6_determinant_79 : decode cX6_determinant 79 = .ok (.iload 6, 2) := by decide +kernel
theorem dX6_determinant_81 : decode cX6_determinant 81 = .ok (.i2l, 1) := by decide +kernel
theorem dX6_determinant_82 : decode cX6_determinant 82 = .ok (.lload 8, 2) := by decide +kernel
theorem dX6_determinant_84 : decode cX6_determinant 84 = .ok (.lmul, 1) := by decide +kernel
theorem dX6_determinant_85 : decode cX6_determinant 85 = .ok (.aload_n 0, 1) := by decide +kernel
theorem dX6_determinant_86 : decode cX6_determinant 86 = .ok (.iload_n 1, 1) := by decide +kernel
theorem dX6_determinant_87 : decode cX6_determinant 87 = .ok (.iconst 1, 1) := by decide +kernel
theorem dX6_determinant_88 : decode cX6_determinant 88 = .ok (.iadd, 1) := by decide +kernel
theorem dX6_determinant_89 : decode cX6_determinant 89 = .ok (.iload_n 2, 1) := by decide +kernel
theorem dX6_determinant_90 : decode cX6_determinant 90 = .ok (.iconst 1, 1) := by decide +kernel
theorem dX6_determinant_91 : decode cX6_determinant 91 = .ok (.iload 7, 2) := by decide +kernel
theorem dX6_determinant_93 : decode cX6_determinant 93 = .ok (.ishl, 1) := by decide +kernel
theorem dX6_determinant_94 : decode cX6_determinant 94 = .ok (.ior, 1) := by decide +kernel
theorem dX6_determinant_95 : decode cX6_determinant 95 = .ok (.iload_n 3, 1) := by decide +kernel
theorem dX6_determinant_96 : decode cX6_determinant 96 = .ok (.invokevirtual 110, 3) := by decide +kernel
theorem dX6_determinant_99 : decode cX6_determinant 99 = .ok (.lmul, 1) := by decide +kernel
theorem dX6_determinant_100 : decode cX6_determinant 100 = .ok (.ladd, 1) := by decide +kernel
theorem dX6_determinant_101 : decode cX6_determinant 101 = .ok (.lstore 4, 2) := by decide +kernel
theorem dX6_determinant_103 : decode cX6_determinant 103 = .ok (.iload 6, 2) := by decide +kernel
theorem dX6_determinant_105 : decode cX6_determinant 105 = .ok (.ineg, 1) := by decide +kernel
theorem dX6_determinant_106 : decode cX6_determinant 106 = .ok (.istore 6, 2) := by decide +kernel
theorem dX6_determinant_108 : decode cX6_determinant 108 = .ok (.iinc 7 1, 3) := by decide +kernel
theorem dX6_determinant_111 : decode cX6_determinant 111 = .ok (.goto (-92), 3) := by decide +kernel
theorem dX6_determinant_114 : decode cX6_determinant 114 = .ok (.lload 4, 2) := by decide +kernel
theorem dX6_determinant_116 : decode cX6_determinant 116 = .ok (.lreturn, 1) := by decide +kernel
theorem dX6_prices_0 : decode cX6_prices 0 = .ok (.aload_n 0, 1) := by decide +kernel
theorem dX6_prices_1 : decode cX6_prices 1 = .ok (.invokevirtual 100, 3) := by decide +kernel
theorem dX6_prices_4 : decode cX6_prices 4 = .ok (.istore_n 1, 1) := by decide +kernel
theorem dX6_prices_5 : decode cX6_prices 5 = .ok (.aload_n 0, 1) := by decide +kernel
theorem dX6_prices_6 : decode cX6_prices 6 = .ok (.iload_n 1, 1) := by decide +kernel
theorem dX6_prices_7 : decode cX6_prices 7 = .ok (.invokevirtual 88, 3) := by decide +kernel
theorem dX6_prices_10 : decode cX6_prices 10 = .ok (.istore_n 2, 1) := by decide +kernel
theorem dX6_prices_11 : decode cX6_prices 11 = .ok (.aload_n 0, 1) := by decide +kernel
theorem dX6_prices_12 : decode cX6_prices 12 = .ok (.iconst 0, 1) := by decide +kernel
theorem dX6_prices_13 : decode cX6_prices 13 = .ok (.putfield 107, 3) := by decide +kernel
theorem dX6_prices_16 : decode cX6_prices 16 = .ok (.iconst 0, 1) := by decide +kernel
theorem dX6_prices_17 : decode cX6_prices 17 = .ok (.istore_n 3, 1) := by decide +kernel
theorem dX6_prices_18 : decode cX6_prices 18 = .ok (.iload_n 3, 1) := by decide +kernel
theorem dX6_prices_19 : decode cX6_prices 19 = .ok (.aload_n 0, 1) := by decide +kernel
theorem dX6_prices_20 : decode cX6_prices 20 = .ok (.getfield 67, 3) := by decide +kernel
theorem dX6_prices_23 : decode cX6_prices 23 = .ok (.if_icmp .ge 47, 3) := by decide +kernel
theorem dX6_prices_26 : decode cX6_prices 26 = .ok (.aload_n 0, 1) := by decide +kernel
theorem dX6_prices_27 : decode cX6_prices 27 = .ok (.getfield 51, 3) := by decide +kernel
theorem dX6_prices_30 : decode cX6_prices 30 = .ok (.iload_n 3, 1) := by decide +kernel
theorem dX6_prices_31 : decode cX6_prices 31 = .ok (.lconst 0, 1) := by decide +kernel
theorem dX6_prices_32 : decode cX6_prices 32 = .ok (.lastore, 1) := by decide +kernel
theorem dX6_prices_33 : decode cX6_prices 33 = .ok (.iload_n 2, 1) := by decide +kernel
theorem dX6_prices_34 : decode cX6_prices 34 = .ok (.iload_n 3, 1) := by decide +kernel
theorem dX6_prices_35 : decode cX6_prices 35 = .ok (.ishr, 1) := by decide +kernel
theorem dX6_prices_36 : decode cX6_prices 36 = .ok (.iconst 1, 1) := by decide +kernel
theorem dX6_prices_37 : decode cX6_prices 37 = .ok (.iand, 1) := by decide +kernel
theorem dX6_prices_38 : decode cX6_prices 38 = .ok (.ifCond .ne 6, 3) := by decide +kernel
theorem dX6_prices_41 : decode cX6_prices 41 = .ok (.goto 23, 3) := by decide +kernel
theorem dX6_prices_44 : decode cX6_prices 44 = .ok (.aload_n 0, 1) := by decide +kernel
theorem dX6_prices_45 : decode cX6_prices 45 = .ok (.getfield 41, 3) := by decide +kernel
theorem dX6_prices_48 : decode cX6_prices 48 = .ok (.aload_n 0, 1) := by decide +kernel
theorem dX6_prices_49 : decode cX6_prices 49 = .ok (.getfield 107, 3) := by decide +kernel
theorem dX6_prices_52 : decode cX6_prices 52 = .ok (.iload_n 3, 1) := by decide +kernel
theorem dX6_prices_53 : decode cX6_prices 53 = .ok (.iastore, 1) := by decide +kernel
theorem dX6_prices_54 : decode cX6_prices 54 = .ok (.aload_n 0, 1) := by decide +kernel
theorem dX6_prices_55 : decode cX6_prices 55 = .ok (.dup, 1) := by decide +kernel
theorem dX6_prices_56 : decode cX6_prices 56 = .ok (.getfield 107, 3) := by decide +kernel
theorem dX6_prices_59 : decode cX6_prices 59 = .ok (.iconst 1, 1) := by decide +kernel
theorem dX6_prices_60 : decode cX6_prices 60 = .ok (.iadd, 1) := by decide +kernel
theorem dX6_prices_61 : decode cX6_prices 61 = .ok (.putfield 107, 3) := by decide +kernel
theorem dX6_prices_64 : decode cX6_prices 64 = .ok (.iinc 3 1, 3) := by decide +kernel
theorem dX6_prices_67 : decode cX6_prices 67 = .ok (.goto (-49), 3) := by decide +kernel
theorem dX6_prices_70 : decode cX6_prices 70 = .ok (.iconst 0, 1) := by decide +kernel
theorem dX6_prices_71 : decode cX6_prices 71 = .ok (.istore_n 3, 1) := by decide +kernel
theorem dX6_prices_72 : decode cX6_prices 72 = .ok (.iload_n 3, 1) := by decide +kernel
theorem dX6_prices_73 : decode cX6_prices 73 = .ok (.aload_n 0, 1) := by decide +kernel
theorem dX6_prices_74 : decode cX6_prices 74 = .ok (.getfield 107, 3) := by decide +kernel
theorem dX6_prices_77 : decode cX6_prices 77 = .ok (.if_icmp .ge 104, 3) := by decide +kernel
theorem dX6_prices_80 : decode cX6_prices 80 = .ok (.aload_n 0, 1) := by decide +kernel
theorem dX6_prices_81 : decode cX6_prices 81 = .ok (.getfield 41, 3) := by decide +kernel
theorem dX6_prices_84 : decode cX6_prices 84 = .ok (.iload_n 3, 1) := by decide +kernel
theorem dX6_prices_85 : decode cX6_prices 85 = .ok (.iaload, 1) := by decide +kernel
theorem dX6_prices_86 : decode cX6_prices 86 = .ok (.istore 4, 2) := by decide +kernel
theorem dX6_prices_88 : decode cX6_prices 88 = .ok (.aload_n 0, 1) := by decide +kernel
theorem dX6_prices_89 : decode cX6_prices 89 = .ok (.iload 4, 2) := by decide +kernel
theorem dX6_prices_91 : decode cX6_prices 91 = .ok (.iload_n 1, 1) := by decide +kernel
theorem dX6_prices_92 : decode cX6_prices 92 = .ok (.iload_n 2, 1) := by decide +kernel
theorem dX6_prices_93 : decode cX6_prices 93 = .ok (.invokevirtual 92, 3) := by decide +kernel
theorem dX6_prices_96 : decode cX6_prices 96 = .ok (.istore 5, 2) := by decide +kernel
theorem dX6_prices_98 : decode cX6_prices 98 = .ok (.aload_n 0, 1) := by decide +kernel
theorem dX6_prices_99 : decode cX6_prices 99 = .ok (.getfield 48, 3) := by decide +kernel
theorem dX6_prices_102 : decode cX6_prices 102 = .ok (.iload_n 3, 1) := by decide +kernel
theorem dX6_prices_103 : decode cX6_prices 103 = .ok (.aload_n 0, 1) := by decide +kernel
theorem dX6_prices_104 : decode cX6_prices 104 = .ok (.iload 4, 2) := by decide +kernel
theorem dX6_prices_106 : decode cX6_prices 106 = .ok (.iload 5, 2) := by decide +kernel
theorem dX6_prices_108 : decode cX6_prices 108 = .ok (.invokevirtual 96, 3) := by decide +kernel
theorem dX6_prices_111 : decode cX6_prices 111 = .ok (.i2l, 1) := by decide +kernel
theorem dX6_prices_112 : decode cX6_prices 112 = .ok (.lastore, 1) := by decide +kernel
theorem dX6_prices_113 : decode cX6_prices 113 = .ok (.iconst 0, 1) := by decide +kernel
theorem dX6_prices_114 : decode cX6_prices 114 = .ok (.istore 6, 2) := by decide +kernel
theorem dX6_prices_116 : decode cX6_prices 116 = .ok (.iload 6, 2) := by decide +kernel
theorem dX6_prices_118 : decode cX6_prices 118 = .ok (.aload_n 0, 1) := by decide +kernel
theorem dX6_prices_119 : decode cX6_prices 119 = .ok (.getfield 107, 3) := by decide +kernel
theorem dX6_prices_122 : decode cX6_prices 122 = .ok (.if_icmp .ge 53, 3) := by decide +kernel
theorem dX6_prices_125 : decode cX6_prices 125 = .ok (.aload_n 0, 1) := by decide +kernel
theorem dX6_prices_126 : decode cX6_prices 126 = .ok (.getfield 44, 3) := by decide +kernel
theorem dX6_prices_129 : decode cX6_prices 129 = .ok (.bipush 6, 2) := by decide +kernel
theorem dX6_prices_131 : decode cX6_prices 131 = .ok (.iload_n 3, 1) := by decide +kernel
theorem dX6_prices_132 : decode cX6_prices 132 = .ok (.imul, 1) := by decide +kernel
theorem dX6_prices_133 : decode cX6_prices 133 = .ok (.iload 6, 2) := by decide +kernel
theorem dX6_prices_135 : decode cX6_prices 135 = .ok (.iadd, 1) := by decide +kernel
theorem dX6_prices_136 : decode cX6_prices 136 = .ok (.iload_n 3, 1) := by decide +kernel
theorem dX6_prices_137 : decode cX6_prices 137 = .ok (.iload 6, 2) := by decide +kernel
theorem dX6_prices_139 : decode cX6_prices 139 = .ok (.if_icmp .ne 9, 3) := by decide +kernel
theorem dX6_prices_142 : decode cX6_prices 142 = .ok (.iload 5, 2) := by decide +kernel
theorem dX6_prices_144 : decode cX6_prices 144 = .ok (.i2l, 1) := by decide +kernel
theorem dX6_prices_145 : decode cX6_prices 145 = .ok (.goto 23, 3) := by decide +kernel
theorem dX6_prices_148 : decode cX6_prices 148 = .ok (.aload_n 0, 1) := by decide +kernel
theorem dX6_prices_149 : decode cX6_prices 149 = .ok (.getfield 19, 3) := by decide +kernel
theorem dX6_prices_152 : decode cX6_prices 152 = .ok (.bipush 6, 2) := by decide +kernel
theorem dX6_prices_154 : decode cX6_prices 154 = .ok (.aload_n 0, 1) := by decide +kernel
theorem dX6_prices_155 : decode cX6_prices 155 = .ok (.getfield 41, 3) := by decide +kernel
theorem dX6_prices_158 : decode cX6_prices 158 = .ok (.iload 6, 2) := by decide +kernel
theorem dX6_prices_160 : decode cX6_prices 160 = .ok (.iaload, 1) := by decide +kernel
theorem dX6_prices_161 : decode cX6_prices 161 = .ok (.imul, 1) := by decide +kernel
theorem dX6_prices_162 : decode cX6_prices 162 = .ok (.iload 4, 2) := by decide +kernel
theorem dX6_prices_164 : decode cX6_prices 164 = .ok (.iadd, 1) := by decide +kernel
theorem dX6_prices_165 : decode cX6_prices 165 = .ok (.iaload, 1) := by decide +kernel
theorem dX6_prices_166 : decode cX6_prices 166 = .ok (.ineg, 1) := by decide +kernel
theorem dX6_prices_167 : decode cX6_prices 167 = .ok (.i2l, 1) := by decide +kernel
theorem dX6_prices_168 : decode cX6_prices 168 = .ok (.lastore, 1) := by decide +kernel
theorem dX6_prices_169 : decode cX6_prices 169 = .ok (.iinc 6 1, 3) := by decide +kernel
theorem dX6_prices_172 : decode cX6_prices 172 = .ok (.goto (-56), 3) := by decide +kernel
theorem dX6_prices_175 : decode cX6_prices 175 = .ok (.iinc 3 1, 3) := by decide +kernel
theorem dX6_prices_178 : decode cX6_prices 178 = .ok (.goto (-106), 3) := by decide +kernel
theorem dX6_prices_181 : decode cX6_prices 181 = .ok (.aload_n 0, 1) := by decide +kernel
theorem dX6_prices_182 : decode cX6_prices 182 = .ok (.aload_n 0, 1) := by decide +kernel
theorem dX6_prices_183 : decode cX6_prices 183 = .ok (.iconst 0, 1) := by decide +kernel
theorem dX6_prices_184 : decode cX6_prices 184 = .ok (.iconst 0, 1) := by decide +kernel
theorem dX6_prices_185 : decode cX6_prices 185 = .ok (.iconst (-1), 1) := by decide +kernel
theorem dX6_prices_186 : decode cX6_prices 186 = .ok (.invokevirtual 110, 3) := by decide +kernel
theorem dX6_prices_189 : decode cX6_prices 189 = .ok (.putfield 114, 3) := by decide +kernel
theorem dX6_prices_192 : decode cX6_prices 192 = .ok (.iconst 0, 1) := by decide +kernel
theorem dX6_prices_193 : decode cX6_prices 193 = .ok (.istore_n 3, 1) := by decide +kernel
theorem dX6_prices_194 : decode cX6_prices 194 = .ok (.iload_n 3, 1) := by decide +kernel
theorem dX6_prices_195 : decode cX6_prices 195 = .ok (.aload_n 0, 1) := by decide +kernel
theorem dX6_prices_196 : decode cX6_prices 196 = .ok (.getfield 107, 3) := by decide +kernel
theorem dX6_prices_199 : decode cX6_prices 199 = .ok (.if_icmp .ge 27, 3) := by decide +kernel
theorem dX6_prices_202 : decode cX6_prices 202 = .ok (.aload_n 0, 1) := by decide +kernel
theorem dX6_prices_203 : decode cX6_prices 203 = .ok (.getfield 51, 3) := by decide +kernel
theorem dX6_prices_206 : decode cX6_prices 206 = .ok (.aload_n 0, 1) := by decide +kernel
theorem dX6_prices_207 : decode cX6_prices 207 = .ok (.getfield 41, 3) := by decide +kernel
theorem dX6_prices_210 : decode cX6_prices 210 = .ok (.iload_n 3, 1) := by decide +kernel
theorem dX6_prices_211 : decode cX6_prices 211 = .ok (.iaload, 1) := by decide +kernel
theorem dX6_prices_212 : decode cX6_prices 212 = .ok (.aload_n 0, 1) := by decide +kernel
theorem dX6_prices_213 : decode cX6_prices 213 = .ok (.iconst 0, 1) := by decide +kernel
theorem dX6_prices_214 : decode cX6_prices 214 = .ok (.iconst 0, 1) := by decide +kernel
theorem dX6_prices_215 : decode cX6_prices 215 = .ok (.iload_n 3, 1) := by decide +kernel
theorem dX6_prices_216 : decode cX6_prices 216 = .ok (.invokevirtual 110, 3) := by decide +kernel
theorem dX6_prices_219 : decode cX6_prices 219 = .ok (.lastore, 1) := by decide +kernel
theorem dX6_prices_220 : decode cX6_prices 220 = .ok (.iinc 3 1, 3) := by decide +kernel
theorem dX6_prices_223 : decode cX6_prices 223 = .ok (.goto (-29), 3) := by decide +kernel
theorem dX6_prices_226 : decode cX6_prices 226 = .ok (.return_, 1) := by decide +kernel
theorem dX6_common_0 : decode cX6_common 0 = .ok (.lload_n 0, 1) := by decide +kernel
theorem dX6_common_1 : decode cX6_common 1 = .ok (.invokestatic 118, 3) := by decide +kernel
theorem dX6_common_4 : decode cX6_common 4 = .ok (.lstore 4, 2) := by decide +kernel
theorem dX6_common_6 : decode cX6_common 6 = .ok (.lload_n 2, 1) := by decide +kernel
theorem dX6_common_7 : decode cX6_common 7 = .ok (.invokestatic 118, 3) := by decide +kernel
theorem dX6_common_10 : decode cX6_common 10 = .ok (.lstore 6, 2) := by decide +kernel
theorem dX6_common_12 : decode cX6_common 12 = .ok (.lload 6, 2) := by decide +kernel
theorem dX6_common_14 : decode cX6_common 14 = .ok (.lconst 0, 1) := by decide +kernel
theorem dX6_common_15 : decode cX6_common 15 = .ok (.lcmp, 1) := by decide +kernel
theorem dX6_common_16 : decode cX6_common 16 = .ok (.ifCond .eq 21, 3) := by decide +kernel
theorem dX6_common_19 : decode cX6_common 19 = .ok (.lload 4, 2) := by decide +kernel
theorem dX6_common_21 : decode cX6_common 21 = .ok (.lload 6, 2) := by decide +kernel
theorem dX6_common_23 : decode cX6_common 23 = .ok (.lrem, 1) := by decide +kernel
theorem dX6_common_24 : decode cX6_common 24 = .ok (.lstore 8, 2) := by decide +kernel
theorem dX6_common_26 : decode cX6_common 26 = .ok (.lload 6, 2) := by decide +kernel
theorem dX6_common_28 : decode cX6_common 28 = .ok (.lstore 4, 2) := by decide +kernel
theorem dX6_common_30 : decode cX6_common 30 = .ok (.lload 8, 2) := by decide +kernel
theorem dX6_common_32 : decode cX6_common 32 = .ok (.lstore 6, 2) := by decide +kernel
theorem dX6_common_34 : decode cX6_common 34 = .ok (.goto (-22), 3) := by decide +kernel
theorem dX6_common_37 : decode cX6_common 37 = .ok (.lload 4, 2) := by decide +kernel
theorem dX6_common_39 : decode cX6_common 39 = .ok (.lreturn, 1) := by decide +kernel
theorem dX6_part_0 : decode cX6_part 0 = .ok (.lload_n 0, 1) := by decide +kernel
theorem dX6_part_1 : decode cX6_part 1 = .ok (.lload_n 2, 1) := by decide +kernel
theorem dX6_part_2 : decode cX6_part 2 = .ok (.invokestatic 124, 3) := by decide +kernel
theorem dX6_part_5 : decode cX6_part 5 = .ok (.lstore 5, 2) := by decide +kernel
theorem dX6_part_7 : decode cX6_part 7 = .ok (.iload 4, 2) := by decide +kernel
theorem dX6_part_9 : decode cX6_part 9 = .ok (.ifCond .ne 10, 3) := by decide +kernel
theorem dX6_part_12 : decode cX6_part 12 = .ok (.lload_n 0, 1) := by decide +kernel
theorem dX6_part_13 : decode cX6_part 13 = .ok (.lload 5, 2) := by decide +kernel
theorem dX6_part_15 : decode cX6_part 15 = .ok (.ldiv, 1) := by decide +kernel
theorem dX6_part_16 : decode cX6_part 16 = .ok (.goto 7, 3) := by decide +kernel
theorem dX6_part_19 : decode cX6_part 19 = .ok (.lload_n 2, 1) := by decide +kernel
theorem dX6_part_20 : decode cX6_part 20 = .ok (.lload 5, 2) := by decide +kernel
theorem dX6_part_22 : decode cX6_part 22 = .ok (.ldiv, 1) := by decide +kernel
theorem dX6_part_23 : decode cX6_part 23 = .ok (.lreturn, 1) := by decide +kernel
theorem dX6_price_0 : decode cX6_price 0 = .ok (.aload_n 0, 1) := by decide +kernel
theorem dX6_price_1 : decode cX6_price 1 = .ok (.iconst 0, 1) := by decide +kernel
theorem dX6_price_2 : decode cX6_price 2 = .ok (.putfield 63, 3) := by decide +kernel
theorem dX6_price_5 : decode cX6_price 5 = .ok (.aload_n 0, 1) := by decide +kernel
theorem dX6_price_6 : decode cX6_price 6 = .ok (.iload_n 1, 1) := by decide +kernel
theorem dX6_price_7 : decode cX6_price 7 = .ok (.invokevirtual 81, 3) := by decide +kernel
theorem dX6_price_10 : decode cX6_price 10 = .ok (.ifCond .eq 27, 3) := by decide +kernel
theorem dX6_price_13 : decode cX6_price 13 = .ok (.iload_n 2, 1) := by decide +kernel
theorem dX6_price_14 : decode cX6_price 14 = .ok (.iconst 0, 1) := by decide +kernel
theorem dX6_price_15 : decode cX6_price 15 = .ok (.iconst 1, 1) := by decide +kernel
theorem dX6_price_16 : decode cX6_price 16 = .ok (.invokestatic 77, 3) := by decide +kernel
theorem dX6_price_19 : decode cX6_price 19 = .ok (.ifCond .eq 18, 3) := by decide +kernel
theorem dX6_price_22 : decode cX6_price 22 = .ok (.aload_n 0, 1) := by decide +kernel
theorem dX6_price_23 : decode cX6_price 23 = .ok (.aload_n 0, 1) := by decide +kernel
theorem dX6_price_24 : decode cX6_price 24 = .ok (.invokevirtual 100, 3) := by decide +kernel
theorem dX6_price_27 : decode cX6_price 27 = .ok (.invokevirtual 88, 3) := by decide +kernel
theorem dX6_price_30 : decode cX6_price 30 = .ok (.iload_n 1, 1) := by decide +kernel
theorem dX6_price_31 : decode cX6_price 31 = .ok (.ishr, 1) := by decide +kernel
theorem dX6_price_32 : decode cX6_price 32 = .ok (.iconst 1, 1) := by decide +kernel
theorem dX6_price_33 : decode cX6_price 33 = .ok (.iand, 1) := by decide +kernel
theorem dX6_price_34 : decode cX6_price 34 = .ok (.ifCond .ne 7, 3) := by decide +kernel
theorem dX6_price_37 : decode cX6_price 37 = .ok (.ldc2_w 128, 3) := by decide +kernel
theorem dX6_price_40 : decode cX6_price 40 = .ok (.lreturn, 1) := by decide +kernel
theorem dX6_price_41 : decode cX6_price 41 = .ok (.aload_n 0, 1) := by decide +kernel
theorem dX6_price_42 : decode cX6_price 42 = .ok (.invokevirtual 130, 3) := by decide +kernel
theorem dX6_price_45 : decode cX6_price 45 = .ok (.aload_n 0, 1) := by decide +kernel
theorem dX6_price_46 : decode cX6_price 46 = .ok (.getfield 51, 3) := by decide +kernel
theorem dX6_price_49 : decode cX6_price 49 = .ok (.iload_n 1, 1) := by decide +kernel
theorem dX6_price_50 : decode cX6_price 50 = .ok (.laload, 1) := by decide +kernel
theorem dX6_price_51 : decode cX6_price 51 = .ok (.aload_n 0, 1) := by decide +kernel
theorem dX6_price_52 : decode cX6_price 52 = .ok (.getfield 114, 3) := by decide +kernel
theorem dX6_price_55 : decode cX6_price 55 = .ok (.iload_n 2, 1) := by decide +kernel
theorem dX6_price_56 : decode cX6_price 56 = .ok (.invokestatic 133, 3) := by decide +kernel
theorem dX6_price_59 : decode cX6_price 59 = .ok (.lreturn, 1) := by decide +kernel
theorem dX6_bills_0 : decode cX6_bills 0 = .ok (.aload_n 0, 1) := by decide +kernel
theorem dX6_bills_1 : decode cX6_bills 1 = .ok (.aload_n 0, 1) := by decide +kernel
theorem dX6_bills_2 : decode cX6_bills 2 = .ok (.invokevirtual 100, 3) := by decide +kernel
theorem dX6_bills_5 : decode cX6_bills 5 = .ok (.putfield 137, 3) := by decide +kernel
theorem dX6_bills_8 : decode cX6_bills 8 = .ok (.iconst 0, 1) := by decide +kernel
theorem dX6_bills_9 : decode cX6_bills 9 = .ok (.istore_n 2, 1) := by decide +kernel
theorem dX6_bills_10 : decode cX6_bills 10 = .ok (.iload_n 2, 1) := by decide +kernel
theorem dX6_bills_11 : decode cX6_bills 11 = .ok (.aload_n 0, 1) := by decide +kernel
theorem dX6_bills_12 : decode cX6_bills 12 = .ok (.getfield 70, 3) := by decide +kernel
theorem dX6_bills_15 : decode cX6_bills 15 = .ok (.if_icmp .ge 16, 3) := by decide +kernel
theorem dX6_bills_18 : decode cX6_bills 18 = .ok (.aload_n 0, 1) := by decide +kernel
theorem dX6_bills_19 : decode cX6_bills 19 = .ok (.getfield 54, 3) := by decide +kernel
theorem dX6_bills_22 : decode cX6_bills 22 = .ok (.iload_n 2, 1) := by decide +kernel
theorem dX6_bills_23 : decode cX6_bills 23 = .ok (.lconst 0, 1) := by decide +kernel
theorem dX6_bills_24 : decode cX6_bills 24 = .ok (.lastore, 1) := by decide +kernel
theorem dX6_bills_25 : decode cX6_bills 25 = .ok (.iinc 2 1, 3) := by decide +kernel
theorem dX6_bills_28 : decode cX6_bills 28 = .ok (.goto (-18), 3) := by decide +kernel
theorem dX6_bills_31 : decode cX6_bills 31 = .ok (.aload_n 0, 1) := by decide +kernel
theorem dX6_bills_32 : decode cX6_bills 32 = .ok (.lconst 1, 1) := by decide +kernel
theorem dX6_bills_33 : decode cX6_bills 33 = .ok (.putfield 140, 3) := by decide +kernel
theorem dX6_bills_36 : decode cX6_bills 36 = .ok (.iload_n 1, 1) := by decide +kernel
theorem dX6_bills_37 : decode cX6_bills 37 = .ok (.ifCond .ne 87, 3) := by decide +kernel
theorem dX6_bills_40 : decode cX6_bills 40 = .ok (.aload_n 0, 1) := by decide +kernel
theorem dX6_bills_41 : decode cX6_bills 41 = .ok (.invokevirtual 130, 3) := by decide +kernel
theorem dX6_bills_44 : decode cX6_bills 44 = .ok (.aload_n 0, 1) := by decide +kernel
theorem dX6_bills_45 : decode cX6_bills 45 = .ok (.aload_n 0, 1) := by decide +kernel
theorem dX6_bills_46 : decode cX6_bills 46 = .ok (.getfield 114, 3) := by decide +kernel
theorem dX6_bills_49 : decode cX6_bills 49 = .ok (.putfield 140, 3) := by decide +kernel
theorem dX6_bills_52 : decode cX6_bills 52 = .ok (.iconst 0, 1) := by decide +kernel
theorem dX6_bills_53 : decode cX6_bills 53 = .ok (.istore_n 2, 1) := by decide +kernel
theorem dX6_bills_54 : decode cX6_bills 54 = .ok (.iload_n 2, 1) := by decide +kernel
theorem dX6_bills_55 : decode cX6_bills 55 = .ok (.aload_n 0, 1) := by decide +kernel
theorem dX6_bills_56 : decode cX6_bills 56 = .ok (.getfield 70, 3) := by decide +kernel
theorem dX6_bills_59 : decode cX6_bills 59 = .ok (.if_icmp .ge 62, 3) := by decide +kernel
theorem dX6_bills_62 : decode cX6_bills 62 = .ok (.iconst 0, 1) := by decide +kernel
theorem dX6_bills_63 : decode cX6_bills 63 = .ok (.istore_n 3, 1) := by decide +kernel
theorem dX6_bills_64 : decode cX6_bills 64 = .ok (.iload_n 3, 1) := by decide +kernel
theorem dX6_bills_65 : decode cX6_bills 65 = .ok (.aload_n 0, 1) := by decide +kernel
theorem dX6_bills_66 : decode cX6_bills 66 = .ok (.getfield 67, 3) := by decide +kernel
theorem dX6_bills_69 : decode cX6_bills 69 = .ok (.if_icmp .ge 46, 3) := by decide +kernel
theorem dX6_bills_72 : decode cX6_bills 72 = .ok (.aload_n 0, 1) := by decide +kernel
theorem dX6_bills_73 : decode cX6_bills 73 = .ok (.getfield 28, 3) := by decide +kernel
theorem dX6_bills_76 : decode cX6_bills 76 = .ok (.iload_n 2, 1) := by decide +kernel
theorem dX6_bills_77 : decode cX6_bills 77 = .ok (.baload, 1) := by decide +kernel
theorem dX6_bills_78 : decode cX6_bills 78 = .ok (.ifCond .eq 31, 3) := by decide +kernel
theorem dX6_bills_81 : decode cX6_bills 81 = .ok (.aload_n 0, 1) := by decide +kernel
theorem dX6_bills_82 : decode cX6_bills 82 = .ok (.getfield 54, 3) := by decide +kernel
theorem dX6_bills_85 : decode cX6_bills 85 = .ok (.iload_n 2, 1) := by decide +kernel
theorem dX6_bills_86 : decode cX6_bills 86 = .ok (.dup2, 1) := by decide +kernel
theorem dX6_bills_87 : decode cX6_bills 87 = .ok (.laload, 1) := by decide +kernel
theorem dX6_bills_88 : decode cX6_bills 88 = .ok (.aload_n 0, 1) := by decide +kernel
theorem dX6_bills_89 : decode cX6_bills 89 = .ok (.getfield 16, 3) := by decide +kernel
theorem dX6_bills_92 : decode cX6_bills 92 = .ok (.bipush 8, 2) := by decide +kernel
theorem dX6_bills_94 : decode cX6_bills 94 = .ok (.iload_n 3, 1) := by decide +kernel
theorem dX6_bills_95 : decode cX6_bills 95 = .ok (.imul, 1) := by decide +kernel
theorem dX6_bills_96 : decode cX6_bills 96 = .ok (.iload_n 2, 1) := by decide +kernel
theorem dX6_bills_97 : decode cX6_bills 97 = .ok (.iadd, 1) := by decide +kernel
theorem dX6_bills_98 : decode cX6_bills 98 = .ok (.iaload, 1) := by decide +kernel
theorem dX6_bills_99 : decode cX6_bills 99 = .ok (.i2l, 1) := by decide +kernel
theorem dX6_bills_100 : decode cX6_bills 100 = .ok (.aload_n 0, 1) := by decide +kernel
theorem dX6_bills_101 : decode cX6_bills 101 = .ok (.getfield 51, 3) := by decide +kernel
theorem dX6_bills_104 : decode cX6_bills 104 = .ok (.iload_n 3, 1) := by decide +kernel
theorem dX6_bills_105 : decode cX6_bills 105 = .ok (.laload, 1) := by decide +kernel
theorem dX6_bills_106 : decode cX6_bills 106 = .ok (.lmul, 1) := by decide +kernel
theorem dX6_bills_107 : decode cX6_bills 107 = .ok (.ladd, 1) := by decide +kernel
theorem dX6_bills_108 : decode cX6_bills 108 = .ok (.lastore, 1) := by decide +kernel
theorem dX6_bills_109 : decode cX6_bills 109 = .ok (.iinc 3 1, 3) := by decide +kernel
theorem dX6_bills_112 : decode cX6_bills 112 = .ok (.goto (-48), 3) := by decide +kernel
theorem dX6_bills_115 : decode cX6_bills 115 = .ok (.iinc 2 1, 3) := by decide +kernel
theorem dX6_bills_118 : decode cX6_bills 118 = .ok (.goto (-64), 3) := by decide +kernel
theorem dX6_bills_121 : decode cX6_bills 121 = .ok (.goto 178, 3) := by decide +kernel
theorem dX6_bills_124 : decode cX6_bills 124 = .ok (.iload_n 1, 1) := by decide +kernel
theorem dX6_bills_125 : decode cX6_bills 125 = .ok (.iconst 1, 1) := by decide +kernel
theorem dX6_bills_126 : decode cX6_bills 126 = .ok (.if_icmp .ne 122, 3) := by decide +kernel
theorem dX6_bills_129 : decode cX6_bills 129 = .ok (.lconst 0, 1) := by decide +kernel
theorem dX6_bills_130 : decode cX6_bills 130 = .ok (.lstore_n 2, 1) := by decide +kernel
theorem dX6_bills_131 : decode cX6_bills 131 = .ok (.iconst 0, 1) := by decide +kernel
theorem dX6_bills_132 : decode cX6_bills 132 = .ok (.istore 4, 2) := by decide +kernel
theorem dX6_bills_134 : decode cX6_bills 134 = .ok (.iload 4, 2) := by decide +kernel
theorem dX6_bills_136 : decode cX6_bills 136 = .ok (.aload_n 0, 1) := by decide +kernel
theorem dX6_bills_137 : decode cX6_bills 137 = .ok (.getfield 70, 3) := by decide +kernel
theorem dX6_bills_140 : decode cX6_bills 140 = .ok (.if_icmp .ge 35, 3) := by decide +kernel
theorem dX6_bills_143 : decode cX6_bills 143 = .ok (.lload_n 2, 1) := by decide +kernel
theorem dX6_bills_144 : decode cX6_bills 144 = .ok (.aload_n 0, 1) := by decide +kernel
theorem dX6_bills_145 : decode cX6_bills 145 = .ok (.getfield 28, 3) := by decide +kernel
theorem dX6_bills_148 : decode cX6_bills 148 = .ok (.iload 4, 2) := by decide +kernel
theorem dX6_bills_150 : decode cX6_bills 150 = .ok (.baload, 1) := by decide +kernel
theorem dX6_bills_151 : decode cX6_bills 151 = .ok (.ifCond .eq 15, 3) := by decide +kernel
theorem dX6_bills_154 : decode cX6_bills 154 = .ok (.aload_n 0, 1) := by decide +kernel
theorem dX6_bills_155 : decode cX6_bills 155 = .ok (.iconst 1, 1) := by decide +kernel
theorem dX6_bills_156 : decode cX6_bills 156 = .ok (.iload 4, 2) := by decide +kernel
theorem dX6_bills_158 : decode cX6_bills 158 = .ok (.ishl, 1) := by decide +kernel
theorem dX6_bills_159 : decode cX6_bills 159 = .ok (.invokevirtual 104, 3) := by decide +kernel
theorem dX6_bills_162 : decode cX6_bills 162 = .ok (.i2l, 1) := by decide +kernel
theorem dX6_bills_163 : decode cX6_bills 163 = .ok (.goto 4, 3) := by decide +kernel
theorem dX6_bills_166 : decode cX6_bills 166 = .ok (.lconst 0, 1) := by decide +kernel
theorem dX6_bills_167 : decode cX6_bills 167 = .ok (.ladd, 1) := by decide +kernel
theorem dX6_bills_168 : decode cX6_bills 168 = .ok (.lstore_n 2, 1) := by decide +kernel
theorem dX6_bills_169 : decode cX6_bills 169 = .ok (.iinc 4 1, 3) := by decide +kernel
theorem dX6_bills_172 : decode cX6_bills 172 = .ok (.goto (-38), 3) := by decide +kernel
theorem dX6_bills_175 : decode cX6_bills 175 = .ok (.lload_n 2, 1) := by decide +kernel
theorem dX6_bills_176 : decode cX6_bills 176 = .ok (.lconst 0, 1) := by decide +kernel
theorem dX6_bills_177 : decode cX6_bills 177 = .ok (.lcmp, 1) := by decide +kernel
theorem dX6_bills_178 : decode cX6_bills 178 = .ok (.ifCond .ne 4, 3) := by decide +kernel
theorem dX6_bills_181 : decode cX6_bills 181 = .ok (.return_, 1) := by decide +kernel
theorem dX6_bills_182 : decode cX6_bills 182 = .ok (.aload_n 0, 1) := by decide +kernel
theorem dX6_bills_183 : decode cX6_bills 183 = .ok (.lload_n 2, 1) := by decide +kernel
theorem dX6_bills_184 : decode cX6_bills 184 = .ok (.putfield 140, 3) := by decide +kernel
theorem dX6_bills_187 : decode cX6_bills 187 = .ok (.iconst 0, 1) := by decide +kernel
theorem dX6_bills_188 : decode cX6_bills 188 = .ok (.istore 4, 2) := by decide +kernel
theorem dX6_bills_190 : decode cX6_bills 190 = .ok (.iload 4, 2) := by decide +kernel
theorem dX6_bills_192 : decode cX6_bills 192 = .ok (.aload_n 0, 1) := by decide +kernel
theorem dX6_bills_193 : decode cX6_bills 193 = .ok (.getfield 70, 3) := by decide +kernel
theorem dX6_bills_196 : decode cX6_bills 196 = .ok (.if_icmp .ge 49, 3) := by decide +kernel
theorem dX6_bills_199 : decode cX6_bills 199 = .ok (.aload_n 0, 1) := by decide +kernel
theorem dX6_bills_200 : decode cX6_bills 200 = .ok (.getfield 54, 3) := by decide +kernel
theorem dX6_bills_203 : decode cX6_bills 203 = .ok (.iload 4, 2) := by decide +kernel
theorem dX6_bills_205 : decode cX6_bills 205 = .ok (.aload_n 0, 1) := by decide +kernel
theorem dX6_bills_206 : decode cX6_bills 206 = .ok (.getfield 28, 3) := by decide +kernel
theorem dX6_bills_209 : decode cX6_bills 209 = .ok (.iload 4, 2) := by decide +kernel
theorem dX6_bills_211 : decode cX6_bills 211 = .ok (.baload, 1) := by decide +kernel
theorem dX6_bills_212 : decode cX6_bills 212 = .ok (.ifCond .eq 25, 3) := by decide +kernel
theorem dX6_bills_215 : decode cX6_bills 215 = .ok (.aload_n 0, 1) := by decide +kernel
theorem dX6_bills_216 : decode cX6_bills 216 = .ok (.aload_n 0, 1) := by decide +kernel
theorem dX6_bills_217 : decode cX6_bills 217 = .ok (.getfield 137, 3) := by decide +kernel
theorem dX6_bills_220 : decode cX6_bills 220 = .ok (.invokevirtual 104, 3) := by decide +kernel
theorem dX6_bills_223 : decode cX6_bills 223 = .ok (.i2l, 1) := by decide +kernel
theorem dX6_bills_224 : decode cX6_bills 224 = .ok (.aload_n 0, 1) := by decide +kernel
theorem dX6_bills_225 : decode cX6_bills 225 = .ok (.iconst 1, 1) := by decide +kernel
theorem dX6_bills_226 : decode cX6_bills 226 = .ok (.iload 4, 2) := by decide +kernel
theorem dX6_bills_228 : decode cX6_bills 228 = .ok (.ishl, 1) := by decide +kernel
theorem dX6_bills_229 : decode cX6_bills 229 = .ok (.invokevirtual 104, 3) := by decide +kernel
theorem dX6_bills_232 : decode cX6_bills 232 = .ok (.i2l, 1) := by decide +kernel
theorem dX6_bills_233 : decode cX6_bills 233 = .ok (.lmul, 1) := by decide +kernel
theorem dX6_bills_234 : decode cX6_bills 234 = .ok (.goto 4, 3) := by decide +kernel
theorem dX6_bills_237 : decode cX6_bills 237 = .ok (.lconst 0, 1) := by decide +kernel
theorem dX6_bills_238 : decode cX6_bills 238 = .ok (.lastore, 1) := by decide +kernel
theorem dX6_bills_239 : decode cX6_bills 239 = .ok (.iinc 4 1, 3) := by decide +kernel
theorem dX6_bills_242 : decode cX6_bills 242 = .ok (.goto (-52), 3) := by decide +kernel
theorem dX6_bills_245 : decode cX6_bills 245 = .ok (.goto 54, 3) := by decide +kernel
theorem dX6_bills_248 : decode cX6_bills 248 = .ok (.iconst 0, 1) := by decide +kernel
theorem dX6_bills_249 : decode cX6_bills 249 = .ok (.istore_n 2, 1) := by decide +kernel
theorem dX6_bills_250 : decode cX6_bills 250 = .ok (.iload_n 2, 1) := by decide +kernel
theorem dX6_bills_251 : decode cX6_bills 251 = .ok (.sipush 256, 3) := by decide +kernel
theorem dX6_bills_254 : decode cX6_bills 254 = .ok (.if_icmp .ge 35, 3) := by decide +kernel
theorem dX6_bills_257 : decode cX6_bills 257 = .ok (.aload_n 0, 1) := by decide +kernel
theorem dX6_bills_258 : decode cX6_bills 258 = .ok (.getfield 57, 3) := by decide +kernel
theorem dX6_bills_261 : decode cX6_bills 261 = .ok (.iload_n 2, 1) := by decide +kernel
theorem dX6_bills_262 : decode cX6_bills 262 = .ok (.iload_n 2, 1) := by decide +kernel
theorem dX6_bills_263 : decode cX6_bills 263 = .ok (.aload_n 0, 1) := by decide +kernel
theorem dX6_bills_264 : decode cX6_bills 264 = .ok (.getfield 137, 3) := by decide +kernel
theorem dX6_bills_267 : decode cX6_bills 267 = .ok (.iconst (-1), 1) := by decide +kernel
theorem dX6_bills_268 : decode cX6_bills 268 = .ok (.ixor, 1) := by decide +kernel
theorem dX6_bills_269 : decode cX6_bills 269 = .ok (.iand, 1) := by decide +kernel
theorem dX6_bills_270 : decode cX6_bills 270 = .ok (.ifCond .ne 11, 3) := by decide +kernel
theorem dX6_bills_273 : decode cX6_bills 273 = .ok (.aload_n 0, 1) := by decide +kernel
theorem dX6_bills_274 : decode cX6_bills 274 = .ok (.iload_n 2, 1) := by decide +kernel
theorem dX6_bills_275 : decode cX6_bills 275 = .ok (.invokevirtual 104, 3) := by decide +kernel
theorem dX6_bills_278 : decode cX6_bills 278 = .ok (.goto 4, 3) := by decide +kernel
theorem dX6_bills_281 : decode cX6_bills 281 = .ok (.iconst 0, 1) := by decide +kernel
theorem dX6_bills_282 : decode cX6_bills 282 = .ok (.iastore, 1) := by decide +kernel
theorem dX6_bills_283 : decode cX6_bills 283 = .ok (.iinc 2 1, 3) := by decide +kernel
end
section
theorem dX6_bills_286 : decode cX6_bills 286 = .ok (.goto (-36), 3) := by decide +kernel
theorem dX6_bills_289 : decode cX6_bills 289 = .ok (.aload_n 0, 1) := by decide +kernel
theorem dX6_bills_290 : decode cX6_bills 290 = .ok (.lconst 0, 1) := by decide +kernel
theorem dX6_bills_291 : decode cX6_bills 291 = .ok (.putfield 140, 3) := by decide +kernel
theorem dX6_bills_294 : decode cX6_bills 294 = .ok (.aload_n 0, 1) := by decide +kernel
theorem dX6_bills_295 : decode cX6_bills 295 = .ok (.iconst 0, 1) := by decide +kernel
theorem dX6_bills_296 : decode cX6_bills 296 = .ok (.invokevirtual 143, 3) := by decide +kernel
theorem dX6_bills_299 : decode cX6_bills 299 = .ok (.return_, 1) := by decide +kernel
theorem dX6_comes_0 : decode cX6_comes 0 = .ok (.iload_n 1, 1) := by decide +kernel
theorem dX6_comes_1 : decode cX6_comes 1 = .ok (.aload_n 0, 1) := by decide +kernel
theorem dX6_comes_2 : decode cX6_comes 2 = .ok (.getfield 137, 3) := by decide +kernel
theorem dX6_comes_5 : decode cX6_comes 5 = .ok (.if_icmp .ne 14, 3) := by decide +kernel
theorem dX6_comes_8 : decode cX6_comes 8 = .ok (.aload_n 0, 1) := by decide +kernel
theorem dX6_comes_9 : decode cX6_comes 9 = .ok (.dup, 1) := by decide +kernel
theorem dX6_comes_10 : decode cX6_comes 10 = .ok (.getfield 140, 3) := by decide +kernel
theorem dX6_comes_13 : decode cX6_comes 13 = .ok (.lconst 1, 1) := by decide +kernel
theorem dX6_comes_14 : decode cX6_comes 14 = .ok (.ladd, 1) := by decide +kernel
theorem dX6_comes_15 : decode cX6_comes 15 = .ok (.putfield 140, 3) := by decide +kernel
theorem dX6_comes_18 : decode cX6_comes 18 = .ok (.return_, 1) := by decide +kernel
theorem dX6_comes_19 : decode cX6_comes 19 = .ok (.iconst 0, 1) := by decide +kernel
theorem dX6_comes_20 : decode cX6_comes 20 = .ok (.istore_n 2, 1) := by decide +kernel
theorem dX6_comes_21 : decode cX6_comes 21 = .ok (.iload_n 2, 1) := by decide +kernel
theorem dX6_comes_22 : decode cX6_comes 22 = .ok (.aload_n 0, 1) := by decide +kernel
theorem dX6_comes_23 : decode cX6_comes 23 = .ok (.getfield 70, 3) := by decide +kernel
theorem dX6_comes_26 : decode cX6_comes 26 = .ok (.if_icmp .ge 75, 3) := by decide +kernel
theorem dX6_comes_29 : decode cX6_comes 29 = .ok (.aload_n 0, 1) := by decide +kernel
theorem dX6_comes_30 : decode cX6_comes 30 = .ok (.getfield 137, 3) := by decide +kernel
theorem dX6_comes_33 : decode cX6_comes 33 = .ok (.iload_n 1, 1) := by decide +kernel
theorem dX6_comes_34 : decode cX6_comes 34 = .ok (.iconst (-1), 1) := by decide +kernel
theorem dX6_comes_35 : decode cX6_comes 35 = .ok (.ixor, 1) := by decide +kernel
theorem dX6_comes_36 : decode cX6_comes 36 = .ok (.iand, 1) := by decide +kernel
theorem dX6_comes_37 : decode cX6_comes 37 = .ok (.iload_n 2, 1) := by decide +kernel
theorem dX6_comes_38 : decode cX6_comes 38 = .ok (.ishr, 1) := by decide +kernel
theorem dX6_comes_39 : decode cX6_comes 39 = .ok (.iconst 1, 1) := by decide +kernel
theorem dX6_comes_40 : decode cX6_comes 40 = .ok (.iand, 1) := by decide +kernel
theorem dX6_comes_41 : decode cX6_comes 41 = .ok (.ifCond .ne 6, 3) := by decide +kernel
theorem dX6_comes_44 : decode cX6_comes 44 = .ok (.goto 51, 3) := by decide +kernel
theorem dX6_comes_47 : decode cX6_comes 47 = .ok (.aload_n 0, 1) := by decide +kernel
theorem dX6_comes_48 : decode cX6_comes 48 = .ok (.getfield 140, 3) := by decide +kernel
theorem dX6_comes_51 : decode cX6_comes 51 = .ok (.lstore_n 3, 1) := by decide +kernel
theorem dX6_comes_52 : decode cX6_comes 52 = .ok (.aload_n 0, 1) := by decide +kernel
theorem dX6_comes_53 : decode cX6_comes 53 = .ok (.iload_n 1, 1) := by decide +kernel
theorem dX6_comes_54 : decode cX6_comes 54 = .ok (.iconst 1, 1) := by decide +kernel
theorem dX6_comes_55 : decode cX6_comes 55 = .ok (.iload_n 2, 1) := by decide +kernel
theorem dX6_comes_56 : decode cX6_comes 56 = .ok (.ishl, 1) := by decide +kernel
theorem dX6_comes_57 : decode cX6_comes 57 = .ok (.ior, 1) := by decide +kernel
theorem dX6_comes_58 : decode cX6_comes 58 = .ok (.invokevirtual 143, 3) := by decide +kernel
theorem dX6_comes_61 : decode cX6_comes 61 = .ok (.aload_n 0, 1) := by decide +kernel
theorem dX6_comes_62 : decode cX6_comes 62 = .ok (.getfield 54, 3) := by decide +kernel
theorem dX6_comes_65 : decode cX6_comes 65 = .ok (.iload_n 2, 1) := by decide +kernel
theorem dX6_comes_66 : decode cX6_comes 66 = .ok (.dup2, 1) := by decide +kernel
theorem dX6_comes_67 : decode cX6_comes 67 = .ok (.laload, 1) := by decide +kernel
theorem dX6_comes_68 : decode cX6_comes 68 = .ok (.aload_n 0, 1) := by decide +kernel
theorem dX6_comes_69 : decode cX6_comes 69 = .ok (.getfield 140, 3) := by decide +kernel
theorem dX6_comes_72 : decode cX6_comes 72 = .ok (.lload_n 3, 1) := by decide +kernel
theorem dX6_comes_73 : decode cX6_comes 73 = .ok (.lsub, 1) := by decide +kernel
theorem dX6_comes_74 : decode cX6_comes 74 = .ok (.aload_n 0, 1) := by decide +kernel
theorem dX6_comes_75 : decode cX6_comes 75 = .ok (.getfield 57, 3) := by decide +kernel
theorem dX6_comes_78 : decode cX6_comes 78 = .ok (.iload_n 1, 1) := by decide +kernel
theorem dX6_comes_79 : decode cX6_comes 79 = .ok (.iconst 1, 1) := by decide +kernel
theorem dX6_comes_80 : decode cX6_comes 80 = .ok (.iload_n 2, 1) := by decide +kernel
theorem dX6_comes_81 : decode cX6_comes 81 = .ok (.ishl, 1) := by decide +kernel
theorem dX6_comes_82 : decode cX6_comes 82 = .ok (.ior, 1) := by decide +kernel
theorem dX6_comes_83 : decode cX6_comes 83 = .ok (.iaload, 1) := by decide +kernel
theorem dX6_comes_84 : decode cX6_comes 84 = .ok (.aload_n 0, 1) := by decide +kernel
theorem dX6_comes_85 : decode cX6_comes 85 = .ok (.getfield 57, 3) := by decide +kernel
theorem dX6_comes_88 : decode cX6_comes 88 = .ok (.iload_n 1, 1) := by decide +kernel
theorem dX6_comes_89 : decode cX6_comes 89 = .ok (.iaload, 1) := by decide +kernel
theorem dX6_comes_90 : decode cX6_comes 90 = .ok (.isub, 1) := by decide +kernel
theorem dX6_comes_91 : decode cX6_comes 91 = .ok (.i2l, 1) := by decide +kernel
theorem dX6_comes_92 : decode cX6_comes 92 = .ok (.lmul, 1) := by decide +kernel
theorem dX6_comes_93 : decode cX6_comes 93 = .ok (.ladd, 1) := by decide +kernel
theorem dX6_comes_94 : decode cX6_comes 94 = .ok (.lastore, 1) := by decide +kernel
theorem dX6_comes_95 : decode cX6_comes 95 = .ok (.iinc 2 1, 3) := by decide +kernel
theorem dX6_comes_98 : decode cX6_comes 98 = .ok (.goto (-77), 3) := by decide +kernel
theorem dX6_comes_101 : decode cX6_comes 101 = .ok (.return_, 1) := by decide +kernel
theorem dX6_isRule_0 : decode cX6_isRule 0 = .ok (.iload_n 0, 1) := by decide +kernel
theorem dX6_isRule_1 : decode cX6_isRule 1 = .ok (.iconst 0, 1) := by decide +kernel
theorem dX6_isRule_2 : decode cX6_isRule 2 = .ok (.iconst 2, 1) := by decide +kernel
theorem dX6_isRule_3 : decode cX6_isRule 3 = .ok (.invokestatic 77, 3) := by decide +kernel
theorem dX6_isRule_6 : decode cX6_isRule 6 = .ok (.ireturn, 1) := by decide +kernel
theorem dX6_bill_0 : decode cX6_bill 0 = .ok (.aload_n 0, 1) := by decide +kernel
theorem dX6_bill_1 : decode cX6_bill 1 = .ok (.iconst 0, 1) := by decide +kernel
theorem dX6_bill_2 : decode cX6_bill 2 = .ok (.putfield 63, 3) := by decide +kernel
theorem dX6_bill_5 : decode cX6_bill 5 = .ok (.iload_n 1, 1) := by decide +kernel
theorem dX6_bill_6 : decode cX6_bill 6 = .ok (.invokestatic 147, 3) := by decide +kernel
theorem dX6_bill_9 : decode cX6_bill 9 = .ok (.ifCond .eq 20, 3) := by decide +kernel
theorem dX6_bill_12 : decode cX6_bill 12 = .ok (.aload_n 0, 1) := by decide +kernel
theorem dX6_bill_13 : decode cX6_bill 13 = .ok (.iload_n 2, 1) := by decide +kernel
theorem dX6_bill_14 : decode cX6_bill 14 = .ok (.invokevirtual 150, 3) := by decide +kernel
theorem dX6_bill_17 : decode cX6_bill 17 = .ok (.ifCond .eq 12, 3) := by decide +kernel
theorem dX6_bill_20 : decode cX6_bill 20 = .ok (.iload_n 3, 1) := by decide +kernel
theorem dX6_bill_21 : decode cX6_bill 21 = .ok (.iconst 0, 1) := by decide +kernel
theorem dX6_bill_22 : decode cX6_bill 22 = .ok (.iconst 1, 1) := by decide +kernel
theorem dX6_bill_23 : decode cX6_bill 23 = .ok (.invokestatic 77, 3) := by decide +kernel
theorem dX6_bill_26 : decode cX6_bill 26 = .ok (.ifCond .ne 7, 3) := by decide +kernel
theorem dX6_bill_29 : decode cX6_bill 29 = .ok (.ldc2_w 128, 3) := by decide +kernel
theorem dX6_bill_32 : decode cX6_bill 32 = .ok (.lreturn, 1) := by decide +kernel
theorem dX6_bill_33 : decode cX6_bill 33 = .ok (.aload_n 0, 1) := by decide +kernel
theorem dX6_bill_34 : decode cX6_bill 34 = .ok (.iload_n 1, 1) := by decide +kernel
theorem dX6_bill_35 : decode cX6_bill 35 = .ok (.invokevirtual 153, 3) := by decide +kernel
theorem dX6_bill_38 : decode cX6_bill 38 = .ok (.aload_n 0, 1) := by decide +kernel
theorem dX6_bill_39 : decode cX6_bill 39 = .ok (.getfield 54, 3) := by decide +kernel
theorem dX6_bill_42 : decode cX6_bill 42 = .ok (.iload_n 2, 1) := by decide +kernel
theorem dX6_bill_43 : decode cX6_bill 43 = .ok (.laload, 1) := by decide +kernel
theorem dX6_bill_44 : decode cX6_bill 44 = .ok (.aload_n 0, 1) := by decide +kernel
theorem dX6_bill_45 : decode cX6_bill 45 = .ok (.getfield 22, 3) := by decide +kernel
theorem dX6_bill_48 : decode cX6_bill 48 = .ok (.iload_n 2, 1) := by decide +kernel
theorem dX6_bill_49 : decode cX6_bill 49 = .ok (.iaload, 1) := by decide +kernel
theorem dX6_bill_50 : decode cX6_bill 50 = .ok (.i2l, 1) := by decide +kernel
theorem dX6_bill_51 : decode cX6_bill 51 = .ok (.aload_n 0, 1) := by decide +kernel
theorem dX6_bill_52 : decode cX6_bill 52 = .ok (.getfield 140, 3) := by decide +kernel
theorem dX6_bill_55 : decode cX6_bill 55 = .ok (.lmul, 1) := by decide +kernel
theorem dX6_bill_56 : decode cX6_bill 56 = .ok (.ladd, 1) := by decide +kernel
theorem dX6_bill_57 : decode cX6_bill 57 = .ok (.aload_n 0, 1) := by decide +kernel
theorem dX6_bill_58 : decode cX6_bill 58 = .ok (.getfield 140, 3) := by decide +kernel
theorem dX6_bill_61 : decode cX6_bill 61 = .ok (.iload_n 3, 1) := by decide +kernel
theorem dX6_bill_62 : decode cX6_bill 62 = .ok (.invokestatic 133, 3) := by decide +kernel
theorem dX6_bill_65 : decode cX6_bill 65 = .ok (.lreturn, 1) := by decide +kernel
theorem dX6_coinsBy_0 : decode cX6_coinsBy 0 = .ok (.aload_n 0, 1) := by decide +kernel
theorem dX6_coinsBy_1 : decode cX6_coinsBy 1 = .ok (.iload_n 1, 1) := by decide +kernel
theorem dX6_coinsBy_2 : decode cX6_coinsBy 2 = .ok (.invokevirtual 153, 3) := by decide +kernel
theorem dX6_coinsBy_5 : decode cX6_coinsBy 5 = .ok (.aload_n 0, 1) := by decide +kernel
theorem dX6_coinsBy_6 : decode cX6_coinsBy 6 = .ok (.aload_n 0, 1) := by decide +kernel
theorem dX6_coinsBy_7 : decode cX6_coinsBy 7 = .ok (.getfield 137, 3) := by decide +kernel
theorem dX6_coinsBy_10 : decode cX6_coinsBy 10 = .ok (.invokevirtual 104, 3) := by decide +kernel
theorem dX6_coinsBy_13 : decode cX6_coinsBy 13 = .ok (.i2l, 1) := by decide +kernel
theorem dX6_coinsBy_14 : decode cX6_coinsBy 14 = .ok (.lstore_n 2, 1) := by decide +kernel
theorem dX6_coinsBy_15 : decode cX6_coinsBy 15 = .ok (.iconst 0, 1) := by decide +kernel
theorem dX6_coinsBy_16 : decode cX6_coinsBy 16 = .ok (.istore 4, 2) := by decide +kernel
theorem dX6_coinsBy_18 : decode cX6_coinsBy 18 = .ok (.iconst 0, 1) := by decide +kernel
theorem dX6_coinsBy_19 : decode cX6_coinsBy 19 = .ok (.istore 5, 2) := by decide +kernel
theorem dX6_coinsBy_21 : decode cX6_coinsBy 21 = .ok (.iload 5, 2) := by decide +kernel
theorem dX6_coinsBy_23 : decode cX6_coinsBy 23 = .ok (.aload_n 0, 1) := by decide +kernel
theorem dX6_coinsBy_24 : decode cX6_coinsBy 24 = .ok (.getfield 70, 3) := by decide +kernel
theorem dX6_coinsBy_27 : decode cX6_coinsBy 27 = .ok (.if_icmp .ge 78, 3) := by decide +kernel
theorem dX6_coinsBy_30 : decode cX6_coinsBy 30 = .ok (.aload_n 0, 1) := by decide +kernel
theorem dX6_coinsBy_31 : decode cX6_coinsBy 31 = .ok (.getfield 60, 3) := by decide +kernel
theorem dX6_coinsBy_34 : decode cX6_coinsBy 34 = .ok (.iload 5, 2) := by decide +kernel
theorem dX6_coinsBy_36 : decode cX6_coinsBy 36 = .ok (.aload_n 0, 1) := by decide +kernel
theorem dX6_coinsBy_37 : decode cX6_coinsBy 37 = .ok (.getfield 28, 3) := by decide +kernel
theorem dX6_coinsBy_40 : decode cX6_coinsBy 40 = .ok (.iload 5, 2) := by decide +kernel
theorem dX6_coinsBy_42 : decode cX6_coinsBy 42 = .ok (.baload, 1) := by decide +kernel
theorem dX6_coinsBy_43 : decode cX6_coinsBy 43 = .ok (.ifCond .eq 19, 3) := by decide +kernel
theorem dX6_coinsBy_46 : decode cX6_coinsBy 46 = .ok (.aload_n 0, 1) := by decide +kernel
theorem dX6_coinsBy_47 : decode cX6_coinsBy 47 = .ok (.getfield 54, 3) := by decide +kernel
theorem dX6_coinsBy_50 : decode cX6_coinsBy 50 = .ok (.iload 5, 2) := by decide +kernel
theorem dX6_coinsBy_52 : decode cX6_coinsBy 52 = .ok (.laload, 1) := by decide +kernel
theorem dX6_coinsBy_53 : decode cX6_coinsBy 53 = .ok (.aload_n 0, 1) := by decide +kernel
theorem dX6_coinsBy_54 : decode cX6_coinsBy 54 = .ok (.getfield 140, 3) := by decide +kernel
theorem dX6_coinsBy_57 : decode cX6_coinsBy 57 = .ok (.ldiv, 1) := by decide +kernel
theorem dX6_coinsBy_58 : decode cX6_coinsBy 58 = .ok (.l2i, 1) := by decide +kernel
theorem dX6_coinsBy_59 : decode cX6_coinsBy 59 = .ok (.goto 4, 3) := by decide +kernel
theorem dX6_coinsBy_62 : decode cX6_coinsBy 62 = .ok (.iconst 0, 1) := by decide +kernel
theorem dX6_coinsBy_63 : decode cX6_coinsBy 63 = .ok (.iastore, 1) := by decide +kernel
theorem dX6_coinsBy_64 : decode cX6_coinsBy 64 = .ok (.lload_n 2, 1) := by decide +kernel
theorem dX6_coinsBy_65 : decode cX6_coinsBy 65 = .ok (.aload_n 0, 1) := by decide +kernel
theorem dX6_coinsBy_66 : decode cX6_coinsBy 66 = .ok (.getfield 60, 3) := by decide +kernel
theorem dX6_coinsBy_69 : decode cX6_coinsBy 69 = .ok (.iload 5, 2) := by decide +kernel
theorem dX6_coinsBy_71 : decode cX6_coinsBy 71 = .ok (.iaload, 1) := by decide +kernel
theorem dX6_coinsBy_72 : decode cX6_coinsBy 72 = .ok (.i2l, 1) := by decide +kernel
theorem dX6_coinsBy_73 : decode cX6_coinsBy 73 = .ok (.lsub, 1) := by decide +kernel
theorem dX6_coinsBy_74 : decode cX6_coinsBy 74 = .ok (.lstore_n 2, 1) := by decide +kernel
theorem dX6_coinsBy_75 : decode cX6_coinsBy 75 = .ok (.iload 4, 2) := by decide +kernel
theorem dX6_coinsBy_77 : decode cX6_coinsBy 77 = .ok (.ifCond .ne 15, 3) := by decide +kernel
theorem dX6_coinsBy_80 : decode cX6_coinsBy 80 = .ok (.aload_n 0, 1) := by decide +kernel
theorem dX6_coinsBy_81 : decode cX6_coinsBy 81 = .ok (.getfield 54, 3) := by decide +kernel
theorem dX6_coinsBy_84 : decode cX6_coinsBy 84 = .ok (.iload 5, 2) := by decide +kernel
theorem dX6_coinsBy_86 : decode cX6_coinsBy 86 = .ok (.laload, 1) := by decide +kernel
theorem dX6_coinsBy_87 : decode cX6_coinsBy 87 = .ok (.lconst 0, 1) := by decide +kernel
theorem dX6_coinsBy_88 : decode cX6_coinsBy 88 = .ok (.lcmp, 1) := by decide +kernel
theorem dX6_coinsBy_89 : decode cX6_coinsBy 89 = .ok (.ifCond .eq 7, 3) := by decide +kernel
theorem dX6_coinsBy_92 : decode cX6_coinsBy 92 = .ok (.iconst 1, 1) := by decide +kernel
theorem dX6_coinsBy_93 : decode cX6_coinsBy 93 = .ok (.goto 4, 3) := by decide +kernel
theorem dX6_coinsBy_96 : decode cX6_coinsBy 96 = .ok (.iconst 0, 1) := by decide +kernel
theorem dX6_coinsBy_97 : decode cX6_coinsBy 97 = .ok (.istore 4, 2) := by decide +kernel
theorem dX6_coinsBy_99 : decode cX6_coinsBy 99 = .ok (.iinc 5 1, 3) := by decide +kernel
theorem dX6_coinsBy_102 : decode cX6_coinsBy 102 = .ok (.goto (-81), 3) := by decide +kernel
theorem dX6_coinsBy_105 : decode cX6_coinsBy 105 = .ok (.bipush 8, 2) := by decide +kernel
theorem dX6_coinsBy_107 : decode cX6_coinsBy 107 = .ok (.newarray .boolean, 2) := by decide +kernel
theorem dX6_coinsBy_109 : decode cX6_coinsBy 109 = .ok (.astore 5, 2) := by decide +kernel
theorem dX6_coinsBy_111 : decode cX6_coinsBy 111 = .ok (.lload_n 2, 1) := by decide +kernel
theorem dX6_coinsBy_112 : decode cX6_coinsBy 112 = .ok (.lconst 0, 1) := by decide +kernel
theorem dX6_coinsBy_113 : decode cX6_coinsBy 113 = .ok (.lcmp, 1) := by decide +kernel
theorem dX6_coinsBy_114 : decode cX6_coinsBy 114 = .ok (.ifCond .le 109, 3) := by decide +kernel
theorem dX6_coinsBy_117 : decode cX6_coinsBy 117 = .ok (.iload 4, 2) := by decide +kernel
theorem dX6_coinsBy_119 : decode cX6_coinsBy 119 = .ok (.ifCond .eq 104, 3) := by decide +kernel
theorem dX6_coinsBy_122 : decode cX6_coinsBy 122 = .ok (.iconst (-1), 1) := by decide +kernel
theorem dX6_coinsBy_123 : decode cX6_coinsBy 123 = .ok (.istore 6, 2) := by decide +kernel
theorem dX6_coinsBy_125 : decode cX6_coinsBy 125 = .ok (.iconst 0, 1) := by decide +kernel
theorem dX6_coinsBy_126 : decode cX6_coinsBy 126 = .ok (.istore 7, 2) := by decide +kernel
theorem dX6_coinsBy_128 : decode cX6_coinsBy 128 = .ok (.iload 7, 2) := by decide +kernel
theorem dX6_coinsBy_130 : decode cX6_coinsBy 130 = .ok (.aload_n 0, 1) := by decide +kernel
theorem dX6_coinsBy_131 : decode cX6_coinsBy 131 = .ok (.getfield 70, 3) := by decide +kernel
theorem dX6_coinsBy_134 : decode cX6_coinsBy 134 = .ok (.if_icmp .ge 65, 3) := by decide +kernel
theorem dX6_coinsBy_137 : decode cX6_coinsBy 137 = .ok (.aload_n 0, 1) := by decide +kernel
theorem dX6_coinsBy_138 : decode cX6_coinsBy 138 = .ok (.getfield 28, 3) := by decide +kernel
theorem dX6_coinsBy_141 : decode cX6_coinsBy 141 = .ok (.iload 7, 2) := by decide +kernel
theorem dX6_coinsBy_143 : decode cX6_coinsBy 143 = .ok (.baload, 1) := by decide +kernel
theorem dX6_coinsBy_144 : decode cX6_coinsBy 144 = .ok (.ifCond .eq 49, 3) := by decide +kernel
theorem dX6_coinsBy_147 : decode cX6_coinsBy 147 = .ok (.aload 5, 2) := by decide +kernel
theorem dX6_coinsBy_149 : decode cX6_coinsBy 149 = .ok (.iload 7, 2) := by decide +kernel
theorem dX6_coinsBy_151 : decode cX6_coinsBy 151 = .ok (.baload, 1) := by decide +kernel
theorem dX6_coinsBy_152 : decode cX6_coinsBy 152 = .ok (.ifCond .ne 41, 3) := by decide +kernel
theorem dX6_coinsBy_155 : decode cX6_coinsBy 155 = .ok (.iload 6, 2) := by decide +kernel
theorem dX6_coinsBy_157 : decode cX6_coinsBy 157 = .ok (.iconst (-1), 1) := by decide +kernel
theorem dX6_coinsBy_158 : decode cX6_coinsBy 158 = .ok (.if_icmp .eq 31, 3) := by decide +kernel
theorem dX6_coinsBy_161 : decode cX6_coinsBy 161 = .ok (.aload_n 0, 1) := by decide +kernel
theorem dX6_coinsBy_162 : decode cX6_coinsBy 162 = .ok (.getfield 54, 3) := by decide +kernel
theorem dX6_coinsBy_165 : decode cX6_coinsBy 165 = .ok (.iload 7, 2) := by decide +kernel
theorem dX6_coinsBy_167 : decode cX6_coinsBy 167 = .ok (.laload, 1) := by decide +kernel
theorem dX6_coinsBy_168 : decode cX6_coinsBy 168 = .ok (.aload_n 0, 1) := by decide +kernel
theorem dX6_coinsBy_169 : decode cX6_coinsBy 169 = .ok (.getfield 140, 3) := by decide +kernel
theorem dX6_coinsBy_172 : decode cX6_coinsBy 172 = .ok (.lrem, 1) := by decide +kernel
theorem dX6_coinsBy_173 : decode cX6_coinsBy 173 = .ok (.aload_n 0, 1) := by decide +kernel
theorem dX6_coinsBy_174 : decode cX6_coinsBy 174 = .ok (.getfield 54, 3) := by decide +kernel
theorem dX6_coinsBy_177 : decode cX6_coinsBy 177 = .ok (.iload 6, 2) := by decide +kernel
theorem dX6_coinsBy_179 : decode cX6_coinsBy 179 = .ok (.laload, 1) := by decide +kernel
theorem dX6_coinsBy_180 : decode cX6_coinsBy 180 = .ok (.aload_n 0, 1) := by decide +kernel
theorem dX6_coinsBy_181 : decode cX6_coinsBy 181 = .ok (.getfield 140, 3) := by decide +kernel
theorem dX6_coinsBy_184 : decode cX6_coinsBy 184 = .ok (.lrem, 1) := by decide +kernel
theorem dX6_coinsBy_185 : decode cX6_coinsBy 185 = .ok (.lcmp, 1) := by decide +kernel
theorem dX6_coinsBy_186 : decode cX6_coinsBy 186 = .ok (.ifCond .le 7, 3) := by decide +kernel
theorem dX6_coinsBy_189 : decode cX6_coinsBy 189 = .ok (.iload 7, 2) := by decide +kernel
theorem dX6_coinsBy_191 : decode cX6_coinsBy 191 = .ok (.istore 6, 2) := by decide +kernel
theorem dX6_coinsBy_193 : decode cX6_coinsBy 193 = .ok (.iinc 7 1, 3) := by decide +kernel
theorem dX6_coinsBy_196 : decode cX6_coinsBy 196 = .ok (.goto (-68), 3) := by decide +kernel
theorem dX6_coinsBy_199 : decode cX6_coinsBy 199 = .ok (.aload 5, 2) := by decide +kernel
theorem dX6_coinsBy_201 : decode cX6_coinsBy 201 = .ok (.iload 6, 2) := by decide +kernel
theorem dX6_coinsBy_203 : decode cX6_coinsBy 203 = .ok (.iconst 1, 1) := by decide +kernel
theorem dX6_coinsBy_204 : decode cX6_coinsBy 204 = .ok (.bastore, 1) := by decide +kernel
theorem dX6_coinsBy_205 : decode cX6_coinsBy 205 = .ok (.aload_n 0, 1) := by decide +kernel
theorem dX6_coinsBy_206 : decode cX6_coinsBy 206 = .ok (.getfield 60, 3) := by decide +kernel
theorem dX6_coinsBy_209 : decode cX6_coinsBy 209 = .ok (.iload 6, 2) := by decide +kernel
theorem dX6_coinsBy_211 : decode cX6_coinsBy 211 = .ok (.dup2, 1) := by decide +kernel
theorem dX6_coinsBy_212 : decode cX6_coinsBy 212 = .ok (.iaload, 1) := by decide +kernel
theorem dX6_coinsBy_213 : decode cX6_coinsBy 213 = .ok (.iconst 1, 1) := by decide +kernel
theorem dX6_coinsBy_214 : decode cX6_coinsBy 214 = .ok (.iadd, 1) := by decide +kernel
theorem dX6_coinsBy_215 : decode cX6_coinsBy 215 = .ok (.iastore, 1) := by decide +kernel
theorem dX6_coinsBy_216 : decode cX6_coinsBy 216 = .ok (.lload_n 2, 1) := by decide +kernel
theorem dX6_coinsBy_217 : decode cX6_coinsBy 217 = .ok (.lconst 1, 1) := by decide +kernel
theorem dX6_coinsBy_218 : decode cX6_coinsBy 218 = .ok (.lsub, 1) := by decide +kernel
theorem dX6_coinsBy_219 : decode cX6_coinsBy 219 = .ok (.lstore_n 2, 1) := by decide +kernel
theorem dX6_coinsBy_220 : decode cX6_coinsBy 220 = .ok (.goto (-109), 3) := by decide +kernel
theorem dX6_coinsBy_223 : decode cX6_coinsBy 223 = .ok (.iconst 0, 1) := by decide +kernel
theorem dX6_coinsBy_224 : decode cX6_coinsBy 224 = .ok (.istore 6, 2) := by decide +kernel
theorem dX6_coinsBy_226 : decode cX6_coinsBy 226 = .ok (.iload 6, 2) := by decide +kernel
theorem dX6_coinsBy_228 : decode cX6_coinsBy 228 = .ok (.aload_n 0, 1) := by decide +kernel
theorem dX6_coinsBy_229 : decode cX6_coinsBy 229 = .ok (.getfield 70, 3) := by decide +kernel
theorem dX6_coinsBy_232 : decode cX6_coinsBy 232 = .ok (.if_icmp .ge 36, 3) := by decide +kernel
theorem dX6_coinsBy_235 : decode cX6_coinsBy 235 = .ok (.aload_n 0, 1) := by decide +kernel
theorem dX6_coinsBy_236 : decode cX6_coinsBy 236 = .ok (.getfield 28, 3) := by decide +kernel
theorem dX6_coinsBy_239 : decode cX6_coinsBy 239 = .ok (.iload 6, 2) := by decide +kernel
theorem dX6_coinsBy_241 : decode cX6_coinsBy 241 = .ok (.baload, 1) := by decide +kernel
theorem dX6_coinsBy_242 : decode cX6_coinsBy 242 = .ok (.ifCond .eq 20, 3) := by decide +kernel
theorem dX6_coinsBy_245 : decode cX6_coinsBy 245 = .ok (.aload_n 0, 1) := by decide +kernel
theorem dX6_coinsBy_246 : decode cX6_coinsBy 246 = .ok (.getfield 60, 3) := by decide +kernel
theorem dX6_coinsBy_249 : decode cX6_coinsBy 249 = .ok (.iload 6, 2) := by decide +kernel
theorem dX6_coinsBy_251 : decode cX6_coinsBy 251 = .ok (.dup2, 1) := by decide +kernel
theorem dX6_coinsBy_252 : decode cX6_coinsBy 252 = .ok (.iaload, 1) := by decide +kernel
theorem dX6_coinsBy_253 : decode cX6_coinsBy 253 = .ok (.aload_n 0, 1) := by decide +kernel
theorem dX6_coinsBy_254 : decode cX6_coinsBy 254 = .ok (.getfield 22, 3) := by decide +kernel
theorem dX6_coinsBy_257 : decode cX6_coinsBy 257 = .ok (.iload 6, 2) := by decide +kernel
theorem dX6_coinsBy_259 : decode cX6_coinsBy 259 = .ok (.iaload, 1) := by decide +kernel
theorem dX6_coinsBy_260 : decode cX6_coinsBy 260 = .ok (.iadd, 1) := by decide +kernel
theorem dX6_coinsBy_261 : decode cX6_coinsBy 261 = .ok (.iastore, 1) := by decide +kernel
theorem dX6_coinsBy_262 : decode cX6_coinsBy 262 = .ok (.iinc 6 1, 3) := by decide +kernel
theorem dX6_coinsBy_265 : decode cX6_coinsBy 265 = .ok (.goto (-39), 3) := by decide +kernel
theorem dX6_coinsBy_268 : decode cX6_coinsBy 268 = .ok (.return_, 1) := by decide +kernel
theorem dX6_coins_0 : decode cX6_coins 0 = .ok (.aload_n 0, 1) := by decide +kernel
theorem dX6_coins_1 : decode cX6_coins 1 = .ok (.iconst 0, 1) := by decide +kernel
theorem dX6_coins_2 : decode cX6_coins 2 = .ok (.putfield 63, 3) := by decide +kernel
theorem dX6_coins_5 : decode cX6_coins 5 = .ok (.iload_n 1, 1) := by decide +kernel
theorem dX6_coins_6 : decode cX6_coins 6 = .ok (.invokestatic 147, 3) := by decide +kernel
theorem dX6_coins_9 : decode cX6_coins 9 = .ok (.ifCond .eq 11, 3) := by decide +kernel
theorem dX6_coins_12 : decode cX6_coins 12 = .ok (.aload_n 0, 1) := by decide +kernel
theorem dX6_coins_13 : decode cX6_coins 13 = .ok (.iload_n 2, 1) := by decide +kernel
theorem dX6_coins_14 : decode cX6_coins 14 = .ok (.invokevirtual 150, 3) := by decide +kernel
theorem dX6_coins_17 : decode cX6_coins 17 = .ok (.ifCond .ne 6, 3) := by decide +kernel
theorem dX6_coins_20 : decode cX6_coins 20 = .ok (.ldc 156, 2) := by decide +kernel
theorem dX6_coins_22 : decode cX6_coins 22 = .ok (.ireturn, 1) := by decide +kernel
theorem dX6_coins_23 : decode cX6_coins 23 = .ok (.aload_n 0, 1) := by decide +kernel
theorem dX6_coins_24 : decode cX6_coins 24 = .ok (.iload_n 1, 1) := by decide +kernel
theorem dX6_coins_25 : decode cX6_coins 25 = .ok (.invokevirtual 157, 3) := by decide +kernel
theorem dX6_coins_28 : decode cX6_coins 28 = .ok (.aload_n 0, 1) := by decide +kernel
theorem dX6_coins_29 : decode cX6_coins 29 = .ok (.getfield 60, 3) := by decide +kernel
theorem dX6_coins_32 : decode cX6_coins 32 = .ok (.iload_n 2, 1) := by decide +kernel
theorem dX6_coins_33 : decode cX6_coins 33 = .ok (.iaload, 1) := by decide +kernel
theorem dX6_coins_34 : decode cX6_coins 34 = .ok (.ireturn, 1) := by decide +kernel
theorem dX6_leaving_0 : decode cX6_leaving 0 = .ok (.aload_n 0, 1) := by decide +kernel
theorem dX6_leaving_1 : decode cX6_leaving 1 = .ok (.iconst 0, 1) := by decide +kernel
theorem dX6_leaving_2 : decode cX6_leaving 2 = .ok (.putfield 63, 3) := by decide +kernel
theorem dX6_leaving_5 : decode cX6_leaving 5 = .ok (.iload_n 1, 1) := by decide +kernel
theorem dX6_leaving_6 : decode cX6_leaving 6 = .ok (.invokestatic 147, 3) := by decide +kernel
theorem dX6_leaving_9 : decode cX6_leaving 9 = .ok (.ifCond .ne 5, 3) := by decide +kernel
theorem dX6_leaving_12 : decode cX6_leaving 12 = .ok (.iconst (-1), 1) := by decide +kernel
theorem dX6_leaving_13 : decode cX6_leaving 13 = .ok (.ireturn, 1) := by decide +kernel
theorem dX6_leaving_14 : decode cX6_leaving 14 = .ok (.aload_n 0, 1) := by decide +kernel
theorem dX6_leaving_15 : decode cX6_leaving 15 = .ok (.iload_n 1, 1) := by decide +kernel
theorem dX6_leaving_16 : decode cX6_leaving 16 = .ok (.invokevirtual 153, 3) := by decide +kernel
theorem dX6_leaving_19 : decode cX6_leaving 19 = .ok (.iconst 1, 1) := by decide +kernel
theorem dX6_leaving_20 : decode cX6_leaving 20 = .ok (.istore_n 2, 1) := by decide +kernel
theorem dX6_leaving_21 : decode cX6_leaving 21 = .ok (.iload_n 2, 1) := by decide +kernel
theorem dX6_leaving_22 : decode cX6_leaving 22 = .ok (.sipush 256, 3) := by decide +kernel
theorem dX6_leaving_25 : decode cX6_leaving 25 = .ok (.if_icmp .ge 85, 3) := by decide +kernel
theorem dX6_leaving_28 : decode cX6_leaving 28 = .ok (.iload_n 2, 1) := by decide +kernel
theorem dX6_leaving_29 : decode cX6_leaving 29 = .ok (.aload_n 0, 1) := by decide +kernel
theorem dX6_leaving_30 : decode cX6_leaving 30 = .ok (.getfield 137, 3) := by decide +kernel
theorem dX6_leaving_33 : decode cX6_leaving 33 = .ok (.iconst (-1), 1) := by decide +kernel
theorem dX6_leaving_34 : decode cX6_leaving 34 = .ok (.ixor, 1) := by decide +kernel
theorem dX6_leaving_35 : decode cX6_leaving 35 = .ok (.iand, 1) := by decide +kernel
theorem dX6_leaving_36 : decode cX6_leaving 36 = .ok (.ifCond .eq 6, 3) := by decide +kernel
theorem dX6_leaving_39 : decode cX6_leaving 39 = .ok (.goto 65, 3) := by decide +kernel
theorem dX6_leaving_42 : decode cX6_leaving 42 = .ok (.lconst 0, 1) := by decide +kernel
theorem dX6_leaving_43 : decode cX6_leaving 43 = .ok (.lstore_n 3, 1) := by decide +kernel
theorem dX6_leaving_44 : decode cX6_leaving 44 = .ok (.iconst 0, 1) := by decide +kernel
theorem dX6_leaving_45 : decode cX6_leaving 45 = .ok (.istore 5, 2) := by decide +kernel
theorem dX6_leaving_47 : decode cX6_leaving 47 = .ok (.iload 5, 2) := by decide +kernel
theorem dX6_leaving_49 : decode cX6_leaving 49 = .ok (.aload_n 0, 1) := by decide +kernel
theorem dX6_leaving_50 : decode cX6_leaving 50 = .ok (.getfield 70, 3) := by decide +kernel
theorem dX6_leaving_53 : decode cX6_leaving 53 = .ok (.if_icmp .ge 33, 3) := by decide +kernel
theorem dX6_leaving_56 : decode cX6_leaving 56 = .ok (.lload_n 3, 1) := by decide +kernel
theorem dX6_leaving_57 : decode cX6_leaving 57 = .ok (.iload_n 2, 1) := by decide +kernel
theorem dX6_leaving_58 : decode cX6_leaving 58 = .ok (.iload 5, 2) := by decide +kernel
theorem dX6_leaving_60 : decode cX6_leaving 60 = .ok (.ishr, 1) := by decide +kernel
theorem dX6_leaving_61 : decode cX6_leaving 61 = .ok (.iconst 1, 1) := by decide +kernel
theorem dX6_leaving_62 : decode cX6_leaving 62 = .ok (.iand, 1) := by decide +kernel
theorem dX6_leaving_63 : decode cX6_leaving 63 = .ok (.iconst 1, 1) := by decide +kernel
theorem dX6_leaving_64 : decode cX6_leaving 64 = .ok (.if_icmp .ne 13, 3) := by decide +kernel
theorem dX6_leaving_67 : decode cX6_leaving 67 = .ok (.aload_n 0, 1) := by decide +kernel
theorem dX6_leaving_68 : decode cX6_leaving 68 = .ok (.getfield 54, 3) := by decide +kernel
theorem dX6_leaving_71 : decode cX6_leaving 71 = .ok (.iload 5, 2) := by decide +kernel
theorem dX6_leaving_73 : decode cX6_leaving 73 = .ok (.laload, 1) := by decide +kernel
theorem dX6_leaving_74 : decode cX6_leaving 74 = .ok (.goto 4, 3) := by decide +kernel
theorem dX6_leaving_77 : decode cX6_leaving 77 = .ok (.lconst 0, 1) := by decide +kernel
theorem dX6_leaving_78 : decode cX6_leaving 78 = .ok (.ladd, 1) := by decide +kernel
theorem dX6_leaving_79 : decode cX6_leaving 79 = .ok (.lstore_n 3, 1) := by decide +kernel
theorem dX6_leaving_80 : decode cX6_leaving 80 = .ok (.iinc 5 1, 3) := by decide +kernel
theorem dX6_leaving_83 : decode cX6_leaving 83 = .ok (.goto (-36), 3) := by decide +kernel
theorem dX6_leaving_86 : decode cX6_leaving 86 = .ok (.lload_n 3, 1) := by decide +kernel
theorem dX6_leaving_87 : decode cX6_leaving 87 = .ok (.aload_n 0, 1) := by decide +kernel
theorem dX6_leaving_88 : decode cX6_leaving 88 = .ok (.iload_n 2, 1) := by decide +kernel
theorem dX6_leaving_89 : decode cX6_leaving 89 = .ok (.invokevirtual 104, 3) := by decide +kernel
theorem dX6_leaving_92 : decode cX6_leaving 92 = .ok (.i2l, 1) := by decide +kernel
theorem dX6_leaving_93 : decode cX6_leaving 93 = .ok (.aload_n 0, 1) := by decide +kernel
theorem dX6_leaving_94 : decode cX6_leaving 94 = .ok (.getfield 140, 3) := by decide +kernel
theorem dX6_leaving_97 : decode cX6_leaving 97 = .ok (.lmul, 1) := by decide +kernel
theorem dX6_leaving_98 : decode cX6_leaving 98 = .ok (.lcmp, 1) := by decide +kernel
theorem dX6_leaving_99 : decode cX6_leaving 99 = .ok (.ifCond .le 5, 3) := by decide +kernel
theorem dX6_leaving_102 : decode cX6_leaving 102 = .ok (.iload_n 2, 1) := by decide +kernel
theorem dX6_leaving_103 : decode cX6_leaving 103 = .ok (.ireturn, 1) := by decide +kernel
theorem dX6_leaving_104 : decode cX6_leaving 104 = .ok (.iinc 2 1, 3) := by decide +kernel
theorem dX6_leaving_107 : decode cX6_leaving 107 = .ok (.goto (-86), 3) := by decide +kernel
theorem dX6_leaving_110 : decode cX6_leaving 110 = .ok (.iconst 0, 1) := by decide +kernel
theorem dX6_leaving_111 : decode cX6_leaving 111 = .ok (.ireturn, 1) := by decide +kernel
theorem dX6_saved_0 : decode cX6_saved 0 = .ok (.aload_n 0, 1) := by decide +kernel
theorem dX6_saved_1 : decode cX6_saved 1 = .ok (.iconst 0, 1) := by decide +kernel
theorem dX6_saved_2 : decode cX6_saved 2 = .ok (.putfield 63, 3) := by decide +kernel
theorem dX6_saved_5 : decode cX6_saved 5 = .ok (.aload_n 0, 1) := by decide +kernel
theorem dX6_saved_6 : decode cX6_saved 6 = .ok (.iload_n 1, 1) := by decide +kernel
theorem dX6_saved_7 : decode cX6_saved 7 = .ok (.invokevirtual 150, 3) := by decide +kernel
theorem dX6_saved_10 : decode cX6_saved 10 = .ok (.ifCond .eq 29, 3) := by decide +kernel
theorem dX6_saved_13 : decode cX6_saved 13 = .ok (.aload_n 0, 1) := by decide +kernel
theorem dX6_saved_14 : decode cX6_saved 14 = .ok (.aload_n 0, 1) := by decide +kernel
theorem dX6_saved_15 : decode cX6_saved 15 = .ok (.invokevirtual 100, 3) := by decide +kernel
theorem dX6_saved_18 : decode cX6_saved 18 = .ok (.invokevirtual 104, 3) := by decide +kernel
theorem dX6_saved_21 : decode cX6_saved 21 = .ok (.aload_n 0, 1) := by decide +kernel
theorem dX6_saved_22 : decode cX6_saved 22 = .ok (.aload_n 0, 1) := by decide +kernel
theorem dX6_saved_23 : decode cX6_saved 23 = .ok (.invokevirtual 100, 3) := by decide +kernel
theorem dX6_saved_26 : decode cX6_saved 26 = .ok (.iconst 1, 1) := by decide +kernel
theorem dX6_saved_27 : decode cX6_saved 27 = .ok (.iload_n 1, 1) := by decide +kernel
theorem dX6_saved_28 : decode cX6_saved 28 = .ok (.ishl, 1) := by decide +kernel
theorem dX6_saved_29 : decode cX6_saved 29 = .ok (.iconst (-1), 1) := by decide +kernel
theorem dX6_saved_30 : decode cX6_saved 30 = .ok (.ixor, 1) := by decide +kernel
theorem dX6_saved_31 : decode cX6_saved 31 = .ok (.iand, 1) := by decide +kernel
theorem dX6_saved_32 : decode cX6_saved 32 = .ok (.invokevirtual 104, 3) := by decide +kernel
theorem dX6_saved_35 : decode cX6_saved 35 = .ok (.isub, 1) := by decide +kernel
theorem dX6_saved_36 : decode cX6_saved 36 = .ok (.goto 4, 3) := by decide +kernel
theorem dX6_saved_39 : decode cX6_saved 39 = .ok (.iconst (-1), 1) := by decide +kernel
theorem dX6_saved_40 : decode cX6_saved 40 = .ok (.ireturn, 1) := by decide +kernel
theorem dX6_differ_0 : decode cX6_differ 0 = .ok (.aload_n 0, 1) := by decide +kernel
theorem dX6_differ_1 : decode cX6_differ 1 = .ok (.iconst 0, 1) := by decide +kernel
theorem dX6_differ_2 : decode cX6_differ 2 = .ok (.putfield 63, 3) := by decide +kernel
theorem dX6_differ_5 : decode cX6_differ 5 = .ok (.iload_n 1, 1) := by decide +kernel
theorem dX6_differ_6 : decode cX6_differ 6 = .ok (.invokestatic 147, 3) := by decide +kernel
theorem dX6_differ_9 : decode cX6_differ 9 = .ok (.ifCond .eq 10, 3) := by decide +kernel
theorem dX6_differ_12 : decode cX6_differ 12 = .ok (.iload_n 2, 1) := by decide +kernel
theorem dX6_differ_13 : decode cX6_differ 13 = .ok (.invokestatic 147, 3) := by decide +kernel
theorem dX6_differ_16 : decode cX6_differ 16 = .ok (.ifCond .ne 5, 3) := by decide +kernel
theorem dX6_differ_19 : decode cX6_differ 19 = .ok (.iconst (-1), 1) := by decide +kernel
theorem dX6_differ_20 : decode cX6_differ 20 = .ok (.ireturn, 1) := by decide +kernel
theorem dX6_differ_21 : decode cX6_differ 21 = .ok (.aload_n 0, 1) := by decide +kernel
theorem dX6_differ_22 : decode cX6_differ 22 = .ok (.iload_n 1, 1) := by decide +kernel
theorem dX6_differ_23 : decode cX6_differ 23 = .ok (.invokevirtual 157, 3) := by decide +kernel
theorem dX6_differ_26 : decode cX6_differ 26 = .ok (.aload_n 0, 1) := by decide +kernel
theorem dX6_differ_27 : decode cX6_differ 27 = .ok (.getfield 60, 3) := by decide +kernel
theorem dX6_differ_30 : decode cX6_differ 30 = .ok (.invokevirtual 160, 3) := by decide +kernel
theorem dX6_differ_33 : decode cX6_differ 33 = .ok (.checkcast 161, 3) := by decide +kernel
theorem dX6_differ_36 : decode cX6_differ 36 = .ok (.astore_n 3, 1) := by decide +kernel
theorem dX6_differ_37 : decode cX6_differ 37 = .ok (.aload_n 0, 1) := by decide +kernel
theorem dX6_differ_38 : decode cX6_differ 38 = .ok (.iload_n 2, 1) := by decide +kernel
theorem dX6_differ_39 : decode cX6_differ 39 = .ok (.invokevirtual 157, 3) := by decide +kernel
theorem dX6_differ_42 : decode cX6_differ 42 = .ok (.iconst 0, 1) := by decide +kernel
theorem dX6_differ_43 : decode cX6_differ 43 = .ok (.istore 4, 2) := by decide +kernel
theorem dX6_differ_45 : decode cX6_differ 45 = .ok (.iconst 0, 1) := by decide +kernel
theorem dX6_differ_46 : decode cX6_differ 46 = .ok (.istore 5, 2) := by decide +kernel
theorem dX6_differ_48 : decode cX6_differ 48 = .ok (.iload 5, 2) := by decide +kernel
theorem dX6_differ_50 : decode cX6_differ 50 = .ok (.aload_n 0, 1) := by decide +kernel
theorem dX6_differ_51 : decode cX6_differ 51 = .ok (.getfield 70, 3) := by decide +kernel
theorem dX6_differ_54 : decode cX6_differ 54 = .ok (.if_icmp .ge 29, 3) := by decide +kernel
theorem dX6_differ_57 : decode cX6_differ 57 = .ok (.iload 4, 2) := by decide +kernel
theorem dX6_differ_59 : decode cX6_differ 59 = .ok (.aload_n 3, 1) := by decide +kernel
theorem dX6_differ_60 : decode cX6_differ 60 = .ok (.iload 5, 2) := by decide +kernel
theorem dX6_differ_62 : decode cX6_differ 62 = .ok (.iaload, 1) := by decide +kernel
theorem dX6_differ_63 : decode cX6_differ 63 = .ok (.aload_n 0, 1) := by decide +kernel
theorem dX6_differ_64 : decode cX6_differ 64 = .ok (.getfield 60, 3) := by decide +kernel
theorem dX6_differ_67 : decode cX6_differ 67 = .ok (.iload 5, 2) := by decide +kernel
theorem dX6_differ_69 : decode cX6_differ 69 = .ok (.iaload, 1) := by decide +kernel
theorem dX6_differ_70 : decode cX6_differ 70 = .ok (.isub, 1) := by decide +kernel
theorem dX6_differ_71 : decode cX6_differ 71 = .ok (.invokestatic 165, 3) := by decide +kernel
theorem dX6_differ_74 : decode cX6_differ 74 = .ok (.iadd, 1) := by decide +kernel
theorem dX6_differ_75 : decode cX6_differ 75 = .ok (.istore 4, 2) := by decide +kernel
theorem dX6_differ_77 : decode cX6_differ 77 = .ok (.iinc 5 1, 3) := by decide +kernel
theorem dX6_differ_80 : decode cX6_differ 80 = .ok (.goto (-32), 3) := by decide +kernel
theorem dX6_differ_83 : decode cX6_differ 83 = .ok (.iload 4, 2) := by decide +kernel
theorem dX6_differ_85 : decode cX6_differ 85 = .ok (.ireturn, 1) := by decide +kernel
theorem dX6_book_0 : decode cX6_book 0 = .ok (.aload_n 0, 1) := by decide +kernel
theorem dX6_book_1 : decode cX6_book 1 = .ok (.iconst 0, 1) := by decide +kernel
theorem dX6_book_2 : decode cX6_book 2 = .ok (.putfield 63, 3) := by decide +kernel
theorem dX6_book_5 : decode cX6_book 5 = .ok (.iload_n 1, 1) := by decide +kernel
theorem dX6_book_6 : decode cX6_book 6 = .ok (.invokestatic 147, 3) := by decide +kernel
theorem dX6_book_9 : decode cX6_book 9 = .ok (.ifCond .ne 5, 3) := by decide +kernel
theorem dX6_book_12 : decode cX6_book 12 = .ok (.iconst (-1), 1) := by decide +kernel
theorem dX6_book_13 : decode cX6_book 13 = .ok (.ireturn, 1) := by decide +kernel
theorem dX6_book_14 : decode cX6_book 14 = .ok (.aload_n 0, 1) := by decide +kernel
theorem dX6_book_15 : decode cX6_book 15 = .ok (.iload_n 1, 1) := by decide +kernel
theorem dX6_book_16 : decode cX6_book 16 = .ok (.invokevirtual 157, 3) := by decide +kernel
theorem dX6_book_19 : decode cX6_book 19 = .ok (.iconst 0, 1) := by decide +kernel
theorem dX6_book_20 : decode cX6_book 20 = .ok (.istore_n 2, 1) := by decide +kernel
theorem dX6_book_21 : decode cX6_book 21 = .ok (.iconst 0, 1) := by decide +kernel
theorem dX6_book_22 : decode cX6_book 22 = .ok (.istore_n 3, 1) := by decide +kernel
theorem dX6_book_23 : decode cX6_book 23 = .ok (.iload_n 3, 1) := by decide +kernel
theorem dX6_book_24 : decode cX6_book 24 = .ok (.aload_n 0, 1) := by decide +kernel
theorem dX6_book_25 : decode cX6_book 25 = .ok (.getfield 70, 3) := by decide +kernel
theorem dX6_book_28 : decode cX6_book 28 = .ok (.if_icmp .ge 32, 3) := by decide +kernel
theorem dX6_book_31 : decode cX6_book 31 = .ok (.iload_n 2, 1) := by decide +kernel
theorem dX6_book_32 : decode cX6_book 32 = .ok (.aload_n 0, 1) := by decide +kernel
theorem dX6_book_33 : decode cX6_book 33 = .ok (.getfield 60, 3) := by decide +kernel
theorem dX6_book_36 : decode cX6_book 36 = .ok (.iload_n 3, 1) := by decide +kernel
theorem dX6_book_37 : decode cX6_book 37 = .ok (.iaload, 1) := by decide +kernel
theorem dX6_book_38 : decode cX6_book 38 = .ok (.aload_n 0, 1) := by decide +kernel
theorem dX6_book_39 : decode cX6_book 39 = .ok (.getfield 25, 3) := by decide +kernel
theorem dX6_book_42 : decode cX6_book 42 = .ok (.iload_n 3, 1) := by decide +kernel
theorem dX6_book_43 : decode cX6_book 43 = .ok (.iaload, 1) := by decide +kernel
theorem dX6_book_44 : decode cX6_book 44 = .ok (.if_icmp .eq 7, 3) := by decide +kernel
theorem dX6_book_47 : decode cX6_book 47 = .ok (.iconst 1, 1) := by decide +kernel
theorem dX6_book_48 : decode cX6_book 48 = .ok (.goto 4, 3) := by decide +kernel
theorem dX6_book_51 : decode cX6_book 51 = .ok (.iconst 0, 1) := by decide +kernel
theorem dX6_book_52 : decode cX6_book 52 = .ok (.iadd, 1) := by decide +kernel
theorem dX6_book_53 : decode cX6_book 53 = .ok (.istore_n 2, 1) := by decide +kernel
theorem dX6_book_54 : decode cX6_book 54 = .ok (.iinc 3 1, 3) := by decide +kernel
theorem dX6_book_57 : decode cX6_book 57 = .ok (.goto (-34), 3) := by decide +kernel
theorem dX6_book_60 : decode cX6_book 60 = .ok (.aload_n 0, 1) := by decide +kernel
theorem dX6_book_61 : decode cX6_book 61 = .ok (.getfield 167, 3) := by decide +kernel
theorem dX6_book_64 : decode cX6_book 64 = .ok (.iload_n 2, 1) := by decide +kernel
theorem dX6_book_65 : decode cX6_book 65 = .ok (.iadd, 1) := by decide +kernel
theorem dX6_book_66 : decode cX6_book 66 = .ok (.sipush 400, 3) := by decide +kernel
theorem dX6_book_69 : decode cX6_book 69 = .ok (.if_icmp .le 5, 3) := by decide +kernel
theorem dX6_book_72 : decode cX6_book 72 = .ok (.iconst (-1), 1) := by decide +kernel
theorem dX6_book_73 : decode cX6_book 73 = .ok (.ireturn, 1) := by decide +kernel
theorem dX6_book_74 : decode cX6_book 74 = .ok (.iconst 0, 1) := by decide +kernel
theorem dX6_book_75 : decode cX6_book 75 = .ok (.istore_n 3, 1) := by decide +kernel
theorem dX6_book_76 : decode cX6_book 76 = .ok (.iload_n 3, 1) := by decide +kernel
theorem dX6_book_77 : decode cX6_book 77 = .ok (.aload_n 0, 1) := by decide +kernel
theorem dX6_book_78 : decode cX6_book 78 = .ok (.getfield 70, 3) := by decide +kernel
theorem dX6_book_81 : decode cX6_book 81 = .ok (.if_icmp .ge 94, 3) := by decide +kernel
theorem dX6_book_84 : decode cX6_book 84 = .ok (.aload_n 0, 1) := by decide +kernel
theorem dX6_book_85 : decode cX6_book 85 = .ok (.getfield 60, 3) := by decide +kernel
theorem dX6_book_88 : decode cX6_book 88 = .ok (.iload_n 3, 1) := by decide +kernel
theorem dX6_book_89 : decode cX6_book 89 = .ok (.iaload, 1) := by decide +kernel
theorem dX6_book_90 : decode cX6_book 90 = .ok (.aload_n 0, 1) := by decide +kernel
theorem dX6_book_91 : decode cX6_book 91 = .ok (.getfield 25, 3) := by decide +kernel
theorem dX6_book_94 : decode cX6_book 94 = .ok (.iload_n 3, 1) := by decide +kernel
theorem dX6_book_95 : decode cX6_book 95 = .ok (.iaload, 1) := by decide +kernel
theorem dX6_book_96 : decode cX6_book 96 = .ok (.if_icmp .ne 6, 3) := by decide +kernel
theorem dX6_book_99 : decode cX6_book 99 = .ok (.goto 70, 3) := by decide +kernel
theorem dX6_book_102 : decode cX6_book 102 = .ok (.aload_n 0, 1) := by decide +kernel
theorem dX6_book_103 : decode cX6_book 103 = .ok (.getfield 32, 3) := by decide +kernel
theorem dX6_book_106 : decode cX6_book 106 = .ok (.aload_n 0, 1) := by decide +kernel
theorem dX6_book_107 : decode cX6_book 107 = .ok (.getfield 167, 3) := by decide +kernel
theorem dX6_book_110 : decode cX6_book 110 = .ok (.aload_n 0, 1) := by decide +kernel
theorem dX6_book_111 : decode cX6_book 111 = .ok (.getfield 170, 3) := by decide +kernel
theorem dX6_book_114 : decode cX6_book 114 = .ok (.iastore, 1) := by decide +kernel
theorem dX6_book_115 : decode cX6_book 115 = .ok (.aload_n 0, 1) := by decide +kernel
theorem dX6_book_116 : decode cX6_book 116 = .ok (.getfield 35, 3) := by decide +kernel
theorem dX6_book_119 : decode cX6_book 119 = .ok (.aload_n 0, 1) := by decide +kernel
theorem dX6_book_120 : decode cX6_book 120 = .ok (.getfield 167, 3) := by decide +kernel
theorem dX6_book_123 : decode cX6_book 123 = .ok (.iload_n 3, 1) := by decide +kernel
theorem dX6_book_124 : decode cX6_book 124 = .ok (.iastore, 1) := by decide +kernel
theorem dX6_book_125 : decode cX6_book 125 = .ok (.aload_n 0, 1) := by decide +kernel
theorem dX6_book_126 : decode cX6_book 126 = .ok (.getfield 38, 3) := by decide +kernel
theorem dX6_book_129 : decode cX6_book 129 = .ok (.aload_n 0, 1) := by decide +kernel
theorem dX6_book_130 : decode cX6_book 130 = .ok (.getfield 167, 3) := by decide +kernel
theorem dX6_book_133 : decode cX6_book 133 = .ok (.aload_n 0, 1) := by decide +kernel
theorem dX6_book_134 : decode cX6_book 134 = .ok (.getfield 60, 3) := by decide +kernel
theorem dX6_book_137 : decode cX6_book 137 = .ok (.iload_n 3, 1) := by decide +kernel
theorem dX6_book_138 : decode cX6_book 138 = .ok (.iaload, 1) := by decide +kernel
theorem dX6_book_139 : decode cX6_book 139 = .ok (.aload_n 0, 1) := by decide +kernel
theorem dX6_book_140 : decode cX6_book 140 = .ok (.getfield 25, 3) := by decide +kernel
theorem dX6_book_143 : decode cX6_book 143 = .ok (.iload_n 3, 1) := by decide +kernel
theorem dX6_book_144 : decode cX6_book 144 = .ok (.iaload, 1) := by decide +kernel
theorem dX6_book_145 : decode cX6_book 145 = .ok (.isub, 1) := by decide +kernel
theorem dX6_book_146 : decode cX6_book 146 = .ok (.iastore, 1) := by decide +kernel
theorem dX6_book_147 : decode cX6_book 147 = .ok (.aload_n 0, 1) := by decide +kernel
theorem dX6_book_148 : decode cX6_book 148 = .ok (.dup, 1) := by decide +kernel
theorem dX6_book_149 : decode cX6_book 149 = .ok (.getfield 167, 3) := by decide +kernel
theorem dX6_book_152 : decode cX6_book 152 = .ok (.iconst 1, 1) := by decide +kernel
theorem dX6_book_153 : decode cX6_book 153 = .ok (.iadd, 1) := by decide +kernel
theorem dX6_book_154 : decode cX6_book 154 = .ok (.putfield 167, 3) := by decide +kernel
theorem dX6_book_157 : decode cX6_book 157 = .ok (.aload_n 0, 1) := by decide +kernel
theorem dX6_book_158 : decode cX6_book 158 = .ok (.getfield 25, 3) := by decide +kernel
theorem dX6_book_161 : decode cX6_book 161 = .ok (.iload_n 3, 1) := by decide +kernel
theorem dX6_book_162 : decode cX6_book 162 = .ok (.aload_n 0, 1) := by decide +kernel
theorem dX6_book_163 : decode cX6_book 163 = .ok (.getfield 60, 3) := by decide +kernel
theorem dX6_book_166 : decode cX6_book 166 = .ok (.iload_n 3, 1) := by decide +kernel
theorem dX6_book_167 : decode cX6_book 167 = .ok (.iaload, 1) := by decide +kernel
theorem dX6_book_168 : decode cX6_book 168 = .ok (.iastore, 1) := by decide +kernel
theorem dX6_book_169 : decode cX6_book 169 = .ok (.iinc 3 1, 3) := by decide +kernel
theorem dX6_book_172 : decode cX6_book 172 = .ok (.goto (-96), 3) := by decide +kernel
theorem dX6_book_175 : decode cX6_book 175 = .ok (.aload_n 0, 1) := by decide +kernel
theorem dX6_book_176 : decode cX6_book 176 = .ok (.dup, 1) := by decide +kernel
theorem dX6_book_177 : decode cX6_book 177 = .ok (.getfield 170, 3) := by decide +kernel
theorem dX6_book_180 : decode cX6_book 180 = .ok (.iconst 1, 1) := by decide +kernel
theorem dX6_book_181 : decode cX6_book 181 = .ok (.iadd, 1) := by decide +kernel
theorem dX6_book_182 : decode cX6_book 182 = .ok (.putfield 170, 3) := by decide +kernel
theorem dX6_book_185 : decode cX6_book 185 = .ok (.iload_n 2, 1) := by decide +kernel
theorem dX6_book_186 : decode cX6_book 186 = .ok (.ireturn, 1) := by decide +kernel
theorem dX6_booked_0 : decode cX6_booked 0 = .ok (.aload_n 0, 1) := by decide +kernel
theorem dX6_booked_1 : decode cX6_booked 1 = .ok (.iconst 0, 1) := by decide +kernel
theorem dX6_booked_2 : decode cX6_booked 2 = .ok (.putfield 63, 3) := by decide +kernel
theorem dX6_booked_5 : decode cX6_booked 5 = .ok (.aload_n 0, 1) := by decide +kernel
theorem dX6_booked_6 : decode cX6_booked 6 = .ok (.iload_n 1, 1) := by decide +kernel
theorem dX6_booked_7 : decode cX6_booked 7 = .ok (.invokevirtual 73, 3) := by decide +kernel
theorem dX6_booked_10 : decode cX6_booked 10 = .ok (.ifCond .eq 12, 3) := by decide +kernel
theorem dX6_booked_13 : decode cX6_booked 13 = .ok (.aload_n 0, 1) := by decide +kernel
theorem dX6_booked_14 : decode cX6_booked 14 = .ok (.getfield 25, 3) := by decide +kernel
theorem dX6_booked_17 : decode cX6_booked 17 = .ok (.iload_n 1, 1) := by decide +kernel
theorem dX6_booked_18 : decode cX6_booked 18 = .ok (.iaload, 1) := by decide +kernel
theorem dX6_booked_19 : decode cX6_booked 19 = .ok (.goto 4, 3) := by decide +kernel
theorem dX6_booked_22 : decode cX6_booked 22 = .ok (.iconst 0, 1) := by decide +kernel
theorem dX6_booked_23 : decode cX6_booked 23 = .ok (.ireturn, 1) := by decide +kernel
theorem dX6_line_0 : decode cX6_line 0 = .ok (.aload_n 0, 1) := by decide +kernel
theorem dX6_line_1 : decode cX6_line 1 = .ok (.iconst 0, 1) := by decide +kernel
theorem dX6_line_2 : decode cX6_line 2 = .ok (.putfield 63, 3) := by decide +kernel
theorem dX6_line_5 : decode cX6_line 5 = .ok (.iload_n 1, 1) := by decide +kernel
theorem dX6_line_6 : decode cX6_line 6 = .ok (.ifCond .lt 11, 3) := by decide +kernel
theorem dX6_line_9 : decode cX6_line 9 = .ok (.iload_n 1, 1) := by decide +kernel
theorem dX6_line_10 : decode cX6_line 10 = .ok (.aload_n 0, 1) := by decide +kernel
theorem dX6_line_11 : decode cX6_line 11 = .ok (.getfield 167, 3) := by decide +kernel
theorem dX6_line_14 : decode cX6_line 14 = .ok (.if_icmp .lt 6, 3) := by decide +kernel
theorem dX6_line_17 : decode cX6_line 17 = .ok (.ldc 156, 2) := by decide +kernel
theorem dX6_line_19 : decode cX6_line 19 = .ok (.ireturn, 1) := by decide +kernel
theorem dX6_line_20 : decode cX6_line 20 = .ok (.iload_n 2, 1) := by decide +kernel
theorem dX6_line_21 : decode cX6_line 21 = .ok (.ifCond .ne 12, 3) := by decide +kernel
theorem dX6_line_24 : decode cX6_line 24 = .ok (.aload_n 0, 1) := by decide +kernel
theorem dX6_line_25 : decode cX6_line 25 = .ok (.getfield 32, 3) := by decide +kernel
theorem dX6_line_28 : decode cX6_line 28 = .ok (.iload_n 1, 1) := by decide +kernel
theorem dX6_line_29 : decode cX6_line 29 = .ok (.iaload, 1) := by decide +kernel
theorem dX6_line_30 : decode cX6_line 30 = .ok (.goto 33, 3) := by decide +kernel
theorem dX6_line_33 : decode cX6_line 33 = .ok (.iload_n 2, 1) := by decide +kernel
theorem dX6_line_34 : decode cX6_line 34 = .ok (.iconst 1, 1) := by decide +kernel
theorem dX6_line_35 : decode cX6_line 35 = .ok (.if_icmp .ne 12, 3) := by decide +kernel
theorem dX6_line_38 : decode cX6_line 38 = .ok (.aload_n 0, 1) := by decide +kernel
theorem dX6_line_39 : decode cX6_line 39 = .ok (.getfield 35, 3) := by decide +kernel
theorem dX6_line_42 : decode cX6_line 42 = .ok (.iload_n 1, 1) := by decide +kernel
theorem dX6_line_43 : decode cX6_line 43 = .ok (.iaload, 1) := by decide +kernel
theorem dX6_line_44 : decode cX6_line 44 = .ok (.goto 19, 3) := by decide +kernel
theorem dX6_line_47 : decode cX6_line 47 = .ok (.iload_n 2, 1) := by decide +kernel
theorem dX6_line_48 : decode cX6_line 48 = .ok (.iconst 2, 1) := by decide +kernel
theorem dX6_line_49 : decode cX6_line 49 = .ok (.if_icmp .ne 12, 3) := by decide +kernel
theorem dX6_line_52 : decode cX6_line 52 = .ok (.aload_n 0, 1) := by decide +kernel
theorem dX6_line_53 : decode cX6_line 53 = .ok (.getfield 38, 3) := by decide +kernel
theorem dX6_line_56 : decode cX6_line 56 = .ok (.iload_n 1, 1) := by decide +kernel
theorem dX6_line_57 : decode cX6_line 57 = .ok (.iaload, 1) := by decide +kernel
theorem dX6_line_58 : decode cX6_line 58 = .ok (.goto 5, 3) := by decide +kernel
theorem dX6_line_61 : decode cX6_line 61 = .ok (.ldc 156, 2) := by decide +kernel
theorem dX6_line_63 : decode cX6_line 63 = .ok (.ireturn, 1) := by decide +kernel
theorem dX6_count_0 : decode cX6_count 0 = .ok (.aload_n 0, 1) := by decide +kernel
theorem dX6_count_1 : decode cX6_count 1 = .ok (.iconst 0, 1) := by decide +kernel
theorem dX6_count_2 : decode cX6_count 2 = .ok (.putfield 63, 3) := by decide +kernel
theorem dX6_count_5 : decode cX6_count 5 = .ok (.iconst 0, 1) := by decide +kernel
theorem dX6_count_6 : decode cX6_count 6 = .ok (.istore_n 2, 1) := by decide +kernel
theorem dX6_count_7 : decode cX6_count 7 = .ok (.iload_n 1, 1) := by decide +kernel
theorem dX6_count_8 : decode cX6_count 8 = .ok (.tableswitch 139 0 6 #[44, 49, 54, 62, 67, 72, 112], 44) := by decide +kernel
theorem dX6_count_52 : decode cX6_count 52 = .ok (.aload_n 0, 1) := by decide +kernel
theorem dX6_count_53 : decode cX6_count 53 = .ok (.getfield 67, 3) := by decide +kernel
theorem dX6_count_56 : decode cX6_count 56 = .ok (.ireturn, 1) := by decide +kernel
theorem dX6_count_57 : decode cX6_count 57 = .ok (.aload_n 0, 1) := by decide +kernel
theorem dX6_count_58 : decode cX6_count 58 = .ok (.getfield 70, 3) := by decide +kernel
theorem dX6_count_61 : decode cX6_count 61 = .ok (.ireturn, 1) := by decide +kernel
theorem dX6_count_62 : decode cX6_count 62 = .ok (.aload_n 0, 1) := by decide +kernel
theorem dX6_count_63 : decode cX6_count 63 = .ok (.invokevirtual 100, 3) := by decide +kernel
theorem dX6_count_66 : decode cX6_count 66 = .ok (.invokestatic 173, 3) := by decide +kernel
theorem dX6_count_69 : decode cX6_count 69 = .ok (.ireturn, 1) := by decide +kernel
theorem dX6_count_70 : decode cX6_count 70 = .ok (.aload_n 0, 1) := by decide +kernel
theorem dX6_count_71 : decode cX6_count 71 = .ok (.getfield 167, 3) := by decide +kernel
theorem dX6_count_74 : decode cX6_count 74 = .ok (.ireturn, 1) := by decide +kernel
theorem dX6_count_75 : decode cX6_count 75 = .ok (.aload_n 0, 1) := by decide +kernel
theorem dX6_count_76 : decode cX6_count 76 = .ok (.getfield 170, 3) := by decide +kernel
theorem dX6_count_79 : decode cX6_count 79 = .ok (.ireturn, 1) := by decide +kernel
theorem dX6_count_80 : decode cX6_count 80 = .ok (.iconst 0, 1) := by decide +kernel
theorem dX6_count_81 : decode cX6_count 81 = .ok (.istore_n 3, 1) := by decide +kernel
theorem dX6_count_82 : decode cX6_count 82 = .ok (.iload_n 3, 1) := by decide +kernel
theorem dX6_count_83 : decode cX6_count 83 = .ok (.aload_n 0, 1) := by decide +kernel
theorem dX6_count_84 : decode cX6_count 84 = .ok (.getfield 70, 3) := by decide +kernel
theorem dX6_count_87 : decode cX6_count 87 = .ok (.if_icmp .ge 31, 3) := by decide +kernel
theorem dX6_count_90 : decode cX6_count 90 = .ok (.iload_n 2, 1) := by decide +kernel
theorem dX6_count_91 : decode cX6_count 91 = .ok (.aload_n 0, 1) := by decide +kernel
theorem dX6_count_92 : decode cX6_count 92 = .ok (.getfield 28, 3) := by decide +kernel
theorem dX6_count_95 : decode cX6_count 95 = .ok (.iload_n 3, 1) := by decide +kernel
theorem dX6_count_96 : decode cX6_count 96 = .ok (.baload, 1) := by decide +kernel
theorem dX6_count_97 : decode cX6_count 97 = .ok (.ifCond .eq 12, 3) := by decide +kernel
theorem dX6_count_100 : decode cX6_count 100 = .ok (.aload_n 0, 1) := by decide +kernel
theorem dX6_count_101 : decode cX6_count 101 = .ok (.getfield 22, 3) := by decide +kernel
theorem dX6_count_104 : decode cX6_count 104 = .ok (.iload_n 3, 1) := by decide +kernel
theorem dX6_count_105 : decode cX6_count 105 = .ok (.iaload, 1) := by decide +kernel
theorem dX6_count_106 : decode cX6_count 106 = .ok (.goto 4, 3) := by decide +kernel
theorem dX6_count_109 : decode cX6_count 109 = .ok (.iconst 0, 1) := by decide +kernel
theorem dX6_count_110 : decode cX6_count 110 = .ok (.iadd, 1) := by decide +kernel
theorem dX6_count_111 : decode cX6_count 111 = .ok (.istore_n 2, 1) := by decide +kernel
theorem dX6_count_112 : decode cX6_count 112 = .ok (.iinc 3 1, 3) := by decide +kernel
theorem dX6_count_115 : decode cX6_count 115 = .ok (.goto (-33), 3) := by decide +kernel
theorem dX6_count_118 : decode cX6_count 118 = .ok (.iload_n 2, 1) := by decide +kernel
theorem dX6_count_119 : decode cX6_count 119 = .ok (.ireturn, 1) := by decide +kernel
theorem dX6_count_120 : decode cX6_count 120 = .ok (.iconst 0, 1) := by decide +kernel
theorem dX6_count_121 : decode cX6_count 121 = .ok (.istore_n 3, 1) := by decide +kernel
theorem dX6_count_122 : decode cX6_count 122 = .ok (.iload_n 3, 1) := by decide +kernel
theorem dX6_count_123 : decode cX6_count 123 = .ok (.aload_n 0, 1) := by decide +kernel
theorem dX6_count_124 : decode cX6_count 124 = .ok (.getfield 70, 3) := by decide +kernel
theorem dX6_count_127 : decode cX6_count 127 = .ok (.if_icmp .ge 18, 3) := by decide +kernel
theorem dX6_count_130 : decode cX6_count 130 = .ok (.iload_n 2, 1) := by decide +kernel
theorem dX6_count_131 : decode cX6_count 131 = .ok (.aload_n 0, 1) := by decide +kernel
theorem dX6_count_132 : decode cX6_count 132 = .ok (.getfield 25, 3) := by decide +kernel
theorem dX6_count_135 : decode cX6_count 135 = .ok (.iload_n 3, 1) := by decide +kernel
theorem dX6_count_136 : decode cX6_count 136 = .ok (.iaload, 1) := by decide +kernel
theorem dX6_count_137 : decode cX6_count 137 = .ok (.iadd, 1) := by decide +kernel
theorem dX6_count_138 : decode cX6_count 138 = .ok (.istore_n 2, 1) := by decide +kernel
theorem dX6_count_139 : decode cX6_count 139 = .ok (.iinc 3 1, 3) := by decide +kernel
theorem dX6_count_142 : decode cX6_count 142 = .ok (.goto (-20), 3) := by decide +kernel
theorem dX6_count_145 : decode cX6_count 145 = .ok (.iload_n 2, 1) := by decide +kernel
theorem dX6_count_146 : decode cX6_count 146 = .ok (.ireturn, 1) := by decide +kernel
theorem dX6_count_147 : decode cX6_count 147 = .ok (.ldc 156, 2) := by decide +kernel
theorem dX6_count_149 : decode cX6_count 149 = .ok (.ireturn, 1) := by decide +kernel
theorem dJ6_bitCount_0f7a4_0 : decode cJ6_bitCount_0f7a4 0 = .ok (.iload_n 0, 1) := by decide +kernel
theorem dJ6_bitCount_0f7a4_1 : decode cJ6_bitCount_0f7a4 1 = .ok (.iload_n 0, 1) := by decide +kernel
theorem dJ6_bitCount_0f7a4_2 : decode cJ6_bitCount_0f7a4 2 = .ok (.iconst 1, 1) := by decide +kernel
theorem dJ6_bitCount_0f7a4_3 : decode cJ6_bitCount_0f7a4 3 = .ok (.iushr, 1) := by decide +kernel
theorem dJ6_bitCount_0f7a4_4 : decode cJ6_bitCount_0f7a4 4 = .ok (.ldc_w 265, 3) := by decide +kernel
theorem dJ6_bitCount_0f7a4_7 : decode cJ6_bitCount_0f7a4 7 = .ok (.iand, 1) := by decide +kernel
theorem dJ6_bitCount_0f7a4_8 : decode cJ6_bitCount_0f7a4 8 = .ok (.isub, 1) := by decide +kernel
theorem dJ6_bitCount_0f7a4_9 : decode cJ6_bitCount_0f7a4 9 = .ok (.istore_n 0, 1) := by decide +kernel
theorem dJ6_bitCount_0f7a4_10 : decode cJ6_bitCount_0f7a4 10 = .ok (.iload_n 0, 1) := by decide +kernel
theorem dJ6_bitCount_0f7a4_11 : decode cJ6_bitCount_0f7a4 11 = .ok (.ldc_w 266, 3) := by decide +kernel
theorem dJ6_bitCount_0f7a4_14 : decode cJ6_bitCount_0f7a4 14 = .ok (.iand, 1) := by decide +kernel
theorem dJ6_bitCount_0f7a4_15 : decode cJ6_bitCount_0f7a4 15 = .ok (.iload_n 0, 1) := by decide +kernel
theorem dJ6_bitCount_0f7a4_16 : decode cJ6_bitCount_0f7a4 16 = .ok (.iconst 2, 1) := by decide +kernel
theorem dJ6_bitCount_0f7a4_17 : decode cJ6_bitCount_0f7a4 17 = .ok (.iushr, 1) := by decide +kernel
theorem dJ6_bitCount_0f7a4_18 : decode cJ6_bitCount_0f7a4 18 = .ok (.ldc_w 266, 3) := by decide +kernel
theorem dJ6_bitCount_0f7a4_21 : decode cJ6_bitCount_0f7a4 21 = .ok (.iand, 1) := by decide +kernel
theorem dJ6_bitCount_0f7a4_22 : decode cJ6_bitCount_0f7a4 22 = .ok (.iadd, 1) := by decide +kernel
theorem dJ6_bitCount_0f7a4_23 : decode cJ6_bitCount_0f7a4 23 = .ok (.istore_n 0, 1) := by decide +kernel
theorem dJ6_bitCount_0f7a4_24 : decode cJ6_bitCount_0f7a4 24 = .ok (.iload_n 0, 1) := by decide +kernel
theorem dJ6_bitCount_0f7a4_25 : decode cJ6_bitCount_0f7a4 25 = .ok (.iload_n 0, 1) := by decide +kernel
theorem dJ6_bitCount_0f7a4_26 : decode cJ6_bitCount_0f7a4 26 = .ok (.iconst 4, 1) := by decide +kernel
theorem dJ6_bitCount_0f7a4_27 : decode cJ6_bitCount_0f7a4 27 = .ok (.iushr, 1) := by decide +kernel
theorem dJ6_bitCount_0f7a4_28 : decode cJ6_bitCount_0f7a4 28 = .ok (.iadd, 1) := by decide +kernel
theorem dJ6_bitCount_0f7a4_29 : decode cJ6_bitCount_0f7a4 29 = .ok (.ldc_w 267, 3) := by decide +kernel
theorem dJ6_bitCount_0f7a4_32 : decode cJ6_bitCount_0f7a4 32 = .ok (.iand, 1) := by decide +kernel
theorem dJ6_bitCount_0f7a4_33 : decode cJ6_bitCount_0f7a4 33 = .ok (.istore_n 0, 1) := by decide +kernel
theorem dJ6_bitCount_0f7a4_34 : decode cJ6_bitCount_0f7a4 34 = .ok (.iload_n 0, 1) := by decide +kernel
theorem dJ6_bitCount_0f7a4_35 : decode cJ6_bitCount_0f7a4 35 = .ok (.iload_n 0, 1) := by decide +kernel
theorem dJ6_bitCount_0f7a4_36 : decode cJ6_bitCount_0f7a4 36 = .ok (.bipush 8, 2) := by decide +kernel
theorem dJ6_bitCount_0f7a4_38 : decode cJ6_bitCount_0f7a4 38 = .ok (.iushr, 1) := by decide +kernel
theorem dJ6_bitCount_0f7a4_39 : decode cJ6_bitCount_0f7a4 39 = .ok (.iadd, 1) := by decide +kernel
theorem dJ6_bitCount_0f7a4_40 : decode cJ6_bitCount_0f7a4 40 = .ok (.istore_n 0, 1) := by decide +kernel
theorem dJ6_bitCount_0f7a4_41 : decode cJ6_bitCount_0f7a4 41 = .ok (.iload_n 0, 1) := by decide +kernel
theorem dJ6_bitCount_0f7a4_42 : decode cJ6_bitCount_0f7a4 42 = .ok (.iload_n 0, 1) := by decide +kernel
theorem dJ6_bitCount_0f7a4_43 : decode cJ6_bitCount_0f7a4 43 = .ok (.bipush 16, 2) := by decide +kernel
theorem dJ6_bitCount_0f7a4_45 : decode cJ6_bitCount_0f7a4 45 = .ok (.iushr, 1) := by decide +kernel
theorem dJ6_bitCount_0f7a4_46 : decode cJ6_bitCount_0f7a4 46 = .ok (.iadd, 1) := by decide +kernel
theorem dJ6_bitCount_0f7a4_47 : decode cJ6_bitCount_0f7a4 47 = .ok (.istore_n 0, 1) := by decide +kernel
theorem dJ6_bitCount_0f7a4_48 : decode cJ6_bitCount_0f7a4 48 = .ok (.iload_n 0, 1) := by decide +kernel
theorem dJ6_bitCount_0f7a4_49 : decode cJ6_bitCount_0f7a4 49 = .ok (.bipush 63, 2) := by decide +kernel
theorem dJ6_bitCount_0f7a4_51 : decode cJ6_bitCount_0f7a4 51 = .ok (.iand, 1) := by decide +kernel
theorem dJ6_bitCount_0f7a4_52 : decode cJ6_bitCount_0f7a4 52 = .ok (.ireturn, 1) := by decide +kernel
theorem dJ9_abs_0f7a4_0 : decode cJ9_abs_0f7a4 0 = .ok (.iload_n 0, 1) := by decide +kernel
theorem dJ9_abs_0f7a4_1 : decode cJ9_abs_0f7a4 1 = .ok (.ifCond .ge 8, 3) := by decide +kernel
theorem dJ9_abs_0f7a4_4 : decode cJ9_abs_0f7a4 4 = .ok (.iload_n 0, 1) := by decide +kernel
theorem dJ9_abs_0f7a4_5 : decode cJ9_abs_0f7a4 5 = .ok (.ineg, 1) := by decide +kernel
theorem dJ9_abs_0f7a4_6 : decode cJ9_abs_0f7a4 6 = .ok (.goto 4, 3) := by decide +kernel
theorem dJ9_abs_0f7a4_9 : decode cJ9_abs_0f7a4 9 = .ok (.iload_n 0, 1) := by decide +kernel
theorem dJ9_abs_0f7a4_10 : decode cJ9_abs_0f7a4 10 = .ok (.ireturn, 1) := by decide +kernel
theorem dJ9_abs_067f4_0 : decode cJ9_abs_067f4 0 = .ok (.lload_n 0, 1) := by decide +kernel
theorem dJ9_abs_067f4_1 : decode cJ9_abs_067f4 1 = .ok (.lconst 0, 1) := by decide +kernel
theorem dJ9_abs_067f4_2 : decode cJ9_abs_067f4 2 = .ok (.lcmp, 1) := by decide +kernel
theorem dJ9_abs_067f4_3 : decode cJ9_abs_067f4 3 = .ok (.ifCond .ge 8, 3) := by decide +kernel
theorem dJ9_abs_067f4_6 : decode cJ9_abs_067f4 6 = .ok (.lload_n 0, 1) := by decide +kernel
theorem dJ9_abs_067f4_7 : decode cJ9_abs_067f4 7 = .ok (.lneg, 1) := by decide +kernel
theorem dJ9_abs_067f4_8 : decode cJ9_abs_067f4 8 = .ok (.goto 4, 3) := by decide +kernel
theorem dJ9_abs_067f4_11 : decode cJ9_abs_067f4 11 = .ok (.lload_n 0, 1) := by decide +kernel
theorem dJ9_abs_067f4_12 : decode cJ9_abs_067f4 12 = .ok (.lreturn, 1) := by decide +kernel
theorem dJ7_fill_d0a16_0 : decode cJ7_fill_d0a16 0 = .ok (.iconst 0, 1) := by decide +kernel
theorem dJ7_fill_d0a16_1 : decode cJ7_fill_d0a16 1 = .ok (.istore_n 3, 1) := by decide +kernel
theorem dJ7_fill_d0a16_2 : decode cJ7_fill_d0a16 2 = .ok (.aload_n 0, 1) := by decide +kernel
theorem dJ7_fill_d0a16_3 : decode cJ7_fill_d0a16 3 = .ok (.arraylength, 1) := by decide +kernel
theorem dJ7_fill_d0a16_4 : decode cJ7_fill_d0a16 4 = .ok (.istore 4, 2) := by decide +kernel
theorem dJ7_fill_d0a16_6 : decode cJ7_fill_d0a16 6 = .ok (.iload_n 3, 1) := by decide +kernel
theorem dJ7_fill_d0a16_7 : decode cJ7_fill_d0a16 7 = .ok (.iload 4, 2) := by decide +kernel
theorem dJ7_fill_d0a16_9 : decode cJ7_fill_d0a16 9 = .ok (.if_icmp .ge 13, 3) := by decide +kernel
theorem dJ7_fill_d0a16_12 : decode cJ7_fill_d0a16 12 = .ok (.aload_n 0, 1) := by decide +kernel
theorem dJ7_fill_d0a16_13 : decode cJ7_fill_d0a16 13 = .ok (.iload_n 3, 1) := by decide +kernel
theorem dJ7_fill_d0a16_14 : decode cJ7_fill_d0a16 14 = .ok (.lload_n 1, 1) := by decide +kernel
theorem dJ7_fill_d0a16_15 : decode cJ7_fill_d0a16 15 = .ok (.lastore, 1) := by decide +kernel
theorem dJ7_fill_d0a16_16 : decode cJ7_fill_d0a16 16 = .ok (.iinc 3 1, 3) := by decide +kernel
theorem dJ7_fill_d0a16_19 : decode cJ7_fill_d0a16 19 = .ok (.goto (-13), 3) := by decide +kernel
theorem dJ7_fill_d0a16_22 : decode cJ7_fill_d0a16 22 = .ok (.return_, 1) := by decide +kernel
theorem dJ7_fill_53178_0 : decode cJ7_fill_53178 0 = .ok (.iconst 0, 1) := by decide +kernel
theorem dJ7_fill_53178_1 : decode cJ7_fill_53178 1 = .ok (.istore_n 2, 1) := by decide +kernel
theorem dJ7_fill_53178_2 : decode cJ7_fill_53178 2 = .ok (.aload_n 0, 1) := by decide +kernel
theorem dJ7_fill_53178_3 : decode cJ7_fill_53178 3 = .ok (.arraylength, 1) := by decide +kernel
theorem dJ7_fill_53178_4 : decode cJ7_fill_53178 4 = .ok (.istore_n 3, 1) := by decide +kernel
theorem dJ7_fill_53178_5 : decode cJ7_fill_53178 5 = .ok (.iload_n 2, 1) := by decide +kernel
theorem dJ7_fill_53178_6 : decode cJ7_fill_53178 6 = .ok (.iload_n 3, 1) := by decide +kernel
theorem dJ7_fill_53178_7 : decode cJ7_fill_53178 7 = .ok (.if_icmp .ge 13, 3) := by decide +kernel
theorem dJ7_fill_53178_10 : decode cJ7_fill_53178 10 = .ok (.aload_n 0, 1) := by decide +kernel
theorem dJ7_fill_53178_11 : decode cJ7_fill_53178 11 = .ok (.iload_n 2, 1) := by decide +kernel
theorem dJ7_fill_53178_12 : decode cJ7_fill_53178 12 = .ok (.iload_n 1, 1) := by decide +kernel
theorem dJ7_fill_53178_13 : decode cJ7_fill_53178 13 = .ok (.iastore, 1) := by decide +kernel
theorem dJ7_fill_53178_14 : decode cJ7_fill_53178 14 = .ok (.iinc 2 1, 3) := by decide +kernel
theorem dJ7_fill_53178_17 : decode cJ7_fill_53178 17 = .ok (.goto (-12), 3) := by decide +kernel
theorem dJ7_fill_53178_20 : decode cJ7_fill_53178 20 = .ok (.return_, 1) := by decide +kernel
theorem dL_law_0 : decode cL_law 0 = .ok (.new 7, 3) := by decide +kernel
theorem dL_law_3 : decode cL_law 3 = .ok (.dup, 1) := by decide +kernel
theorem dL_law_4 : decode cL_law 4 = .ok (.invokespecial 9, 3) := by decide +kernel
theorem dL_law_7 : decode cL_law 7 = .ok (.astore_n 1, 1) := by decide +kernel
theorem dL_law_8 : decode cL_law 8 = .ok (.new 10, 3) := by decide +kernel
theorem dL_law_11 : decode cL_law 11 = .ok (.dup, 1) := by decide +kernel
theorem dL_law_12 : decode cL_law 12 = .ok (.invokespecial 12, 3) := by decide +kernel
theorem dL_law_15 : decode cL_law 15 = .ok (.astore_n 2, 1) := by decide +kernel
theorem dL_law_16 : decode cL_law 16 = .ok (.iconst 0, 1) := by decide +kernel
theorem dL_law_17 : decode cL_law 17 = .ok (.istore_n 3, 1) := by decide +kernel
theorem dL_law_18 : decode cL_law 18 = .ok (.iload_n 3, 1) := by decide +kernel
theorem dL_law_19 : decode cL_law 19 = .ok (.aload_n 0, 1) := by decide +kernel
theorem dL_law_20 : decode cL_law 20 = .ok (.arraylength, 1) := by decide +kernel
theorem dL_law_21 : decode cL_law 21 = .ok (.iconst 4, 1) := by decide +kernel
theorem dL_law_22 : decode cL_law 22 = .ok (.isub, 1) := by decide +kernel
theorem dL_law_23 : decode cL_law 23 = .ok (.if_icmp .gt 736, 3) := by decide +kernel
theorem dL_law_26 : decode cL_law 26 = .ok (.aload_n 0, 1) := by decide +kernel
theorem dL_law_27 : decode cL_law 27 = .ok (.iload_n 3, 1) := by decide +kernel
theorem dL_law_28 : decode cL_law 28 = .ok (.iaload, 1) := by decide +kernel
theorem dL_law_29 : decode cL_law 29 = .ok (.bipush 31, 2) := by decide +kernel
theorem dL_law_31 : decode cL_law 31 = .ok (.iand, 1) := by decide +kernel
theorem dL_law_32 : decode cL_law 32 = .ok (.tableswitch 721 0 20 #[100, 133, 146, 189, 232, 275, 324, 357, 370, 383, 406, 429, 463, 507, 540, 563, 586, 619, 642, 665, 698], 100) := by decide +kernel
theorem dL_law_132 : decode cL_law 132 = .ok (.aload_n 1, 1) := by decide +kernel
theorem dL_law_133 : decode cL_law 133 = .ok (.aload_n 0, 1) := by decide +kernel
theorem dL_law_134 : decode cL_law 134 = .ok (.iload_n 3, 1) := by decide +kernel
theorem dL_law_135 : decode cL_law 135 = .ok (.iconst 1, 1) := by decide +kernel
theorem dL_law_136 : decode cL_law 136 = .ok (.iadd, 1) := by decide +kernel
theorem dL_law_137 : decode cL_law 137 = .ok (.iaload, 1) := by decide +kernel
theorem dL_law_138 : decode cL_law 138 = .ok (.aload_n 0, 1) := by decide +kernel
theorem dL_law_139 : decode cL_law 139 = .ok (.iload_n 3, 1) := by decide +kernel
theorem dL_law_140 : decode cL_law 140 = .ok (.iconst 2, 1) := by decide +kernel
theorem dL_law_141 : decode cL_law 141 = .ok (.iadd, 1) := by decide +kernel
theorem dL_law_142 : decode cL_law 142 = .ok (.iaload, 1) := by decide +kernel
theorem dL_law_143 : decode cL_law 143 = .ok (.invokevirtual 13, 3) := by decide +kernel
theorem dL_law_146 : decode cL_law 146 = .ok (.aload_n 2, 1) := by decide +kernel
theorem dL_law_147 : decode cL_law 147 = .ok (.aload_n 0, 1) := by decide +kernel
theorem dL_law_148 : decode cL_law 148 = .ok (.iload_n 3, 1) := by decide +kernel
theorem dL_law_149 : decode cL_law 149 = .ok (.iconst 1, 1) := by decide +kernel
theorem dL_law_150 : decode cL_law 150 = .ok (.iadd, 1) := by decide +kernel
theorem dL_law_151 : decode cL_law 151 = .ok (.iaload, 1) := by decide +kernel
theorem dL_law_152 : decode cL_law 152 = .ok (.aload_n 0, 1) := by decide +kernel
theorem dL_law_153 : decode cL_law 153 = .ok (.iload_n 3, 1) := by decide +kernel
theorem dL_law_154 : decode cL_law 154 = .ok (.iconst 2, 1) := by decide +kernel
theorem dL_law_155 : decode cL_law 155 = .ok (.iadd, 1) := by decide +kernel
theorem dL_law_156 : decode cL_law 156 = .ok (.iaload, 1) := by decide +kernel
theorem dL_law_157 : decode cL_law 157 = .ok (.invokevirtual 17, 3) := by decide +kernel
theorem dL_law_160 : decode cL_law 160 = .ok (.if_icmp .eq 593, 3) := by decide +kernel
theorem dL_law_163 : decode cL_law 163 = .ok (.iconst 0, 1) := by decide +kernel
theorem dL_law_164 : decode cL_law 164 = .ok (.ireturn, 1) := by decide +kernel
theorem dL_law_165 : decode cL_law 165 = .ok (.aload_n 1, 1) := by decide +kernel
theorem dL_law_166 : decode cL_law 166 = .ok (.invokevirtual 18, 3) := by decide +kernel
theorem dL_law_169 : decode cL_law 169 = .ok (.aload_n 2, 1) := by decide +kernel
theorem dL_law_170 : decode cL_law 170 = .ok (.invokevirtual 22, 3) := by decide +kernel
theorem dL_law_173 : decode cL_law 173 = .ok (.if_icmp .eq 580, 3) := by decide +kernel
theorem dL_law_176 : decode cL_law 176 = .ok (.iconst 0, 1) := by decide +kernel
theorem dL_law_177 : decode cL_law 177 = .ok (.ireturn, 1) := by decide +kernel
theorem dL_law_178 : decode cL_law 178 = .ok (.aload_n 1, 1) := by decide +kernel
theorem dL_law_179 : decode cL_law 179 = .ok (.aload_n 0, 1) := by decide +kernel
theorem dL_law_180 : decode cL_law 180 = .ok (.iload_n 3, 1) := by decide +kernel
theorem dL_law_181 : decode cL_law 181 = .ok (.iconst 1, 1) := by decide +kernel
theorem dL_law_182 : decode cL_law 182 = .ok (.iadd, 1) := by decide +kernel
theorem dL_law_183 : decode cL_law 183 = .ok (.iaload, 1) := by decide +kernel
theorem dL_law_184 : decode cL_law 184 = .ok (.aload_n 0, 1) := by decide +kernel
theorem dL_law_185 : decode cL_law 185 = .ok (.iload_n 3, 1) := by decide +kernel
theorem dL_law_186 : decode cL_law 186 = .ok (.iconst 2, 1) := by decide +kernel
theorem dL_law_187 : decode cL_law 187 = .ok (.iadd, 1) := by decide +kernel
theorem dL_law_188 : decode cL_law 188 = .ok (.iaload, 1) := by decide +kernel
theorem dL_law_189 : decode cL_law 189 = .ok (.aload_n 0, 1) := by decide +kernel
theorem dL_law_190 : decode cL_law 190 = .ok (.iload_n 3, 1) := by decide +kernel
theorem dL_law_191 : decode cL_law 191 = .ok (.iconst 3, 1) := by decide +kernel
theorem dL_law_192 : decode cL_law 192 = .ok (.iadd, 1) := by decide +kernel
theorem dL_law_193 : decode cL_law 193 = .ok (.iaload, 1) := by decide +kernel
theorem dL_law_194 : decode cL_law 194 = .ok (.invokevirtual 23, 3) := by decide +kernel
theorem dL_law_197 : decode cL_law 197 = .ok (.aload_n 2, 1) := by decide +kernel
theorem dL_law_198 : decode cL_law 198 = .ok (.aload_n 0, 1) := by decide +kernel
theorem dL_law_199 : decode cL_law 199 = .ok (.iload_n 3, 1) := by decide +kernel
theorem dL_law_200 : decode cL_law 200 = .ok (.iconst 1, 1) := by decide +kernel
theorem dL_law_201 : decode cL_law 201 = .ok (.iadd, 1) := by decide +kernel
theorem dL_law_202 : decode cL_law 202 = .ok (.iaload, 1) := by decide +kernel
theorem dL_law_203 : decode cL_law 203 = .ok (.aload_n 0, 1) := by decide +kernel
theorem dL_law_204 : decode cL_law 204 = .ok (.iload_n 3, 1) := by decide +kernel
theorem dL_law_205 : decode cL_law 205 = .ok (.iconst 2, 1) := by decide +kernel
theorem dL_law_206 : decode cL_law 206 = .ok (.iadd, 1) := by decide +kernel
theorem dL_law_207 : decode cL_law 207 = .ok (.iaload, 1) := by decide +kernel
theorem dL_law_208 : decode cL_law 208 = .ok (.aload_n 0, 1) := by decide +kernel
theorem dL_law_209 : decode cL_law 209 = .ok (.iload_n 3, 1) := by decide +kernel
theorem dL_law_210 : decode cL_law 210 = .ok (.iconst 3, 1) := by decide +kernel
theorem dL_law_211 : decode cL_law 211 = .ok (.iadd, 1) := by decide +kernel
theorem dL_law_212 : decode cL_law 212 = .ok (.iaload, 1) := by decide +kernel
theorem dL_law_213 : decode cL_law 213 = .ok (.invokevirtual 27, 3) := by decide +kernel
theorem dL_law_216 : decode cL_law 216 = .ok (.if_icmp .eq 537, 3) := by decide +kernel
theorem dL_law_219 : decode cL_law 219 = .ok (.iconst 0, 1) := by decide +kernel
theorem dL_law_220 : decode cL_law 220 = .ok (.ireturn, 1) := by decide +kernel
theorem dL_law_221 : decode cL_law 221 = .ok (.aload_n 1, 1) := by decide +kernel
theorem dL_law_222 : decode cL_law 222 = .ok (.aload_n 0, 1) := by decide +kernel
theorem dL_law_223 : decode cL_law 223 = .ok (.iload_n 3, 1) := by decide +kernel
theorem dL_law_224 : decode cL_law 224 = .ok (.iconst 1, 1) := by decide +kernel
theorem dL_law_225 : decode cL_law 225 = .ok (.iadd, 1) := by decide +kernel
theorem dL_law_226 : decode cL_law 226 = .ok (.iaload, 1) := by decide +kernel
theorem dL_law_227 : decode cL_law 227 = .ok (.aload_n 0, 1) := by decide +kernel
theorem dL_law_228 : decode cL_law 228 = .ok (.iload_n 3, 1) := by decide +kernel
theorem dL_law_229 : decode cL_law 229 = .ok (.iconst 2, 1) := by decide +kernel
theorem dL_law_230 : decode cL_law 230 = .ok (.iadd, 1) := by decide +kernel
theorem dL_law_231 : decode cL_law 231 = .ok (.iaload, 1) := by decide +kernel
theorem dL_law_232 : decode cL_law 232 = .ok (.aload_n 0, 1) := by decide +kernel
theorem dL_law_233 : decode cL_law 233 = .ok (.iload_n 3, 1) := by decide +kernel
theorem dL_law_234 : decode cL_law 234 = .ok (.iconst 3, 1) := by decide +kernel
theorem dL_law_235 : decode cL_law 235 = .ok (.iadd, 1) := by decide +kernel
theorem dL_law_236 : decode cL_law 236 = .ok (.iaload, 1) := by decide +kernel
theorem dL_law_237 : decode cL_law 237 = .ok (.invokevirtual 28, 3) := by decide +kernel
theorem dL_law_240 : decode cL_law 240 = .ok (.aload_n 2, 1) := by decide +kernel
theorem dL_law_241 : decode cL_law 241 = .ok (.aload_n 0, 1) := by decide +kernel
theorem dL_law_242 : decode cL_law 242 = .ok (.iload_n 3, 1) := by decide +kernel
theorem dL_law_243 : decode cL_law 243 = .ok (.iconst 1, 1) := by decide +kernel
theorem dL_law_244 : decode cL_law 244 = .ok (.iadd, 1) := by decide +kernel
theorem dL_law_245 : decode cL_law 245 = .ok (.iaload, 1) := by decide +kernel
theorem dL_law_246 : decode cL_law 246 = .ok (.aload_n 0, 1) := by decide +kernel
theorem dL_law_247 : decode cL_law 247 = .ok (.iload_n 3, 1) := by decide +kernel
theorem dL_law_248 : decode cL_law 248 = .ok (.iconst 2, 1) := by decide +kernel
theorem dL_law_249 : decode cL_law 249 = .ok (.iadd, 1) := by decide +kernel
theorem dL_law_250 : decode cL_law 250 = .ok (.iaload, 1) := by decide +kernel
theorem dL_law_251 : decode cL_law 251 = .ok (.aload_n 0, 1) := by decide +kernel
theorem dL_law_252 : decode cL_law 252 = .ok (.iload_n 3, 1) := by decide +kernel
theorem dL_law_253 : decode cL_law 253 = .ok (.iconst 3, 1) := by decide +kernel
theorem dL_law_254 : decode cL_law 254 = .ok (.iadd, 1) := by decide +kernel
theorem dL_law_255 : decode cL_law 255 = .ok (.iaload, 1) := by decide +kernel
theorem dL_law_256 : decode cL_law 256 = .ok (.invokevirtual 31, 3) := by decide +kernel
theorem dL_law_259 : decode cL_law 259 = .ok (.if_icmp .eq 494, 3) := by decide +kernel
theorem dL_law_262 : decode cL_law 262 = .ok (.iconst 0, 1) := by decide +kernel
theorem dL_law_263 : decode cL_law 263 = .ok (.ireturn, 1) := by decide +kernel
theorem dL_law_264 : decode cL_law 264 = .ok (.aload_n 1, 1) := by decide +kernel
theorem dL_law_265 : decode cL_law 265 = .ok (.aload_n 0, 1) := by decide +kernel
theorem dL_law_266 : decode cL_law 266 = .ok (.iload_n 3, 1) := by decide +kernel
theorem dL_law_267 : decode cL_law 267 = .ok (.iconst 1, 1) := by decide +kernel
theorem dL_law_268 : decode cL_law 268 = .ok (.iadd, 1) := by decide +kernel
theorem dL_law_269 : decode cL_law 269 = .ok (.iaload, 1) := by decide +kernel
theorem dL_law_270 : decode cL_law 270 = .ok (.aload_n 0, 1) := by decide +kernel
theorem dL_law_271 : decode cL_law 271 = .ok (.iload_n 3, 1) := by decide +kernel
theorem dL_law_272 : decode cL_law 272 = .ok (.iconst 2, 1) := by decide +kernel
theorem dL_law_273 : decode cL_law 273 = .ok (.iadd, 1) := by decide +kernel
theorem dL_law_274 : decode cL_law 274 = .ok (.iaload, 1) := by decide +kernel
theorem dL_law_275 : decode cL_law 275 = .ok (.aload_n 0, 1) := by decide +kernel
theorem dL_law_276 : decode cL_law 276 = .ok (.iload_n 3, 1) := by decide +kernel
theorem dL_law_277 : decode cL_law 277 = .ok (.iconst 3, 1) := by decide +kernel
theorem dL_law_278 : decode cL_law 278 = .ok (.iadd, 1) := by decide +kernel
theorem dL_law_279 : decode cL_law 279 = .ok (.iaload, 1) := by decide +kernel
theorem dL_law_280 : decode cL_law 280 = .ok (.invokevirtual 32, 3) := by decide +kernel
theorem dL_law_283 : decode cL_law 283 = .ok (.aload_n 2, 1) := by decide +kernel
theorem dL_law_284 : decode cL_law 284 = .ok (.aload_n 0, 1) := by decide +kernel
theorem dL_law_285 : decode cL_law 285 = .ok (.iload_n 3, 1) := by decide +kernel
theorem dL_law_286 : decode cL_law 286 = .ok (.iconst 1, 1) := by decide +kernel
theorem dL_law_287 : decode cL_law 287 = .ok (.iadd, 1) := by decide +kernel
theorem dL_law_288 : decode cL_law 288 = .ok (.iaload, 1) := by decide +kernel
theorem dL_law_289 : decode cL_law 289 = .ok (.aload_n 0, 1) := by decide +kernel
theorem dL_law_290 : decode cL_law 290 = .ok (.iload_n 3, 1) := by decide +kernel
theorem dL_law_291 : decode cL_law 291 = .ok (.iconst 2, 1) := by decide +kernel
theorem dL_law_292 : decode cL_law 292 = .ok (.iadd, 1) := by decide +kernel
theorem dL_law_293 : decode cL_law 293 = .ok (.iaload, 1) := by decide +kernel
theorem dL_law_294 : decode cL_law 294 = .ok (.aload_n 0, 1) := by decide +kernel
theorem dL_law_295 : decode cL_law 295 = .ok (.iload_n 3, 1) := by decide +kernel
theorem dL_law_296 : decode cL_law 296 = .ok (.iconst 3, 1) := by decide +kernel
theorem dL_law_297 : decode cL_law 297 = .ok (.iadd, 1) := by decide +kernel
theorem dL_law_298 : decode cL_law 298 = .ok (.iaload, 1) := by decide +kernel
theorem dL_law_299 : decode cL_law 299 = .ok (.invokevirtual 35, 3) := by decide +kernel
theorem dL_law_302 : decode cL_law 302 = .ok (.if_icmp .eq 451, 3) := by decide +kernel
theorem dL_law_305 : decode cL_law 305 = .ok (.iconst 0, 1) := by decide +kernel
theorem dL_law_306 : decode cL_law 306 = .ok (.ireturn, 1) := by decide +kernel
theorem dL_law_307 : decode cL_law 307 = .ok (.aload_n 1, 1) := by decide +kernel
theorem dL_law_308 : decode cL_law 308 = .ok (.aload_n 0, 1) := by decide +kernel
theorem dL_law_309 : decode cL_law 309 = .ok (.iload_n 3, 1) := by decide +kernel
theorem dL_law_310 : decode cL_law 310 = .ok (.iconst 1, 1) := by decide +kernel
theorem dL_law_311 : decode cL_law 311 = .ok (.iadd, 1) := by decide +kernel
theorem dL_law_312 : decode cL_law 312 = .ok (.iaload, 1) := by decide +kernel
theorem dL_law_313 : decode cL_law 313 = .ok (.aload_n 0, 1) := by decide +kernel
theorem dL_law_314 : decode cL_law 314 = .ok (.iload_n 3, 1) := by decide +kernel
theorem dL_law_315 : decode cL_law 315 = .ok (.iconst 2, 1) := by decide +kernel
theorem dL_law_316 : decode cL_law 316 = .ok (.iadd, 1) := by decide +kernel
theorem dL_law_317 : decode cL_law 317 = .ok (.iaload, 1) := by decide +kernel
theorem dL_law_318 : decode cL_law 318 = .ok (.ifCond .eq 7, 3) := by decide +kernel
theorem dL_law_321 : decode cL_law 321 = .ok (.iconst 1, 1) := by decide +kernel
theorem dL_law_322 : decode cL_law 322 = .ok (.goto 4, 3) := by decide +kernel
theorem dL_law_325 : decode cL_law 325 = .ok (.iconst 0, 1) := by decide +kernel
theorem dL_law_326 : decode cL_law 326 = .ok (.invokevirtual 36, 3) := by decide +kernel
theorem dL_law_329 : decode cL_law 329 = .ok (.aload_n 2, 1) := by decide +kernel
theorem dL_law_330 : decode cL_law 330 = .ok (.aload_n 0, 1) := by decide +kernel
theorem dL_law_331 : decode cL_law 331 = .ok (.iload_n 3, 1) := by decide +kernel
theorem dL_law_332 : decode cL_law 332 = .ok (.iconst 1, 1) := by decide +kernel
theorem dL_law_333 : decode cL_law 333 = .ok (.iadd, 1) := by decide +kernel
theorem dL_law_334 : decode cL_law 334 = .ok (.iaload, 1) := by decide +kernel
theorem dL_law_335 : decode cL_law 335 = .ok (.aload_n 0, 1) := by decide +kernel
theorem dL_law_336 : decode cL_law 336 = .ok (.iload_n 3, 1) := by decide +kernel
theorem dL_law_337 : decode cL_law 337 = .ok (.iconst 2, 1) := by decide +kernel
theorem dL_law_338 : decode cL_law 338 = .ok (.iadd, 1) := by decide +kernel
theorem dL_law_339 : decode cL_law 339 = .ok (.iaload, 1) := by decide +kernel
theorem dL_law_340 : decode cL_law 340 = .ok (.ifCond .eq 7, 3) := by decide +kernel
theorem dL_law_343 : decode cL_law 343 = .ok (.iconst 1, 1) := by decide +kernel
theorem dL_law_344 : decode cL_law 344 = .ok (.goto 4, 3) := by decide +kernel
theorem dL_law_347 : decode cL_law 347 = .ok (.iconst 0, 1) := by decide +kernel
theorem dL_law_348 : decode cL_law 348 = .ok (.invokevirtual 40, 3) := by decide +kernel
theorem dL_law_351 : decode cL_law 351 = .ok (.if_icmp .eq 402, 3) := by decide +kernel
theorem dL_law_354 : decode cL_law 354 = .ok (.iconst 0, 1) := by decide +kernel
theorem dL_law_355 : decode cL_law 355 = .ok (.ireturn, 1) := by decide +kernel
theorem dL_law_356 : decode cL_law 356 = .ok (.aload_n 1, 1) := by decide +kernel
theorem dL_law_357 : decode cL_law 357 = .ok (.aload_n 0, 1) := by decide +kernel
theorem dL_law_358 : decode cL_law 358 = .ok (.iload_n 3, 1) := by decide +kernel
theorem dL_law_359 : decode cL_law 359 = .ok (.iconst 1, 1) := by decide +kernel
theorem dL_law_360 : decode cL_law 360 = .ok (.iadd, 1) := by decide +kernel
theorem dL_law_361 : decode cL_law 361 = .ok (.iaload, 1) := by decide +kernel
theorem dL_law_362 : decode cL_law 362 = .ok (.aload_n 0, 1) := by decide +kernel
theorem dL_law_363 : decode cL_law 363 = .ok (.iload_n 3, 1) := by decide +kernel
theorem dL_law_364 : decode cL_law 364 = .ok (.iconst 2, 1) := by decide +kernel
theorem dL_law_365 : decode cL_law 365 = .ok (.iadd, 1) := by decide +kernel
theorem dL_law_366 : decode cL_law 366 = .ok (.iaload, 1) := by decide +kernel
theorem dL_law_367 : decode cL_law 367 = .ok (.invokevirtual 41, 3) := by decide +kernel
theorem dL_law_370 : decode cL_law 370 = .ok (.aload_n 2, 1) := by decide +kernel
theorem dL_law_371 : decode cL_law 371 = .ok (.aload_n 0, 1) := by decide +kernel
theorem dL_law_372 : decode cL_law 372 = .ok (.iload_n 3, 1) := by decide +kernel
theorem dL_law_373 : decode cL_law 373 = .ok (.iconst 1, 1) := by decide +kernel
theorem dL_law_374 : decode cL_law 374 = .ok (.iadd, 1) := by decide +kernel
theorem dL_law_375 : decode cL_law 375 = .ok (.iaload, 1) := by decide +kernel
theorem dL_law_376 : decode cL_law 376 = .ok (.aload_n 0, 1) := by decide +kernel
theorem dL_law_377 : decode cL_law 377 = .ok (.iload_n 3, 1) := by decide +kernel
theorem dL_law_378 : decode cL_law 378 = .ok (.iconst 2, 1) := by decide +kernel
theorem dL_law_379 : decode cL_law 379 = .ok (.iadd, 1) := by decide +kernel
theorem dL_law_380 : decode cL_law 380 = .ok (.iaload, 1) := by decide +kernel
theorem dL_law_381 : decode cL_law 381 = .ok (.invokevirtual 44, 3) := by decide +kernel
theorem dL_law_384 : decode cL_law 384 = .ok (.if_icmp .eq 369, 3) := by decide +kernel
theorem dL_law_387 : decode cL_law 387 = .ok (.iconst 0, 1) := by decide +kernel
theorem dL_law_388 : decode cL_law 388 = .ok (.ireturn, 1) := by decide +kernel
theorem dL_law_389 : decode cL_law 389 = .ok (.aload_n 1, 1) := by decide +kernel
theorem dL_law_390 : decode cL_law 390 = .ok (.invokevirtual 45, 3) := by decide +kernel
theorem dL_law_393 : decode cL_law 393 = .ok (.aload_n 2, 1) := by decide +kernel
theorem dL_law_394 : decode cL_law 394 = .ok (.invokevirtual 48, 3) := by decide +kernel
theorem dL_law_397 : decode cL_law 397 = .ok (.if_icmp .eq 356, 3) := by decide +kernel
theorem dL_law_400 : decode cL_law 400 = .ok (.iconst 0, 1) := by decide +kernel
theorem dL_law_401 : decode cL_law 401 = .ok (.ireturn, 1) := by decide +kernel
theorem dL_law_402 : decode cL_law 402 = .ok (.aload_n 1, 1) := by decide +kernel
theorem dL_law_403 : decode cL_law 403 = .ok (.invokevirtual 49, 3) := by decide +kernel
theorem dL_law_406 : decode cL_law 406 = .ok (.aload_n 2, 1) := by decide +kernel
theorem dL_law_407 : decode cL_law 407 = .ok (.invokevirtual 52, 3) := by decide +kernel
theorem dL_law_410 : decode cL_law 410 = .ok (.if_icmp .eq 343, 3) := by decide +kernel
theorem dL_law_413 : decode cL_law 413 = .ok (.iconst 0, 1) := by decide +kernel
theorem dL_law_414 : decode cL_law 414 = .ok (.ireturn, 1) := by decide +kernel
theorem dL_law_415 : decode cL_law 415 = .ok (.aload_n 1, 1) := by decide +kernel
theorem dL_law_416 : decode cL_law 416 = .ok (.aload_n 0, 1) := by decide +kernel
theorem dL_law_417 : decode cL_law 417 = .ok (.iload_n 3, 1) := by decide +kernel
theorem dL_law_418 : decode cL_law 418 = .ok (.iconst 1, 1) := by decide +kernel
theorem dL_law_419 : decode cL_law 419 = .ok (.iadd, 1) := by decide +kernel
theorem dL_law_420 : decode cL_law 420 = .ok (.iaload, 1) := by decide +kernel
theorem dL_law_421 : decode cL_law 421 = .ok (.invokevirtual 53, 3) := by decide +kernel
theorem dL_law_424 : decode cL_law 424 = .ok (.aload_n 2, 1) := by decide +kernel
theorem dL_law_425 : decode cL_law 425 = .ok (.aload_n 0, 1) := by decide +kernel
theorem dL_law_426 : decode cL_law 426 = .ok (.iload_n 3, 1) := by decide +kernel
theorem dL_law_427 : decode cL_law 427 = .ok (.iconst 1, 1) := by decide +kernel
theorem dL_law_428 : decode cL_law 428 = .ok (.iadd, 1) := by decide +kernel
theorem dL_law_429 : decode cL_law 429 = .ok (.iaload, 1) := by decide +kernel
theorem dL_law_430 : decode cL_law 430 = .ok (.invokevirtual 57, 3) := by decide +kernel
theorem dL_law_433 : decode cL_law 433 = .ok (.if_icmp .eq 320, 3) := by decide +kernel
theorem dL_law_436 : decode cL_law 436 = .ok (.iconst 0, 1) := by decide +kernel
theorem dL_law_437 : decode cL_law 437 = .ok (.ireturn, 1) := by decide +kernel
theorem dL_law_438 : decode cL_law 438 = .ok (.aload_n 1, 1) := by decide +kernel
theorem dL_law_439 : decode cL_law 439 = .ok (.aload_n 0, 1) := by decide +kernel
theorem dL_law_440 : decode cL_law 440 = .ok (.iload_n 3, 1) := by decide +kernel
theorem dL_law_441 : decode cL_law 441 = .ok (.iconst 1, 1) := by decide +kernel
theorem dL_law_442 : decode cL_law 442 = .ok (.iadd, 1) := by decide +kernel
theorem dL_law_443 : decode cL_law 443 = .ok (.iaload, 1) := by decide +kernel
theorem dL_law_444 : decode cL_law 444 = .ok (.invokevirtual 58, 3) := by decide +kernel
theorem dL_law_447 : decode cL_law 447 = .ok (.aload_n 2, 1) := by decide +kernel
theorem dL_law_448 : decode cL_law 448 = .ok (.aload_n 0, 1) := by decide +kernel
theorem dL_law_449 : decode cL_law 449 = .ok (.iload_n 3, 1) := by decide +kernel
theorem dL_law_450 : decode cL_law 450 = .ok (.iconst 1, 1) := by decide +kernel
theorem dL_law_451 : decode cL_law 451 = .ok (.iadd, 1) := by decide +kernel
theorem dL_law_452 : decode cL_law 452 = .ok (.iaload, 1) := by decide +kernel
theorem dL_law_453 : decode cL_law 453 = .ok (.invokevirtual 61, 3) := by decide +kernel
theorem dL_law_456 : decode cL_law 456 = .ok (.if_icmp .eq 297, 3) := by decide +kernel
theorem dL_law_459 : decode cL_law 459 = .ok (.iconst 0, 1) := by decide +kernel
theorem dL_law_460 : decode cL_law 460 = .ok (.ireturn, 1) := by decide +kernel
theorem dL_law_461 : decode cL_law 461 = .ok (.aload_n 1, 1) := by decide +kernel
theorem dL_law_462 : decode cL_law 462 = .ok (.aload_n 0, 1) := by decide +kernel
theorem dL_law_463 : decode cL_law 463 = .ok (.iload_n 3, 1) := by decide +kernel
theorem dL_law_464 : decode cL_law 464 = .ok (.iconst 1, 1) := by decide +kernel
theorem dL_law_465 : decode cL_law 465 = .ok (.iadd, 1) := by decide +kernel
theorem dL_law_466 : decode cL_law 466 = .ok (.iaload, 1) := by decide +kernel
theorem dL_law_467 : decode cL_law 467 = .ok (.aload_n 0, 1) := by decide +kernel
theorem dL_law_468 : decode cL_law 468 = .ok (.iload_n 3, 1) := by decide +kernel
theorem dL_law_469 : decode cL_law 469 = .ok (.iconst 2, 1) := by decide +kernel
theorem dL_law_470 : decode cL_law 470 = .ok (.iadd, 1) := by decide +kernel
theorem dL_law_471 : decode cL_law 471 = .ok (.iaload, 1) := by decide +kernel
theorem dL_law_472 : decode cL_law 472 = .ok (.invokevirtual 62, 3) := by decide +kernel
theorem dL_law_475 : decode cL_law 475 = .ok (.aload_n 2, 1) := by decide +kernel
theorem dL_law_476 : decode cL_law 476 = .ok (.aload_n 0, 1) := by decide +kernel
theorem dL_law_477 : decode cL_law 477 = .ok (.iload_n 3, 1) := by decide +kernel
theorem dL_law_478 : decode cL_law 478 = .ok (.iconst 1, 1) := by decide +kernel
theorem dL_law_479 : decode cL_law 479 = .ok (.iadd, 1) := by decide +kernel
theorem dL_law_480 : decode cL_law 480 = .ok (.iaload, 1) := by decide +kernel
theorem dL_law_481 : decode cL_law 481 = .ok (.aload_n 0, 1) := by decide +kernel
theorem dL_law_482 : decode cL_law 482 = .ok (.iload_n 3, 1) := by decide +kernel
theorem dL_law_483 : decode cL_law 483 = .ok (.iconst 2, 1) := by decide +kernel
theorem dL_law_484 : decode cL_law 484 = .ok (.iadd, 1) := by decide +kernel
theorem dL_law_485 : decode cL_law 485 = .ok (.iaload, 1) := by decide +kernel
theorem dL_law_486 : decode cL_law 486 = .ok (.invokevirtual 66, 3) := by decide +kernel
theorem dL_law_489 : decode cL_law 489 = .ok (.lcmp, 1) := by decide +kernel
theorem dL_law_490 : decode cL_law 490 = .ok (.ifCond .eq 263, 3) := by decide +kernel
theorem dL_law_493 : decode cL_law 493 = .ok (.iconst 0, 1) := by decide +kernel
theorem dL_law_494 : decode cL_law 494 = .ok (.ireturn, 1) := by decide +kernel
theorem dL_law_495 : decode cL_law 495 = .ok (.aload_n 1, 1) := by decide +kernel
theorem dL_law_496 : decode cL_law 496 = .ok (.aload_n 0, 1) := by decide +kernel
theorem dL_law_497 : decode cL_law 497 = .ok (.iload_n 3, 1) := by decide +kernel
theorem dL_law_498 : decode cL_law 498 = .ok (.iconst 1, 1) := by decide +kernel
theorem dL_law_499 : decode cL_law 499 = .ok (.iadd, 1) := by decide +kernel
theorem dL_law_500 : decode cL_law 500 = .ok (.iaload, 1) := by decide +kernel
theorem dL_law_501 : decode cL_law 501 = .ok (.aload_n 0, 1) := by decide +kernel
theorem dL_law_502 : decode cL_law 502 = .ok (.iload_n 3, 1) := by decide +kernel
theorem dL_law_503 : decode cL_law 503 = .ok (.iconst 2, 1) := by decide +kernel
theorem dL_law_504 : decode cL_law 504 = .ok (.iadd, 1) := by decide +kernel
theorem dL_law_505 : decode cL_law 505 = .ok (.iaload, 1) := by decide +kernel
theorem dL_law_506 : decode cL_law 506 = .ok (.aload_n 0, 1) := by decide +kernel
theorem dL_law_507 : decode cL_law 507 = .ok (.iload_n 3, 1) := by decide +kernel
theorem dL_law_508 : decode cL_law 508 = .ok (.iconst 3, 1) := by decide +kernel
theorem dL_law_509 : decode cL_law 509 = .ok (.iadd, 1) := by decide +kernel
theorem dL_law_510 : decode cL_law 510 = .ok (.iaload, 1) := by decide +kernel
theorem dL_law_511 : decode cL_law 511 = .ok (.invokevirtual 67, 3) := by decide +kernel
theorem dL_law_514 : decode cL_law 514 = .ok (.aload_n 2, 1) := by decide +kernel
theorem dL_law_515 : decode cL_law 515 = .ok (.aload_n 0, 1) := by decide +kernel
theorem dL_law_516 : decode cL_law 516 = .ok (.iload_n 3, 1) := by decide +kernel
theorem dL_law_517 : decode cL_law 517 = .ok (.iconst 1, 1) := by decide +kernel
theorem dL_law_518 : decode cL_law 518 = .ok (.iadd, 1) := by decide +kernel
theorem dL_law_519 : decode cL_law 519 = .ok (.iaload, 1) := by decide +kernel
theorem dL_law_520 : decode cL_law 520 = .ok (.aload_n 0, 1) := by decide +kernel
theorem dL_law_521 : decode cL_law 521 = .ok (.iload_n 3, 1) := by decide +kernel
theorem dL_law_522 : decode cL_law 522 = .ok (.iconst 2, 1) := by decide +kernel
theorem dL_law_523 : decode cL_law 523 = .ok (.iadd, 1) := by decide +kernel
theorem dL_law_524 : decode cL_law 524 = .ok (.iaload, 1) := by decide +kernel
theorem dL_law_525 : decode cL_law 525 = .ok (.aload_n 0, 1) := by decide +kernel
theorem dL_law_526 : decode cL_law 526 = .ok (.iload_n 3, 1) := by decide +kernel
theorem dL_law_527 : decode cL_law 527 = .ok (.iconst 3, 1) := by decide +kernel
theorem dL_law_528 : decode cL_law 528 = .ok (.iadd, 1) := by decide +kernel
theorem dL_law_529 : decode cL_law 529 = .ok (.iaload, 1) := by decide +kernel
theorem dL_law_530 : decode cL_law 530 = .ok (.invokevirtual 71, 3) := by decide +kernel
theorem dL_law_533 : decode cL_law 533 = .ok (.lcmp, 1) := by decide +kernel
theorem dL_law_534 : decode cL_law 534 = .ok (.ifCond .eq 219, 3) := by decide +kernel
theorem dL_law_537 : decode cL_law 537 = .ok (.iconst 0, 1) := by decide +kernel
theorem dL_law_538 : decode cL_law 538 = .ok (.ireturn, 1) := by decide +kernel
theorem dL_law_539 : decode cL_law 539 = .ok (.aload_n 1, 1) := by decide +kernel
theorem dL_law_540 : decode cL_law 540 = .ok (.aload_n 0, 1) := by decide +kernel
theorem dL_law_541 : decode cL_law 541 = .ok (.iload_n 3, 1) := by decide +kernel
theorem dL_law_542 : decode cL_law 542 = .ok (.iconst 1, 1) := by decide +kernel
theorem dL_law_543 : decode cL_law 543 = .ok (.iadd, 1) := by decide +kernel
theorem dL_law_544 : decode cL_law 544 = .ok (.iaload, 1) := by decide +kernel
theorem dL_law_545 : decode cL_law 545 = .ok (.aload_n 0, 1) := by decide +kernel
theorem dL_law_546 : decode cL_law 546 = .ok (.iload_n 3, 1) := by decide +kernel
theorem dL_law_547 : decode cL_law 547 = .ok (.iconst 2, 1) := by decide +kernel
theorem dL_law_548 : decode cL_law 548 = .ok (.iadd, 1) := by decide +kernel
theorem dL_law_549 : decode cL_law 549 = .ok (.iaload, 1) := by decide +kernel
theorem dL_law_550 : decode cL_law 550 = .ok (.invokevirtual 72, 3) := by decide +kernel
theorem dL_law_553 : decode cL_law 553 = .ok (.aload_n 2, 1) := by decide +kernel
theorem dL_law_554 : decode cL_law 554 = .ok (.aload_n 0, 1) := by decide +kernel
theorem dL_law_555 : decode cL_law 555 = .ok (.iload_n 3, 1) := by decide +kernel
theorem dL_law_556 : decode cL_law 556 = .ok (.iconst 1, 1) := by decide +kernel
theorem dL_law_557 : decode cL_law 557 = .ok (.iadd, 1) := by decide +kernel
theorem dL_law_558 : decode cL_law 558 = .ok (.iaload, 1) := by decide +kernel
theorem dL_law_559 : decode cL_law 559 = .ok (.aload_n 0, 1) := by decide +kernel
theorem dL_law_560 : decode cL_law 560 = .ok (.iload_n 3, 1) := by decide +kernel
theorem dL_law_561 : decode cL_law 561 = .ok (.iconst 2, 1) := by decide +kernel
theorem dL_law_562 : decode cL_law 562 = .ok (.iadd, 1) := by decide +kernel
theorem dL_law_563 : decode cL_law 563 = .ok (.iaload, 1) := by decide +kernel
theorem dL_law_564 : decode cL_law 564 = .ok (.invokevirtual 75, 3) := by decide +kernel
theorem dL_law_567 : decode cL_law 567 = .ok (.if_icmp .eq 186, 3) := by decide +kernel
theorem dL_law_570 : decode cL_law 570 = .ok (.iconst 0, 1) := by decide +kernel
theorem dL_law_571 : decode cL_law 571 = .ok (.ireturn, 1) := by decide +kernel
theorem dL_law_572 : decode cL_law 572 = .ok (.aload_n 1, 1) := by decide +kernel
theorem dL_law_573 : decode cL_law 573 = .ok (.aload_n 0, 1) := by decide +kernel
theorem dL_law_574 : decode cL_law 574 = .ok (.iload_n 3, 1) := by decide +kernel
theorem dL_law_575 : decode cL_law 575 = .ok (.iconst 1, 1) := by decide +kernel
theorem dL_law_576 : decode cL_law 576 = .ok (.iadd, 1) := by decide +kernel
theorem dL_law_577 : decode cL_law 577 = .ok (.iaload, 1) := by decide +kernel
theorem dL_law_578 : decode cL_law 578 = .ok (.invokevirtual 76, 3) := by decide +kernel
theorem dL_law_581 : decode cL_law 581 = .ok (.aload_n 2, 1) := by decide +kernel
theorem dL_law_582 : decode cL_law 582 = .ok (.aload_n 0, 1) := by decide +kernel
theorem dL_law_583 : decode cL_law 583 = .ok (.iload_n 3, 1) := by decide +kernel
theorem dL_law_584 : decode cL_law 584 = .ok (.iconst 1, 1) := by decide +kernel
theorem dL_law_585 : decode cL_law 585 = .ok (.iadd, 1) := by decide +kernel
theorem dL_law_586 : decode cL_law 586 = .ok (.iaload, 1) := by decide +kernel
theorem dL_law_587 : decode cL_law 587 = .ok (.invokevirtual 79, 3) := by decide +kernel
theorem dL_law_590 : decode cL_law 590 = .ok (.if_icmp .eq 163, 3) := by decide +kernel
theorem dL_law_593 : decode cL_law 593 = .ok (.iconst 0, 1) := by decide +kernel
theorem dL_law_594 : decode cL_law 594 = .ok (.ireturn, 1) := by decide +kernel
theorem dL_law_595 : decode cL_law 595 = .ok (.aload_n 1, 1) := by decide +kernel
theorem dL_law_596 : decode cL_law 596 = .ok (.aload_n 0, 1) := by decide +kernel
theorem dL_law_597 : decode cL_law 597 = .ok (.iload_n 3, 1) := by decide +kernel
theorem dL_law_598 : decode cL_law 598 = .ok (.iconst 1, 1) := by decide +kernel
theorem dL_law_599 : decode cL_law 599 = .ok (.iadd, 1) := by decide +kernel
theorem dL_law_600 : decode cL_law 600 = .ok (.iaload, 1) := by decide +kernel
theorem dL_law_601 : decode cL_law 601 = .ok (.invokevirtual 80, 3) := by decide +kernel
theorem dL_law_604 : decode cL_law 604 = .ok (.aload_n 2, 1) := by decide +kernel
theorem dL_law_605 : decode cL_law 605 = .ok (.aload_n 0, 1) := by decide +kernel
theorem dL_law_606 : decode cL_law 606 = .ok (.iload_n 3, 1) := by decide +kernel
theorem dL_law_607 : decode cL_law 607 = .ok (.iconst 1, 1) := by decide +kernel
theorem dL_law_608 : decode cL_law 608 = .ok (.iadd, 1) := by decide +kernel
theorem dL_law_609 : decode cL_law 609 = .ok (.iaload, 1) := by decide +kernel
theorem dL_law_610 : decode cL_law 610 = .ok (.invokevirtual 83, 3) := by decide +kernel
theorem dL_law_613 : decode cL_law 613 = .ok (.if_icmp .eq 140, 3) := by decide +kernel
theorem dL_law_616 : decode cL_law 616 = .ok (.iconst 0, 1) := by decide +kernel
theorem dL_law_617 : decode cL_law 617 = .ok (.ireturn, 1) := by decide +kernel
theorem dL_law_618 : decode cL_law 618 = .ok (.aload_n 1, 1) := by decide +kernel
theorem dL_law_619 : decode cL_law 619 = .ok (.aload_n 0, 1) := by decide +kernel
theorem dL_law_620 : decode cL_law 620 = .ok (.iload_n 3, 1) := by decide +kernel
theorem dL_law_621 : decode cL_law 621 = .ok (.iconst 1, 1) := by decide +kernel
theorem dL_law_622 : decode cL_law 622 = .ok (.iadd, 1) := by decide +kernel
theorem dL_law_623 : decode cL_law 623 = .ok (.iaload, 1) := by decide +kernel
theorem dL_law_624 : decode cL_law 624 = .ok (.aload_n 0, 1) := by decide +kernel
theorem dL_law_625 : decode cL_law 625 = .ok (.iload_n 3, 1) := by decide +kernel
theorem dL_law_626 : decode cL_law 626 = .ok (.iconst 2, 1) := by decide +kernel
theorem dL_law_627 : decode cL_law 627 = .ok (.iadd, 1) := by decide +kernel
theorem dL_law_628 : decode cL_law 628 = .ok (.iaload, 1) := by decide +kernel
theorem dL_law_629 : decode cL_law 629 = .ok (.invokevirtual 84, 3) := by decide +kernel
theorem dL_law_632 : decode cL_law 632 = .ok (.aload_n 2, 1) := by decide +kernel
theorem dL_law_633 : decode cL_law 633 = .ok (.aload_n 0, 1) := by decide +kernel
theorem dL_law_634 : decode cL_law 634 = .ok (.iload_n 3, 1) := by decide +kernel
theorem dL_law_635 : decode cL_law 635 = .ok (.iconst 1, 1) := by decide +kernel
theorem dL_law_636 : decode cL_law 636 = .ok (.iadd, 1) := by decide +kernel
theorem dL_law_637 : decode cL_law 637 = .ok (.iaload, 1) := by decide +kernel
theorem dL_law_638 : decode cL_law 638 = .ok (.aload_n 0, 1) := by decide +kernel
theorem dL_law_639 : decode cL_law 639 = .ok (.iload_n 3, 1) := by decide +kernel
theorem dL_law_640 : decode cL_law 640 = .ok (.iconst 2, 1) := by decide +kernel
theorem dL_law_641 : decode cL_law 641 = .ok (.iadd, 1) := by decide +kernel
theorem dL_law_642 : decode cL_law 642 = .ok (.iaload, 1) := by decide +kernel
theorem dL_law_643 : decode cL_law 643 = .ok (.invokevirtual 87, 3) := by decide +kernel
theorem dL_law_646 : decode cL_law 646 = .ok (.if_icmp .eq 107, 3) := by decide +kernel
theorem dL_law_649 : decode cL_law 649 = .ok (.iconst 0, 1) := by decide +kernel
theorem dL_law_650 : decode cL_law 650 = .ok (.ireturn, 1) := by decide +kernel
theorem dL_law_651 : decode cL_law 651 = .ok (.aload_n 1, 1) := by decide +kernel
theorem dL_law_652 : decode cL_law 652 = .ok (.aload_n 0, 1) := by decide +kernel
theorem dL_law_653 : decode cL_law 653 = .ok (.iload_n 3, 1) := by decide +kernel
theorem dL_law_654 : decode cL_law 654 = .ok (.iconst 1, 1) := by decide +kernel
theorem dL_law_655 : decode cL_law 655 = .ok (.iadd, 1) := by decide +kernel
theorem dL_law_656 : decode cL_law 656 = .ok (.iaload, 1) := by decide +kernel
theorem dL_law_657 : decode cL_law 657 = .ok (.invokevirtual 88, 3) := by decide +kernel
theorem dL_law_660 : decode cL_law 660 = .ok (.aload_n 2, 1) := by decide +kernel
theorem dL_law_661 : decode cL_law 661 = .ok (.aload_n 0, 1) := by decide +kernel
theorem dL_law_662 : decode cL_law 662 = .ok (.iload_n 3, 1) := by decide +kernel
theorem dL_law_663 : decode cL_law 663 = .ok (.iconst 1, 1) := by decide +kernel
theorem dL_law_664 : decode cL_law 664 = .ok (.iadd, 1) := by decide +kernel
theorem dL_law_665 : decode cL_law 665 = .ok (.iaload, 1) := by decide +kernel
theorem dL_law_666 : decode cL_law 666 = .ok (.invokevirtual 91, 3) := by decide +kernel
theorem dL_law_669 : decode cL_law 669 = .ok (.if_icmp .eq 84, 3) := by decide +kernel
theorem dL_law_672 : decode cL_law 672 = .ok (.iconst 0, 1) := by decide +kernel
theorem dL_law_673 : decode cL_law 673 = .ok (.ireturn, 1) := by decide +kernel
theorem dL_law_674 : decode cL_law 674 = .ok (.aload_n 1, 1) := by decide +kernel
theorem dL_law_675 : decode cL_law 675 = .ok (.aload_n 0, 1) := by decide +kernel
theorem dL_law_676 : decode cL_law 676 = .ok (.iload_n 3, 1) := by decide +kernel
theorem dL_law_677 : decode cL_law 677 = .ok (.iconst 1, 1) := by decide +kernel
theorem dL_law_678 : decode cL_law 678 = .ok (.iadd, 1) := by decide +kernel
theorem dL_law_679 : decode cL_law 679 = .ok (.iaload, 1) := by decide +kernel
theorem dL_law_680 : decode cL_law 680 = .ok (.invokevirtual 92, 3) := by decide +kernel
theorem dL_law_683 : decode cL_law 683 = .ok (.aload_n 2, 1) := by decide +kernel
theorem dL_law_684 : decode cL_law 684 = .ok (.aload_n 0, 1) := by decide +kernel
theorem dL_law_685 : decode cL_law 685 = .ok (.iload_n 3, 1) := by decide +kernel
theorem dL_law_686 : decode cL_law 686 = .ok (.iconst 1, 1) := by decide +kernel
theorem dL_law_687 : decode cL_law 687 = .ok (.iadd, 1) := by decide +kernel
theorem dL_law_688 : decode cL_law 688 = .ok (.iaload, 1) := by decide +kernel
theorem dL_law_689 : decode cL_law 689 = .ok (.invokevirtual 95, 3) := by decide +kernel
theorem dL_law_692 : decode cL_law 692 = .ok (.if_icmp .eq 61, 3) := by decide +kernel
theorem dL_law_695 : decode cL_law 695 = .ok (.iconst 0, 1) := by decide +kernel
theorem dL_law_696 : decode cL_law 696 = .ok (.ireturn, 1) := by decide +kernel
theorem dL_law_697 : decode cL_law 697 = .ok (.aload_n 1, 1) := by decide +kernel
theorem dL_law_698 : decode cL_law 698 = .ok (.aload_n 0, 1) := by decide +kernel
theorem dL_law_699 : decode cL_law 699 = .ok (.iload_n 3, 1) := by decide +kernel
theorem dL_law_700 : decode cL_law 700 = .ok (.iconst 1, 1) := by decide +kernel
theorem dL_law_701 : decode cL_law 701 = .ok (.iadd, 1) := by decide +kernel
theorem dL_law_702 : decode cL_law 702 = .ok (.iaload, 1) := by decide +kernel
theorem dL_law_703 : decode cL_law 703 = .ok (.aload_n 0, 1) := by decide +kernel
theorem dL_law_704 : decode cL_law 704 = .ok (.iload_n 3, 1) := by decide +kernel
theorem dL_law_705 : decode cL_law 705 = .ok (.iconst 2, 1) := by decide +kernel
theorem dL_law_706 : decode cL_law 706 = .ok (.iadd, 1) := by decide +kernel
theorem dL_law_707 : decode cL_law 707 = .ok (.iaload, 1) := by decide +kernel
theorem dL_law_708 : decode cL_law 708 = .ok (.invokevirtual 96, 3) := by decide +kernel
theorem dL_law_711 : decode cL_law 711 = .ok (.aload_n 2, 1) := by decide +kernel
theorem dL_law_712 : decode cL_law 712 = .ok (.aload_n 0, 1) := by decide +kernel
theorem dL_law_713 : decode cL_law 713 = .ok (.iload_n 3, 1) := by decide +kernel
theorem dL_law_714 : decode cL_law 714 = .ok (.iconst 1, 1) := by decide +kernel
theorem dL_law_715 : decode cL_law 715 = .ok (.iadd, 1) := by decide +kernel
theorem dL_law_716 : decode cL_law 716 = .ok (.iaload, 1) := by decide +kernel
theorem dL_law_717 : decode cL_law 717 = .ok (.aload_n 0, 1) := by decide +kernel
theorem dL_law_718 : decode cL_law 718 = .ok (.iload_n 3, 1) := by decide +kernel
theorem dL_law_719 : decode cL_law 719 = .ok (.iconst 2, 1) := by decide +kernel
theorem dL_law_720 : decode cL_law 720 = .ok (.iadd, 1) := by decide +kernel
theorem dL_law_721 : decode cL_law 721 = .ok (.iaload, 1) := by decide +kernel
theorem dL_law_722 : decode cL_law 722 = .ok (.invokevirtual 99, 3) := by decide +kernel
theorem dL_law_725 : decode cL_law 725 = .ok (.if_icmp .eq 28, 3) := by decide +kernel
theorem dL_law_728 : decode cL_law 728 = .ok (.iconst 0, 1) := by decide +kernel
theorem dL_law_729 : decode cL_law 729 = .ok (.ireturn, 1) := by decide +kernel
theorem dL_law_730 : decode cL_law 730 = .ok (.aload_n 1, 1) := by decide +kernel
theorem dL_law_731 : decode cL_law 731 = .ok (.aload_n 0, 1) := by decide +kernel
theorem dL_law_732 : decode cL_law 732 = .ok (.iload_n 3, 1) := by decide +kernel
theorem dL_law_733 : decode cL_law 733 = .ok (.iconst 1, 1) := by decide +kernel
theorem dL_law_734 : decode cL_law 734 = .ok (.iadd, 1) := by decide +kernel
theorem dL_law_735 : decode cL_law 735 = .ok (.iaload, 1) := by decide +kernel
theorem dL_law_736 : decode cL_law 736 = .ok (.invokevirtual 100, 3) := by decide +kernel
theorem dL_law_739 : decode cL_law 739 = .ok (.aload_n 2, 1) := by decide +kernel
theorem dL_law_740 : decode cL_law 740 = .ok (.aload_n 0, 1) := by decide +kernel
theorem dL_law_741 : decode cL_law 741 = .ok (.iload_n 3, 1) := by decide +kernel
theorem dL_law_742 : decode cL_law 742 = .ok (.iconst 1, 1) := by decide +kernel
theorem dL_law_743 : decode cL_law 743 = .ok (.iadd, 1) := by decide +kernel
theorem dL_law_744 : decode cL_law 744 = .ok (.iaload, 1) := by decide +kernel
theorem dL_law_745 : decode cL_law 745 = .ok (.invokevirtual 103, 3) := by decide +kernel
theorem dL_law_748 : decode cL_law 748 = .ok (.if_icmp .eq 5, 3) := by decide +kernel
theorem dL_law_751 : decode cL_law 751 = .ok (.iconst 0, 1) := by decide +kernel
theorem dL_law_752 : decode cL_law 752 = .ok (.ireturn, 1) := by decide +kernel
theorem dL_law_753 : decode cL_law 753 = .ok (.iinc 3 4, 3) := by decide +kernel
theorem dL_law_756 : decode cL_law 756 = .ok (.goto (-738), 3) := by decide +kernel
theorem dL_law_759 : decode cL_law 759 = .ok (.iconst 1, 1) := by decide +kernel
theorem dL_law_760 : decode cL_law 760 = .ok (.ireturn, 1) := by decide +kernel
end
section
/-! ===== the memory of a run as two tables (ints, longs), one list of cells for class and reference; the judgement Go ===== -/
def T0 : List Cond := lw_tbl.filter goodWord
theorem in_T0 {w : Cond} (k : Nat) (h : lw_tbl[k]? = some w) (hg : goodWord w = true) : w ∈ T0 := List.mem_filter.mpr ⟨List.mem_of_getElem? h, hg⟩
theorem T0_call {y : MethodName} {b : ByteArray} {n : Nat} {r : Option FieldType} (h : Cond.code y b n r ∈ T0) : GoodIn T0 (Cond.code y b n r :: T0) := by
  have g : GoodIn T0 T0 := fun w hw => ⟨hw, good_of_word (List.mem_filter.mp hw).2⟩
  intro w hw
  rcases List.mem_cons.mp hw with e | hw
  · subst e; exact g _ h
  · exact g w hw
def isNest : Cond → Bool
  | .fieldLinkNest _ _ _ _ _ _ => true
  | .methodLinkNest _ _ _ _ => true
  | .castable _ _ => true
  | _ => false
def N0 : List Cond := lw_tbl.filter isNest
theorem in_N0 {w : Cond} (k : Nat) (h : lw_tbl[k]? = some w) (hg : isNest w = true) : w ∈ N0 := List.mem_filter.mpr ⟨List.mem_of_getElem? h, hg⟩
theorem N0_tab {w : Cond} (h : isNest w = true) : w.onTables = true := by
  cases w <;> first | rfl | (simp [isNest] at h)
theorem N0_warm {s U : State} (hW : s.WarmedH U.vm) {w : Cond} (h : isNest w = true) (hZ : va_Nw w s) : va_Nw w U := by
  cases w <;> first | (simp [isNest] at h; done) | exact va_Nw.warmF hW hZ | exact va_Nw.warmM hW hZ | exact va_Nw.warmC hW hZ
abbrev St : Type := (Nat → Nat → Int32) × (Nat → Nat → Int64)
def uI (S : St) (k j : Nat) (v : Int32) : St := (fun a b => if a = k ∧ b = j then v else S.1 a b, S.2)
def uJ (S : St) (k j : Nat) (v : Int64) : St := (S.1, fun a b => if a = k ∧ b = j then v else S.2 a b)
/-- a cell's layout: an array (its kind 0 int, 1 long, 2 boolean, 3 int[][], 4 long[][]; its length; where its rows begin), or an object (its class, a kind for each field: 0 int, 1 long, 2 + p the cell p) -/
abbrev Lay : Type := (Nat × Nat × Nat) ⊕ (Nat × List Nat)
def lval (ad : Nat → Nat) (S : St) (k j : Nat) : Nat → Value
  | 0 => .int (S.1 k j)
  | 1 => .long (S.2 k j)
  | n + 2 => .ref (ad n)
def larr (ad : Nat → Nat) (S : St) (k len base : Nat) : Nat → vp_A
  | 1 => (len, .inr (.inl (S.2 k)))
  | 3 => (len, .inr (.inr (.inr (.inr (fun i => if i < len then some (ad (base + i)) else none)))))
  | 4 => (len, .inr (.inr (.inr (.inr (fun i => if i < len then some (ad (base + i)) else none)))))
  | _ => (len, .inl (S.1 k))
def lcell (cA : Nat → ClassId) (ad : Nat → Nat) (S : St) (k : Nat) : Lay → va_E
  | .inl x => .inl (cA x.1, larr ad S k x.2.1 x.2.2 x.1)
  | .inr o => .inr (o.1, o.2.mapIdx (fun j q => lval ad S k j q))
def wld (cA : Nat → ClassId) (ad : Nat → Nat) (L : List Lay) (S : St) : va_W := L.mapIdx (fun k x => (ad k, lcell cA ad S k x))
def wA (ad : Nat → Nat) (L : List Lay) (sz : Nat) : Nat → Prop := fun q => (∃ k, k < L.length ∧ q = ad k) ∨ sz ≤ q
def tysA (cA : Nat → ClassId) : List (ClassId × FieldType) := [(cA 0, .int), (cA 1, .long), (cA 2, .boolean), (cA 3, .array .int), (cA 4, .array .long)]
theorem wld_get {cA : Nat → ClassId} {ad : Nat → Nat} {L : List Lay} {S : St} {k : Nat} {x : Lay} (h : L[k]? = some x) : (wld cA ad L S)[k]? = some (ad k, lcell cA ad S k x) := by
  unfold wld
  rw [List.getElem?_mapIdx, h]
  rfl
theorem wld_inv {cA : Nat → ClassId} {ad : Nat → Nat} {L : List Lay} {S : St} {k : Nat} {q : Nat × va_E} (h : (wld cA ad L S)[k]? = some q) : ∃ x, L[k]? = some x ∧ q = (ad k, lcell cA ad S k x) := by
  unfold wld at h
  rw [List.getElem?_mapIdx] at h
  cases hx : L[k]? with
  | none => rw [hx] at h; cases h
  | some x => rw [hx] at h; exact ⟨x, rfl, (Option.some.inj h).symm⟩
theorem lay_lt {L : List Lay} {k : Nat} {x : Lay} (h : L[k]? = some x) : k < L.length := (List.getElem?_eq_some_iff.mp h).1
def okX (N : Nat) : Lay → Prop
  | .inl a => (a.1 = 3 ∨ a.1 = 4) → a.2.2 + a.2.1 ≤ N
  | .inr o => ∀ q ∈ o.2, q < N + 2
def inj (ad : Nat → Nat) (L : List Lay) : Prop := (∀ i j, i < L.length → j < L.length → ad i = ad j → i = j) ∧ ∀ (k : Nat) (x : Lay), L[k]? = some x → okX L.length x
theorem wld_D {cA : Nat → ClassId} {ad : Nat → Nat} {L : List Lay} {S : St} {sz : Nat} (hi : inj ad L) : va_D (wA ad L sz) (wld cA ad L S) := by
  refine ⟨fun i j p q h1 h2 e => ?_, fun k q h => ?_⟩
  · obtain ⟨x, hx, rfl⟩ := wld_inv h1
    obtain ⟨y, hy, rfl⟩ := wld_inv h2
    exact hi.1 i j (lay_lt hx) (lay_lt hy) e
  · obtain ⟨x, hx, rfl⟩ := wld_inv h
    exact Or.inl ⟨k, lay_lt hx, rfl⟩
theorem uI_ne {S : St} {k j a b : Nat} {v : Int32} (h : ¬ (a = k ∧ b = j)) : (uI S k j v).1 a b = S.1 a b := if_neg h
theorem uI_at {S : St} {k j : Nat} {v : Int32} : (uI S k j v).1 k j = v := if_pos ⟨rfl, rfl⟩
theorem uI_row {S : St} {k j a : Nat} {v : Int32} (h : a ≠ k) : (uI S k j v).1 a = S.1 a := funext fun _ => if_neg (fun q => h q.1)
theorem uJ_ne {S : St} {k j a b : Nat} {v : Int64} (h : ¬ (a = k ∧ b = j)) : (uJ S k j v).2 a b = S.2 a b := if_neg h
theorem uJ_at {S : St} {k j : Nat} {v : Int64} : (uJ S k j v).2 k j = v := if_pos ⟨rfl, rfl⟩
theorem uJ_row {S : St} {k j a : Nat} {v : Int64} (h : a ≠ k) : (uJ S k j v).2 a = S.2 a := funext fun _ => if_neg (fun q => h q.1)
theorem lval_at {ad : Nat → Nat} {S S' : St} {k j q : Nat} (h1 : S'.1 k j = S.1 k j) (h2 : S'.2 k j = S.2 k j) : lval ad S' k j q = lval ad S k j q := by
  match q with
  | 0 => simp [lval, h1]
  | 1 => simp [lval, h2]
  | n + 2 => rfl
theorem lcell_same {cA : Nat → ClassId} {ad : Nat → Nat} {S S' : St} {k : Nat} {x : Lay} (h1 : S'.1 k = S.1 k) (h2 : S'.2 k = S.2 k) : lcell cA ad S' k x = lcell cA ad S k x := by
  cases x with
  | inl x =>
    show Sum.inl (cA x.1, larr ad S' k x.2.1 x.2.2 x.1) = Sum.inl (cA x.1, larr ad S k x.2.1 x.2.2 x.1)
    have e : larr ad S' k x.2.1 x.2.2 x.1 = larr ad S k x.2.1 x.2.2 x.1 := by unfold larr; rw [h1, h2]
    rw [e]
  | inr o =>
    have e : (fun j q => lval ad S' k j q) = (fun j q => lval ad S k j q) := by
      funext j q
      exact lval_at (by rw [h1]) (by rw [h2])
    show Sum.inr (o.1, o.2.mapIdx _) = Sum.inr (o.1, o.2.mapIdx _)
    rw [e]
theorem wld_set {cA : Nat → ClassId} {ad : Nat → Nat} {L : List Lay} {S S' : St} {k : Nat} {x : Lay} {e : va_E} (hk : L[k]? = some x) (he : lcell cA ad S' k x = e) (ho : ∀ j, j ≠ k → S'.1 j = S.1 j ∧ S'.2 j = S.2 j) : (wld cA ad L S).set k (ad k, e) = wld cA ad L S' := by
  apply List.ext_getElem?
  intro i
  rw [List.getElem?_set]
  by_cases h : k = i
  · subst h
    rw [if_pos rfl, wld_get hk, he, if_pos]
    unfold wld
    rw [List.length_mapIdx]
    exact lay_lt hk
  · rw [if_neg h]
    unfold wld
    rw [List.getElem?_mapIdx, List.getElem?_mapIdx]
    cases L[i]? with
    | none => rfl
    | some y =>
      have hh := ho i (fun q => h q.symm)
      show some (ad i, lcell cA ad S i y) = some (ad i, lcell cA ad S' i y)
      rw [lcell_same hh.1 hh.2]
theorem uI_other {S : St} {k i : Nat} {v : Int32} : ∀ j, j ≠ k → (uI S k i v).1 j = S.1 j ∧ (uI S k i v).2 j = S.2 j := fun _ h => ⟨uI_row h, rfl⟩
theorem uJ_other {S : St} {k i : Nat} {v : Int64} : ∀ j, j ≠ k → (uJ S k i v).1 j = S.1 j ∧ (uJ S k i v).2 j = S.2 j := fun _ h => ⟨rfl, uJ_row h⟩
theorem uI_upd {S : St} {k i : Nat} {v : Int32} : (uI S k i v).1 k = upd (S.1 k) i v := by
  funext j
  by_cases h : j = i <;> simp [uI, upd, h]
theorem uJ_upd {S : St} {k i : Nat} {v : Int64} : (uJ S k i v).2 k = vp_updL (S.2 k) i v := by
  funext j
  by_cases h : j = i <;> simp [uJ, vp_updL, h]
theorem obj_set {ad : Nat → Nat} {S S' : St} {k j q : Nat} {fs : List Nat} {v : Value} (hj : fs[j]? = some q) (hv : lval ad S' k j q = v) (ho : ∀ i, i ≠ j → S'.1 k i = S.1 k i ∧ S'.2 k i = S.2 k i) : fs.mapIdx (fun j q => lval ad S' k j q) = (fs.mapIdx (fun j q => lval ad S k j q)).set j v := by
  apply List.ext_getElem?
  intro i
  rw [List.getElem?_set, List.getElem?_mapIdx]
  by_cases h : j = i
  · subst h
    rw [if_pos rfl, hj, if_pos]
    · show some (lval ad S' k j q) = some v
      rw [hv]
    · rw [List.length_mapIdx]
      exact (List.getElem?_eq_some_iff.mp hj).1
  · rw [if_neg h, List.getElem?_mapIdx]
    cases fs[i]? with
    | none => rfl
    | some z =>
      have hh := ho i (fun q => h q.symm)
      show some (lval ad S' k i z) = some (lval ad S k i z)
      rw [lval_at hh.1 hh.2]
/-! what every method may use of the tables and of the one static row -/
def factT (j : Nat) : Int64 := ([1, 1, 2, 6, 24, 120, 720, 5040, 40320] : List Int64).getD j 0
def Tz (A : Nat → Prop) (U : State) (H : Heap) : Prop := ∃ t : Nat, va_Z "BillHouse" "FACTORIALS" "[J" (.ref t) A U H ∧ va_T .long t 9 (fun j => .long (factT j)) A U H
def Ev (D : va_G) (cA : Nat → ClassId) (ad : Nat → Nat) (L : List Lay) (U : State) : Prop :=
  va_K D vwCl (tysA cA) U ∧ (∀ w ∈ N0, va_Nw w U) ∧ inj ad L ∧ Tz (wA ad L U.heap.size) U U.heap
def Pre (D : va_G) (cA : Nat → ClassId) (ad : Nat → Nat) (L : List Lay) (S : St) (sz : Nat) (U : State) : Prop :=
  U.heap.size = sz ∧ va_P D vwCl (wld cA ad L S) U.heap ∧ Ev D cA ad L U
def Wat (D : va_G) (cA : Nat → ClassId) (ad : Nat → Nat) (L : List Lay) (S : St) (t : State) : Prop := va_P D vwCl (wld cA ad L S) t.heap
def MetI (l : Launch) (y : MethodName) (cc : ByteArray) (nL : Nat) (ret : Option FieldType) (rm : Room) (D : va_G) (cA : Nat → ClassId) (ad : Nat → Nat) (L : List Lay) (av : List Value) (S : St) (post : Int32 → St → Prop) (mc ms : Nat) : Prop :=
  ∀ sz : Nat, Met l y (Cond.code y cc nL ret :: T0) rm (va_Pc av (Pre D cA ad L S sz)) (va_Qi post (Wat D cA ad L) (wA ad L sz)) mc ms (wA ad L sz)
def MetL (l : Launch) (y : MethodName) (cc : ByteArray) (nL : Nat) (ret : Option FieldType) (rm : Room) (D : va_G) (cA : Nat → ClassId) (ad : Nat → Nat) (L : List Lay) (av : List Value) (S : St) (post : Int64 → St → Prop) (mc ms : Nat) : Prop :=
  ∀ sz : Nat, Met l y (Cond.code y cc nL ret :: T0) rm (va_Pc av (Pre D cA ad L S sz)) (va_Ql post (Wat D cA ad L) (wA ad L sz)) mc ms (wA ad L sz)
def MetV (l : Launch) (y : MethodName) (cc : ByteArray) (nL : Nat) (ret : Option FieldType) (rm : Room) (D : va_G) (cA : Nat → ClassId) (ad : Nat → Nat) (L : List Lay) (av : List Value) (S : St) (post : St → Prop) (mc ms : Nat) : Prop :=
  ∀ sz : Nat, Met l y (Cond.code y cc nL ret :: T0) rm (va_Pc av (Pre D cA ad L S sz)) (va_Qv post (Wat D cA ad L) (wA ad L sz)) mc ms (wA ad L sz)
def QI (D : va_G) (cA : Nat → ClassId) (ad : Nat → Nat) (L : List Lay) (below : List Frame) (args : Array Value) (s : State) (mc ms : Nat) (post : Int32 → St → Prop) : State → Prop := MQ below (va_Qi post (Wat D cA ad L) (wA ad L s.heap.size)) args s mc ms (wA ad L s.heap.size)
def QL (D : va_G) (cA : Nat → ClassId) (ad : Nat → Nat) (L : List Lay) (below : List Frame) (args : Array Value) (s : State) (mc ms : Nat) (post : Int64 → St → Prop) : State → Prop := MQ below (va_Ql post (Wat D cA ad L) (wA ad L s.heap.size)) args s mc ms (wA ad L s.heap.size)
def QV (D : va_G) (cA : Nat → ClassId) (ad : Nat → Nat) (L : List Lay) (below : List Frame) (args : Array Value) (s : State) (mc ms : Nat) (post : St → Prop) : State → Prop := MQ below (va_Qv post (Wat D cA ad L) (wA ad L s.heap.size)) args s mc ms (wA ad L s.heap.size)
theorem Tz.moved {A : Nat → Prop} {u U : State} {H : Heap} (hvm : u.vm.Alike U.vm) (h : Tz A u H) : Tz A U H := by
  obtain ⟨t, h1, h2⟩ := h
  exact ⟨t, h1.moved hvm, h2.moved hvm⟩
theorem Tz.kept {A : Nat → Prop} {U : State} {H H1 : Heap} (h : Tz A U H) (hq : ∀ a : Nat, a < H.size → ¬ A a → H1[a]? = H[a]?) : Tz A U H1 := by
  obtain ⟨t, h1, h2⟩ := h
  exact ⟨t, h1.kept hq, h2.kept hq⟩
theorem Tz.narrow {A B : Nat → Prop} {U : State} {H : Heap} (h : Tz A U H) (hAB : ∀ q, B q → A q) : Tz B U H := by
  obtain ⟨t, h1, h2⟩ := h
  exact ⟨t, h1.narrow hAB, h2.narrow hAB⟩
theorem wA_mono {ad : Nat → Nat} {L : List Lay} {a b : Nat} (h : a ≤ b) : ∀ q, wA ad L b q → wA ad L a q := fun q hq => hq.elim Or.inl (fun z => Or.inr (Nat.le_trans h z))
theorem Ev.blind {D : va_G} {cA : Nat → ClassId} {ad : Nat → Nat} {L : List Lay} {U V : State} (h : Ev D cA ad L U) (hv : U.vm = V.vm) (hh : V.heap = U.heap) : Ev D cA ad L V := by
  obtain ⟨h1, h2, h3, h4⟩ := h
  have ha : U.vm.Alike V.vm := by rw [hv]; exact Vm.Alike.refl _
  refine ⟨va_K.moved ha h1, fun w hw => va_Nw.same (N0_tab (List.mem_filter.mp hw).2) hv (h2 w hw), h3, ?_⟩
  rw [hh]
  exact h4.moved ha
theorem Ev.warm {D : va_G} {cA : Nat → ClassId} {ad : Nat → Nat} {L : List Lay} {s U : State} {H : Heap} {locs : List Loc} (h : Ev D cA ad L s) (hW : s.WarmedH U.vm) (hU : U.heap = H) (hS : va_S (wA ad L s.heap.size) s.heap H locs) : Ev D cA ad L U := by
  obtain ⟨h1, h2, h3, h4⟩ := h
  refine ⟨va_K.moved hW.alike h1, fun w hw => N0_warm hW (List.mem_filter.mp hw).2 (h2 w hw), h3, ?_⟩
  rw [hU]
  exact ((h4.kept hS.2.1).moved hW.alike).narrow (wA_mono hS.1)
theorem Pre.blind {D : va_G} {cA : Nat → ClassId} {ad : Nat → Nat} {L : List Lay} {S : St} {sz : Nat} {av : List Value} : FrameBlind (va_Pc av (Pre D cA ad L S sz)) := by
  intro a U g mk q
  obtain ⟨q0, q1, q2, q3⟩ := q
  exact ⟨q0, q1, q2, q3.blind rfl rfl⟩
def Cx (p : Program) (s : State) (m : MethodId) (args : Array Value) (meth : Method) (c : Code) (cc : ByteArray) (nL : Nat) (ret : Option FieldType) (own : String) (D : va_G) (cA : Nat → ClassId) (ad : Nat → Nat) (L : List Lay) : Prop :=
  p.tables.exec = Jvm.exec ∧ c.code = cc ∧ c.maxLocals = nL ∧ meth.sig.returnType = ret ∧ meth.locks = false ∧ s.vm.findClass own = some m.cls ∧ (∀ w ∈ T0, w.before args s = true) ∧ Ev D cA ad L s
def Go (p : Program) (l : Launch) (e : Env) (R : Room) (s : State) (m : MethodId) (args : Array Value) (below : List Frame) (meth : Method) (c : Code) (D : va_G) (cA : Nat → ClassId) (ad : Nat → Nat) (L : List Lay) (nL cells slots : Nat) (Q : State → Prop) (S : St) (pc : Nat) (lv : List (Nat × Value)) (st : List Value) : Prop :=
  ∀ (H : Heap) (locs : List Loc) (ls : Array Slot), va_P D vwCl (wld cA ad L S) H → va_S (wA ad L s.heap.size) s.heap H locs → lv_has ls nL lv → W p l e R s m args below meth c H locs cells slots Q (F0 m pc ls st)
section GO
variable {p : Program} {l : Launch} {e : Env} {R : Room} {s : State} {m : MethodId} {args : Array Value} {below : List Frame} {meth : Method} {c : Code} {cc : ByteArray} {ret : Option FieldType} {own : String} {D : va_G} {cA : Nat → ClassId} {ad : Nat → Nat} {L : List Lay} {nL cells slots : Nat} {Q : State → Prop} {S : St} {lv : List (Nat × Value)} {st : List Value}

theorem go_iconst (C : Cx p s m args meth c cc nL ret own D cA ad L) (pc pc2 : Nat) {n : Int} (v : Int32) (hd : decode cc pc = .ok (.iconst n, 1)) (hv : Int32.ofInt n = v) (hp : pc + 1 = pc2) (k : Go p l e R s m args below meth c D cA ad L nL cells slots Q S pc2 lv (.int v :: st)) : Go p l e R s m args below meth c D cA ad L nL cells slots Q S pc lv st := by
  subst hp
  exact fun H locs ls hP hS hl => lv_iconst C.1 C.2.1 hd hv (k H locs ls hP hS hl)
theorem go_bipush (C : Cx p s m args meth c cc nL ret own D cA ad L) (pc pc2 : Nat) {n : Int} (v : Int32) (hd : decode cc pc = .ok (.bipush n, 2)) (hv : (Int8.ofInt n).toInt32 = v) (hp : pc + 2 = pc2) (k : Go p l e R s m args below meth c D cA ad L nL cells slots Q S pc2 lv (.int v :: st)) : Go p l e R s m args below meth c D cA ad L nL cells slots Q S pc lv st := by
  subst hp
  exact fun H locs ls hP hS hl => lv_bipush C.1 C.2.1 hd hv (k H locs ls hP hS hl)
theorem go_sipush (C : Cx p s m args meth c cc nL ret own D cA ad L) (pc pc2 : Nat) {n : Int} (v : Int32) (hd : decode cc pc = .ok (.sipush n, 3)) (hv : (Int16.ofInt n).toInt32 = v) (hp : pc + 3 = pc2) (k : Go p l e R s m args below meth c D cA ad L nL cells slots Q S pc2 lv (.int v :: st)) : Go p l e R s m args below meth c D cA ad L nL cells slots Q S pc lv st := by
  subst hp
  exact fun H locs ls hP hS hl => lv_sipush C.1 C.2.1 hd hv (k H locs ls hP hS hl)
theorem go_lconst (C : Cx p s m args meth c cc nL ret own D cA ad L) (pc pc2 : Nat) {n : Fin 2} (v : Int64) (hd : decode cc pc = .ok (.lconst n, 1)) (hv : Int64.ofNat (n : Nat) = v) (hp : pc + 1 = pc2) (k : Go p l e R s m args below meth c D cA ad L nL cells slots Q S pc2 lv (.long v :: st)) : Go p l e R s m args below meth c D cA ad L nL cells slots Q S pc lv st := by
  subst hp
  exact fun H locs ls hP hS hl => lv_lconst C.1 C.2.1 hd hv (k H locs ls hP hS hl)
theorem go_ldc (C : Cx p s m args meth c cc nL ret own D cA ad L) (pc pc2 : Nat) {i : Nat} {v : Int32} (hc : Cond.constant own i v ∈ T0) (hd : decode cc pc = .ok (.ldc i, 2)) (hp : pc + 2 = pc2) (k : Go p l e R s m args below meth c D cA ad L nL cells slots Q S pc2 lv (.int v :: st)) : Go p l e R s m args below meth c D cA ad L nL cells slots Q S pc lv st := by
  subst hp
  exact fun H locs ls hP hS hl => lv_ldc C.1 C.2.1 C.2.2.2.2.2.1 (C.2.2.2.2.2.2.1 _ hc) hd (k H locs ls hP hS hl)
theorem go_ldcw (C : Cx p s m args meth c cc nL ret own D cA ad L) (pc pc2 : Nat) {i : Nat} {v : Int32} (hc : Cond.constant own i v ∈ T0) (hd : decode cc pc = .ok (.ldc_w i, 3)) (hp : pc + 3 = pc2) (k : Go p l e R s m args below meth c D cA ad L nL cells slots Q S pc2 lv (.int v :: st)) : Go p l e R s m args below meth c D cA ad L nL cells slots Q S pc lv st := by
  subst hp
  exact fun H locs ls hP hS hl => lv_ldcw C.1 C.2.1 C.2.2.2.2.2.1 (C.2.2.2.2.2.2.1 _ hc) hd (k H locs ls hP hS hl)
theorem go_ldc2 (C : Cx p s m args meth c cc nL ret own D cA ad L) (pc pc2 : Nat) {i : Nat} {v : Int64} (hc : Cond.constantLong own i v ∈ T0) (hd : decode cc pc = .ok (.ldc2_w i, 3)) (hp : pc + 3 = pc2) (k : Go p l e R s m args below meth c D cA ad L nL cells slots Q S pc2 lv (.long v :: st)) : Go p l e R s m args below meth c D cA ad L nL cells slots Q S pc lv st := by
  subst hp
  exact fun H locs ls hP hS hl => lv_ldc2 C.1 C.2.1 C.2.2.2.2.2.1 (C.2.2.2.2.2.2.1 _ hc) hd (k H locs ls hP hS hl)
theorem go_iload_n (C : Cx p s m args meth c cc nL ret own D cA ad L) (pc pc2 : Nat) {k4 : Fin 4} (i q : Nat) {x : Int32} (hd : decode cc pc = .ok (.iload_n k4, 1)) (hi : (k4 : Nat) = i) (hq : lv[q]? = some (i, .int x)) (hp : pc + 1 = pc2) (k : Go p l e R s m args below meth c D cA ad L nL cells slots Q S pc2 lv (.int x :: st)) : Go p l e R s m args below meth c D cA ad L nL cells slots Q S pc lv st := by
  subst hp
  exact fun H locs ls hP hS hl => lv_iload_n C.1 C.2.1 hd hi (lv_at hl q hq) (k H locs ls hP hS hl)
theorem go_iload (C : Cx p s m args meth c cc nL ret own D cA ad L) (pc pc2 : Nat) (i q : Nat) {x : Int32} (hd : decode cc pc = .ok (.iload i, 2)) (hq : lv[q]? = some (i, .int x)) (hp : pc + 2 = pc2) (k : Go p l e R s m args below meth c D cA ad L nL cells slots Q S pc2 lv (.int x :: st)) : Go p l e R s m args below meth c D cA ad L nL cells slots Q S pc lv st := by
  subst hp
  exact fun H locs ls hP hS hl => lv_iload C.1 C.2.1 hd (lv_at hl q hq) (k H locs ls hP hS hl)
theorem go_lload_n (C : Cx p s m args meth c cc nL ret own D cA ad L) (pc pc2 : Nat) {k4 : Fin 4} (i q : Nat) {x : Int64} (hd : decode cc pc = .ok (.lload_n k4, 1)) (hi : (k4 : Nat) = i) (hq : lv[q]? = some (i, .long x)) (hp : pc + 1 = pc2) (k : Go p l e R s m args below meth c D cA ad L nL cells slots Q S pc2 lv (.long x :: st)) : Go p l e R s m args below meth c D cA ad L nL cells slots Q S pc lv st := by
  subst hp
  exact fun H locs ls hP hS hl => lv_lload_n C.1 C.2.1 hd hi (lv_at hl q hq) (k H locs ls hP hS hl)
theorem go_lload (C : Cx p s m args meth c cc nL ret own D cA ad L) (pc pc2 : Nat) (i q : Nat) {x : Int64} (hd : decode cc pc = .ok (.lload i, 2)) (hq : lv[q]? = some (i, .long x)) (hp : pc + 2 = pc2) (k : Go p l e R s m args below meth c D cA ad L nL cells slots Q S pc2 lv (.long x :: st)) : Go p l e R s m args below meth c D cA ad L nL cells slots Q S pc lv st := by
  subst hp
  exact fun H locs ls hP hS hl => lv_lload C.1 C.2.1 hd (lv_at hl q hq) (k H locs ls hP hS hl)
theorem go_aload_n (C : Cx p s m args meth c cc nL ret own D cA ad L) (pc pc2 : Nat) {k4 : Fin 4} (i q : Nat) {x : Nat} (hd : decode cc pc = .ok (.aload_n k4, 1)) (hi : (k4 : Nat) = i) (hq : lv[q]? = some (i, .ref x)) (hp : pc + 1 = pc2) (k : Go p l e R s m args below meth c D cA ad L nL cells slots Q S pc2 lv (.ref x :: st)) : Go p l e R s m args below meth c D cA ad L nL cells slots Q S pc lv st := by
  subst hp
  exact fun H locs ls hP hS hl => lv_aload_n C.1 C.2.1 hd hi (lv_at hl q hq) (k H locs ls hP hS hl)
theorem go_aload (C : Cx p s m args meth c cc nL ret own D cA ad L) (pc pc2 : Nat) (i q : Nat) {x : Nat} (hd : decode cc pc = .ok (.aload i, 2)) (hq : lv[q]? = some (i, .ref x)) (hp : pc + 2 = pc2) (k : Go p l e R s m args below meth c D cA ad L nL cells slots Q S pc2 lv (.ref x :: st)) : Go p l e R s m args below meth c D cA ad L nL cells slots Q S pc lv st := by
  subst hp
  exact fun H locs ls hP hS hl => lv_aload C.1 C.2.1 hd (lv_at hl q hq) (k H locs ls hP hS hl)
theorem go_istore_n (C : Cx p s m args meth c cc nL ret own D cA ad L) (pc pc2 : Nat) {k4 : Fin 4} (i : Nat) {x : Int32} (lv2 : List (Nat × Value)) (hd : decode cc pc = .ok (.istore_n k4, 1)) (hi : (k4 : Nat) = i) (hn : i < nL) (hf : (i, Value.int x) :: lv.filter (fun q => !(q.1 == i) && !(q.1 + 1 == i && q.2.category == 2)) = lv2) (hp : pc + 1 = pc2) (k : Go p l e R s m args below meth c D cA ad L nL cells slots Q S pc2 lv2 st) : Go p l e R s m args below meth c D cA ad L nL cells slots Q S pc lv (.int x :: st) := by
  subst hp
  exact fun H locs ls hP hS hl => lv_istore_n C.1 C.2.1 hd hi hl hn hf (fun ls2 hl2 => k H locs ls2 hP hS hl2)
theorem go_istore (C : Cx p s m args meth c cc nL ret own D cA ad L) (pc pc2 : Nat) (i : Nat) {x : Int32} (lv2 : List (Nat × Value)) (hd : decode cc pc = .ok (.istore i, 2)) (hn : i < nL) (hf : (i, Value.int x) :: lv.filter (fun q => !(q.1 == i) && !(q.1 + 1 == i && q.2.category == 2)) = lv2) (hp : pc + 2 = pc2) (k : Go p l e R s m args below meth c D cA ad L nL cells slots Q S pc2 lv2 st) : Go p l e R s m args below meth c D cA ad L nL cells slots Q S pc lv (.int x :: st) := by
  subst hp
  exact fun H locs ls hP hS hl => lv_istore C.1 C.2.1 hd hl hn hf (fun ls2 hl2 => k H locs ls2 hP hS hl2)
theorem go_lstore_n (C : Cx p s m args meth c cc nL ret own D cA ad L) (pc pc2 : Nat) {k4 : Fin 4} (i : Nat) {x : Int64} (lv2 : List (Nat × Value)) (hd : decode cc pc = .ok (.lstore_n k4, 1)) (hi : (k4 : Nat) = i) (hn : i + 1 < nL) (hf : (i, Value.long x) :: lv.filter (fun q => !(q.1 == i) && (!(q.1 == i + 1) && !(q.1 + 1 == i && q.2.category == 2))) = lv2) (hp : pc + 1 = pc2) (k : Go p l e R s m args below meth c D cA ad L nL cells slots Q S pc2 lv2 st) : Go p l e R s m args below meth c D cA ad L nL cells slots Q S pc lv (.long x :: st) := by
  subst hp
  exact fun H locs ls hP hS hl => lv_lstore_n C.1 C.2.1 hd hi hl hn hf (fun ls2 hl2 => k H locs ls2 hP hS hl2)
theorem go_lstore (C : Cx p s m args meth c cc nL ret own D cA ad L) (pc pc2 : Nat) (i : Nat) {x : Int64} (lv2 : List (Nat × Value)) (hd : decode cc pc = .ok (.lstore i, 2)) (hn : i + 1 < nL) (hf : (i, Value.long x) :: lv.filter (fun q => !(q.1 == i) && (!(q.1 == i + 1) && !(q.1 + 1 == i && q.2.category == 2))) = lv2) (hp : pc + 2 = pc2) (k : Go p l e R s m args below meth c D cA ad L nL cells slots Q S pc2 lv2 st) : Go p l e R s m args below meth c D cA ad L nL cells slots Q S pc lv (.long x :: st) := by
  subst hp
  exact fun H locs ls hP hS hl => lv_lstore C.1 C.2.1 hd hl hn hf (fun ls2 hl2 => k H locs ls2 hP hS hl2)
theorem go_astore_n (C : Cx p s m args meth c cc nL ret own D cA ad L) (pc pc2 : Nat) {k4 : Fin 4} (i : Nat) {x : Nat} (lv2 : List (Nat × Value)) (hd : decode cc pc = .ok (.astore_n k4, 1)) (hi : (k4 : Nat) = i) (hn : i < nL) (hf : (i, Value.ref x) :: lv.filter (fun q => !(q.1 == i) && !(q.1 + 1 == i && q.2.category == 2)) = lv2) (hp : pc + 1 = pc2) (k : Go p l e R s m args below meth c D cA ad L nL cells slots Q S pc2 lv2 st) : Go p l e R s m args below meth c D cA ad L nL cells slots Q S pc lv (.ref x :: st) := by
  subst hp
  exact fun H locs ls hP hS hl => lv_astore_n C.1 C.2.1 hd hi hl hn hf (fun ls2 hl2 => k H locs ls2 hP hS hl2)
theorem go_astore (C : Cx p s m args meth c cc nL ret own D cA ad L) (pc pc2 : Nat) (i : Nat) {x : Nat} (lv2 : List (Nat × Value)) (hd : decode cc pc = .ok (.astore i, 2)) (hn : i < nL) (hf : (i, Value.ref x) :: lv.filter (fun q => !(q.1 == i) && !(q.1 + 1 == i && q.2.category == 2)) = lv2) (hp : pc + 2 = pc2) (k : Go p l e R s m args below meth c D cA ad L nL cells slots Q S pc2 lv2 st) : Go p l e R s m args below meth c D cA ad L nL cells slots Q S pc lv (.ref x :: st) := by
  subst hp
  exact fun H locs ls hP hS hl => lv_astore C.1 C.2.1 hd hl hn hf (fun ls2 hl2 => k H locs ls2 hP hS hl2)
theorem go_iinc (C : Cx p s m args meth c cc nL ret own D cA ad L) (pc pc2 i q : Nat) {n : Int} {x : Int32} (v : Int32) (lv2 : List (Nat × Value)) (hd : decode cc pc = .ok (.iinc i n, 3)) (hq : lv[q]? = some (i, .int x)) (hv : x + Int32.ofInt n = v) (hn : i < nL) (hf : (i, Value.int v) :: lv.filter (fun q => !(q.1 == i) && !(q.1 + 1 == i && q.2.category == 2)) = lv2) (hp : pc + 3 = pc2) (k : Go p l e R s m args below meth c D cA ad L nL cells slots Q S pc2 lv2 st) : Go p l e R s m args below meth c D cA ad L nL cells slots Q S pc lv st := by
  subst hp
  exact fun H locs ls hP hS hl => lv_iinc C.1 C.2.1 hd hl hq hv hn hf (fun ls2 hl2 => k H locs ls2 hP hS hl2)
theorem go_iadd (C : Cx p s m args meth c cc nL ret own D cA ad L) (pc pc2 : Nat) {x y : Int32} (hd : decode cc pc = .ok (.iadd, 1)) (hp : pc + 1 = pc2) (k : Go p l e R s m args below meth c D cA ad L nL cells slots Q S pc2 lv (.int (x + y) :: st)) : Go p l e R s m args below meth c D cA ad L nL cells slots Q S pc lv (.int y :: .int x :: st) := by
  subst hp
  exact fun H locs ls hP hS hl => lv_iadd C.1 C.2.1 hd (k H locs ls hP hS hl)
theorem go_isub (C : Cx p s m args meth c cc nL ret own D cA ad L) (pc pc2 : Nat) {x y : Int32} (hd : decode cc pc = .ok (.isub, 1)) (hp : pc + 1 = pc2) (k : Go p l e R s m args below meth c D cA ad L nL cells slots Q S pc2 lv (.int (x - y) :: st)) : Go p l e R s m args below meth c D cA ad L nL cells slots Q S pc lv (.int y :: .int x :: st) := by
  subst hp
  exact fun H locs ls hP hS hl => lv_isub C.1 C.2.1 hd (k H locs ls hP hS hl)
theorem go_imul (C : Cx p s m args meth c cc nL ret own D cA ad L) (pc pc2 : Nat) {x y : Int32} (hd : decode cc pc = .ok (.imul, 1)) (hp : pc + 1 = pc2) (k : Go p l e R s m args below meth c D cA ad L nL cells slots Q S pc2 lv (.int (x * y) :: st)) : Go p l e R s m args below meth c D cA ad L nL cells slots Q S pc lv (.int y :: .int x :: st) := by
  subst hp
  exact fun H locs ls hP hS hl => lv_imul C.1 C.2.1 hd (k H locs ls hP hS hl)
theorem go_iand (C : Cx p s m args meth c cc nL ret own D cA ad L) (pc pc2 : Nat) {x y : Int32} (hd : decode cc pc = .ok (.iand, 1)) (hp : pc + 1 = pc2) (k : Go p l e R s m args below meth c D cA ad L nL cells slots Q S pc2 lv (.int (x &&& y) :: st)) : Go p l e R s m args below meth c D cA ad L nL cells slots Q S pc lv (.int y :: .int x :: st) := by
  subst hp
  exact fun H locs ls hP hS hl => lv_iand C.1 C.2.1 hd (k H locs ls hP hS hl)
theorem go_ior (C : Cx p s m args meth c cc nL ret own D cA ad L) (pc pc2 : Nat) {x y : Int32} (hd : decode cc pc = .ok (.ior, 1)) (hp : pc + 1 = pc2) (k : Go p l e R s m args below meth c D cA ad L nL cells slots Q S pc2 lv (.int (x ||| y) :: st)) : Go p l e R s m args below meth c D cA ad L nL cells slots Q S pc lv (.int y :: .int x :: st) := by
  subst hp
  exact fun H locs ls hP hS hl => lv_ior C.1 C.2.1 hd (k H locs ls hP hS hl)
theorem go_ixor (C : Cx p s m args meth c cc nL ret own D cA ad L) (pc pc2 : Nat) {x y : Int32} (hd : decode cc pc = .ok (.ixor, 1)) (hp : pc + 1 = pc2) (k : Go p l e R s m args below meth c D cA ad L nL cells slots Q S pc2 lv (.int (x ^^^ y) :: st)) : Go p l e R s m args below meth c D cA ad L nL cells slots Q S pc lv (.int y :: .int x :: st) := by
  subst hp
  exact fun H locs ls hP hS hl => lv_ixor C.1 C.2.1 hd (k H locs ls hP hS hl)
theorem go_ishl (C : Cx p s m args meth c cc nL ret own D cA ad L) (pc pc2 : Nat) {x y : Int32} (hd : decode cc pc = .ok (.ishl, 1)) (hp : pc + 1 = pc2) (k : Go p l e R s m args below meth c D cA ad L nL cells slots Q S pc2 lv (.int (x <<< (y &&& 31)) :: st)) : Go p l e R s m args below meth c D cA ad L nL cells slots Q S pc lv (.int y :: .int x :: st) := by
  subst hp
  exact fun H locs ls hP hS hl => lv_ishl C.1 C.2.1 hd (k H locs ls hP hS hl)
theorem go_ishr (C : Cx p s m args meth c cc nL ret own D cA ad L) (pc pc2 : Nat) {x y : Int32} (hd : decode cc pc = .ok (.ishr, 1)) (hp : pc + 1 = pc2) (k : Go p l e R s m args below meth c D cA ad L nL cells slots Q S pc2 lv (.int (x >>> (y &&& 31)) :: st)) : Go p l e R s m args below meth c D cA ad L nL cells slots Q S pc lv (.int y :: .int x :: st) := by
  subst hp
  exact fun H locs ls hP hS hl => lv_ishr C.1 C.2.1 hd (k H locs ls hP hS hl)
theorem go_ladd (C : Cx p s m args meth c cc nL ret own D cA ad L) (pc pc2 : Nat) {x y : Int64} (hd : decode cc pc = .ok (.ladd, 1)) (hp : pc + 1 = pc2) (k : Go p l e R s m args below meth c D cA ad L nL cells slots Q S pc2 lv (.long (x + y) :: st)) : Go p l e R s m args below meth c D cA ad L nL cells slots Q S pc lv (.long y :: .long x :: st) := by
  subst hp
  exact fun H locs ls hP hS hl => lv_ladd C.1 C.2.1 hd (k H locs ls hP hS hl)
theorem go_lsub (C : Cx p s m args meth c cc nL ret own D cA ad L) (pc pc2 : Nat) {x y : Int64} (hd : decode cc pc = .ok (.lsub, 1)) (hp : pc + 1 = pc2) (k : Go p l e R s m args below meth c D cA ad L nL cells slots Q S pc2 lv (.long (x - y) :: st)) : Go p l e R s m args below meth c D cA ad L nL cells slots Q S pc lv (.long y :: .long x :: st) := by
  subst hp
  exact fun H locs ls hP hS hl => lv_lsub C.1 C.2.1 hd (k H locs ls hP hS hl)
theorem go_lmul (C : Cx p s m args meth c cc nL ret own D cA ad L) (pc pc2 : Nat) {x y : Int64} (hd : decode cc pc = .ok (.lmul, 1)) (hp : pc + 1 = pc2) (k : Go p l e R s m args below meth c D cA ad L nL cells slots Q S pc2 lv (.long (x * y) :: st)) : Go p l e R s m args below meth c D cA ad L nL cells slots Q S pc lv (.long y :: .long x :: st) := by
  subst hp
  exact fun H locs ls hP hS hl => lv_lmul C.1 C.2.1 hd (k H locs ls hP hS hl)
theorem go_iushr (C : Cx p s m args meth c cc nL ret own D cA ad L) (pc pc2 : Nat) {x y : Int32} (hd : decode cc pc = .ok (.iushr, 1)) (hp : pc + 1 = pc2) (k : Go p l e R s m args below meth c D cA ad L nL cells slots Q S pc2 lv (.int ((x.toUInt32 >>> (y.toUInt32 &&& Int32.toUInt32 31)).toInt32) :: st)) : Go p l e R s m args below meth c D cA ad L nL cells slots Q S pc lv (.int y :: .int x :: st) := by
  subst hp
  exact fun H locs ls hP hS hl => lv_iushr C.1 C.2.1 hd rfl (k H locs ls hP hS hl)
theorem go_idiv (C : Cx p s m args meth c cc nL ret own D cA ad L) (pc pc2 : Nat) {x y : Int32} (hne : ¬ y = 0) (hd : decode cc pc = .ok (.idiv, 1)) (hp : pc + 1 = pc2) (k : Go p l e R s m args below meth c D cA ad L nL cells slots Q S pc2 lv (.int (x / y) :: st)) : Go p l e R s m args below meth c D cA ad L nL cells slots Q S pc lv (.int y :: .int x :: st) := by
  subst hp
  exact fun H locs ls hP hS hl => lv_idiv C.1 C.2.1 hd hne (k H locs ls hP hS hl)
theorem go_irem (C : Cx p s m args meth c cc nL ret own D cA ad L) (pc pc2 : Nat) {x y : Int32} (hne : ¬ y = 0) (hd : decode cc pc = .ok (.irem, 1)) (hp : pc + 1 = pc2) (k : Go p l e R s m args below meth c D cA ad L nL cells slots Q S pc2 lv (.int (x - x / y * y) :: st)) : Go p l e R s m args below meth c D cA ad L nL cells slots Q S pc lv (.int y :: .int x :: st) := by
  subst hp
  exact fun H locs ls hP hS hl => lv_irem C.1 C.2.1 hd hne (k H locs ls hP hS hl)
theorem go_ldiv (C : Cx p s m args meth c cc nL ret own D cA ad L) (pc pc2 : Nat) {x y : Int64} (hne : ¬ y = 0) (hd : decode cc pc = .ok (.ldiv, 1)) (hp : pc + 1 = pc2) (k : Go p l e R s m args below meth c D cA ad L nL cells slots Q S pc2 lv (.long (x / y) :: st)) : Go p l e R s m args below meth c D cA ad L nL cells slots Q S pc lv (.long y :: .long x :: st) := by
  subst hp
  exact fun H locs ls hP hS hl => lv_ldiv C.1 C.2.1 hd hne (k H locs ls hP hS hl)
theorem go_lrem (C : Cx p s m args meth c cc nL ret own D cA ad L) (pc pc2 : Nat) {x y : Int64} (hne : ¬ y = 0) (hd : decode cc pc = .ok (.lrem, 1)) (hp : pc + 1 = pc2) (k : Go p l e R s m args below meth c D cA ad L nL cells slots Q S pc2 lv (.long (x - x / y * y) :: st)) : Go p l e R s m args below meth c D cA ad L nL cells slots Q S pc lv (.long y :: .long x :: st) := by
  subst hp
  exact fun H locs ls hP hS hl => lv_lrem C.1 C.2.1 hd hne (k H locs ls hP hS hl)
theorem go_ineg (C : Cx p s m args meth c cc nL ret own D cA ad L) (pc pc2 : Nat) {x : Int32} (hd : decode cc pc = .ok (.ineg, 1)) (hp : pc + 1 = pc2) (k : Go p l e R s m args below meth c D cA ad L nL cells slots Q S pc2 lv (.int (-x) :: st)) : Go p l e R s m args below meth c D cA ad L nL cells slots Q S pc lv (.int x :: st) := by
  subst hp
  exact fun H locs ls hP hS hl => lv_ineg C.1 C.2.1 hd (k H locs ls hP hS hl)
theorem go_lneg (C : Cx p s m args meth c cc nL ret own D cA ad L) (pc pc2 : Nat) {x : Int64} (hd : decode cc pc = .ok (.lneg, 1)) (hp : pc + 1 = pc2) (k : Go p l e R s m args below meth c D cA ad L nL cells slots Q S pc2 lv (.long (-x) :: st)) : Go p l e R s m args below meth c D cA ad L nL cells slots Q S pc lv (.long x :: st) := by
  subst hp
  exact fun H locs ls hP hS hl => lv_lneg C.1 C.2.1 hd (k H locs ls hP hS hl)
theorem go_i2l (C : Cx p s m args meth c cc nL ret own D cA ad L) (pc pc2 : Nat) {x : Int32} (hd : decode cc pc = .ok (.i2l, 1)) (hp : pc + 1 = pc2) (k : Go p l e R s m args below meth c D cA ad L nL cells slots Q S pc2 lv (.long x.toInt64 :: st)) : Go p l e R s m args below meth c D cA ad L nL cells slots Q S pc lv (.int x :: st) := by
  subst hp
  exact fun H locs ls hP hS hl => lv_i2l C.1 C.2.1 hd rfl (k H locs ls hP hS hl)
theorem go_l2i (C : Cx p s m args meth c cc nL ret own D cA ad L) (pc pc2 : Nat) {x : Int64} (hd : decode cc pc = .ok (.l2i, 1)) (hp : pc + 1 = pc2) (k : Go p l e R s m args below meth c D cA ad L nL cells slots Q S pc2 lv (.int x.toInt32 :: st)) : Go p l e R s m args below meth c D cA ad L nL cells slots Q S pc lv (.long x :: st) := by
  subst hp
  exact fun H locs ls hP hS hl => lv_l2i C.1 C.2.1 hd rfl (k H locs ls hP hS hl)
theorem go_dup (C : Cx p s m args meth c cc nL ret own D cA ad L) (pc pc2 : Nat) {v : Value} (hv : v.category = 1) (hd : decode cc pc = .ok (.dup, 1)) (hp : pc + 1 = pc2) (k : Go p l e R s m args below meth c D cA ad L nL cells slots Q S pc2 lv (v :: v :: st)) : Go p l e R s m args below meth c D cA ad L nL cells slots Q S pc lv (v :: st) := by
  subst hp
  exact fun H locs ls hP hS hl => lv_dup C.1 C.2.1 hd hv (k H locs ls hP hS hl)
theorem go_dup2 (C : Cx p s m args meth c cc nL ret own D cA ad L) (pc pc2 : Nat) {v u : Value} (hv : v.category = 1) (hu : u.category = 1) (hd : decode cc pc = .ok (.dup2, 1)) (hp : pc + 1 = pc2) (k : Go p l e R s m args below meth c D cA ad L nL cells slots Q S pc2 lv (v :: u :: v :: u :: st)) : Go p l e R s m args below meth c D cA ad L nL cells slots Q S pc lv (v :: u :: st) := by
  subst hp
  exact fun H locs ls hP hS hl => lv_dup2_11 C.1 C.2.1 hd hv hu (k H locs ls hP hS hl)
theorem go_pop (C : Cx p s m args meth c cc nL ret own D cA ad L) (pc pc2 : Nat) {v : Value} (hv : v.category = 1) (hd : decode cc pc = .ok (.pop, 1)) (hp : pc + 1 = pc2) (k : Go p l e R s m args below meth c D cA ad L nL cells slots Q S pc2 lv st) : Go p l e R s m args below meth c D cA ad L nL cells slots Q S pc lv (v :: st) := by
  subst hp
  exact fun H locs ls hP hS hl => lv_pop C.1 C.2.1 hd hv (k H locs ls hP hS hl)
theorem go_if_eq (C : Cx p s m args meth c cc nL ret own D cA ad L) (pc pc2 tgt : Nat) {x : Int32} {off : Int} (hd : decode cc pc = .ok (.ifCond .eq off, 3)) (ht : (pc : Int) + off = (tgt : Int)) (hp : pc + 3 = pc2) (kt : x = 0 → Go p l e R s m args below meth c D cA ad L nL cells slots Q S tgt lv st) (kf : ¬ (x = 0) → Go p l e R s m args below meth c D cA ad L nL cells slots Q S pc2 lv st) : Go p l e R s m args below meth c D cA ad L nL cells slots Q S pc lv (.int x :: st) := by
  subst hp
  exact fun H locs ls hP hS hl => lv_if_eq C.1 C.2.1 hd ht (fun q => kt q H locs ls hP hS hl) (fun q => kf q H locs ls hP hS hl)
theorem go_icmp_eq (C : Cx p s m args meth c cc nL ret own D cA ad L) (pc pc2 tgt : Nat) {x y : Int32} {off : Int} (hd : decode cc pc = .ok (.if_icmp .eq off, 3)) (ht : (pc : Int) + off = (tgt : Int)) (hp : pc + 3 = pc2) (kt : x = y → Go p l e R s m args below meth c D cA ad L nL cells slots Q S tgt lv st) (kf : ¬ (x = y) → Go p l e R s m args below meth c D cA ad L nL cells slots Q S pc2 lv st) : Go p l e R s m args below meth c D cA ad L nL cells slots Q S pc lv (.int y :: .int x :: st) := by
  subst hp
  exact fun H locs ls hP hS hl => lv_icmp_eq C.1 C.2.1 hd ht (fun q => kt q H locs ls hP hS hl) (fun q => kf q H locs ls hP hS hl)
theorem go_lcmp_eq (C : Cx p s m args meth c cc nL ret own D cA ad L) (pc pc2 tgt : Nat) {x y : Int64} {off : Int} (hd : decode cc pc = .ok (.lcmp, 1)) (hd2 : decode cc (pc + 1) = .ok (.ifCond .eq off, 3)) (ht : ((pc + 1 : Nat) : Int) + off = (tgt : Int)) (hp : pc + 1 + 3 = pc2) (kt : x = y → Go p l e R s m args below meth c D cA ad L nL cells slots Q S tgt lv st) (kf : ¬ (x = y) → Go p l e R s m args below meth c D cA ad L nL cells slots Q S pc2 lv st) : Go p l e R s m args below meth c D cA ad L nL cells slots Q S pc lv (.long y :: .long x :: st) := by
  subst hp
  exact fun H locs ls hP hS hl => W.lcmp C.1 C.2.1 hd (lv_if_eq C.1 C.2.1 hd2 ht (fun q => kt ((lg_cmp_eq x y).mp q) H locs ls hP hS hl) (fun q => kf (fun z => q ((lg_cmp_eq x y).mpr z)) H locs ls hP hS hl))
theorem go_if_ne (C : Cx p s m args meth c cc nL ret own D cA ad L) (pc pc2 tgt : Nat) {x : Int32} {off : Int} (hd : decode cc pc = .ok (.ifCond .ne off, 3)) (ht : (pc : Int) + off = (tgt : Int)) (hp : pc + 3 = pc2) (kt : ¬ x = 0 → Go p l e R s m args below meth c D cA ad L nL cells slots Q S tgt lv st) (kf : x = 0 → Go p l e R s m args below meth c D cA ad L nL cells slots Q S pc2 lv st) : Go p l e R s m args below meth c D cA ad L nL cells slots Q S pc lv (.int x :: st) := by
  subst hp
  exact fun H locs ls hP hS hl => lv_if_ne C.1 C.2.1 hd ht (fun q => kt q H locs ls hP hS hl) (fun q => kf q H locs ls hP hS hl)
theorem go_icmp_ne (C : Cx p s m args meth c cc nL ret own D cA ad L) (pc pc2 tgt : Nat) {x y : Int32} {off : Int} (hd : decode cc pc = .ok (.if_icmp .ne off, 3)) (ht : (pc : Int) + off = (tgt : Int)) (hp : pc + 3 = pc2) (kt : ¬ x = y → Go p l e R s m args below meth c D cA ad L nL cells slots Q S tgt lv st) (kf : x = y → Go p l e R s m args below meth c D cA ad L nL cells slots Q S pc2 lv st) : Go p l e R s m args below meth c D cA ad L nL cells slots Q S pc lv (.int y :: .int x :: st) := by
  subst hp
  exact fun H locs ls hP hS hl => lv_icmp_ne C.1 C.2.1 hd ht (fun q => kt q H locs ls hP hS hl) (fun q => kf q H locs ls hP hS hl)
theorem go_lcmp_ne (C : Cx p s m args meth c cc nL ret own D cA ad L) (pc pc2 tgt : Nat) {x y : Int64} {off : Int} (hd : decode cc pc = .ok (.lcmp, 1)) (hd2 : decode cc (pc + 1) = .ok (.ifCond .ne off, 3)) (ht : ((pc + 1 : Nat) : Int) + off = (tgt : Int)) (hp : pc + 1 + 3 = pc2) (kt : ¬ x = y → Go p l e R s m args below meth c D cA ad L nL cells slots Q S tgt lv st) (kf : x = y → Go p l e R s m args below meth c D cA ad L nL cells slots Q S pc2 lv st) : Go p l e R s m args below meth c D cA ad L nL cells slots Q S pc lv (.long y :: .long x :: st) := by
  subst hp
  exact fun H locs ls hP hS hl => W.lcmp C.1 C.2.1 hd (lv_if_ne C.1 C.2.1 hd2 ht (fun q => kt ((not_congr (lg_cmp_eq x y)).mp q) H locs ls hP hS hl) (fun q => kf ((lg_cmp_eq x y).mp q) H locs ls hP hS hl))
theorem go_if_lt (C : Cx p s m args meth c cc nL ret own D cA ad L) (pc pc2 tgt : Nat) {x : Int32} {off : Int} (hd : decode cc pc = .ok (.ifCond .lt off, 3)) (ht : (pc : Int) + off = (tgt : Int)) (hp : pc + 3 = pc2) (kt : x < 0 → Go p l e R s m args below meth c D cA ad L nL cells slots Q S tgt lv st) (kf : ¬ (x < 0) → Go p l e R s m args below meth c D cA ad L nL cells slots Q S pc2 lv st) : Go p l e R s m args below meth c D cA ad L nL cells slots Q S pc lv (.int x :: st) := by
  subst hp
  exact fun H locs ls hP hS hl => lv_if_lt C.1 C.2.1 hd ht (fun q => kt q H locs ls hP hS hl) (fun q => kf q H locs ls hP hS hl)
theorem go_icmp_lt (C : Cx p s m args meth c cc nL ret own D cA ad L) (pc pc2 tgt : Nat) {x y : Int32} {off : Int} (hd : decode cc pc = .ok (.if_icmp .lt off, 3)) (ht : (pc : Int) + off = (tgt : Int)) (hp : pc + 3 = pc2) (kt : x < y → Go p l e R s m args below meth c D cA ad L nL cells slots Q S tgt lv st) (kf : ¬ (x < y) → Go p l e R s m args below meth c D cA ad L nL cells slots Q S pc2 lv st) : Go p l e R s m args below meth c D cA ad L nL cells slots Q S pc lv (.int y :: .int x :: st) := by
  subst hp
  exact fun H locs ls hP hS hl => lv_icmp_lt C.1 C.2.1 hd ht (fun q => kt q H locs ls hP hS hl) (fun q => kf q H locs ls hP hS hl)
theorem go_lcmp_lt (C : Cx p s m args meth c cc nL ret own D cA ad L) (pc pc2 tgt : Nat) {x y : Int64} {off : Int} (hd : decode cc pc = .ok (.lcmp, 1)) (hd2 : decode cc (pc + 1) = .ok (.ifCond .lt off, 3)) (ht : ((pc + 1 : Nat) : Int) + off = (tgt : Int)) (hp : pc + 1 + 3 = pc2) (kt : x < y → Go p l e R s m args below meth c D cA ad L nL cells slots Q S tgt lv st) (kf : ¬ (x < y) → Go p l e R s m args below meth c D cA ad L nL cells slots Q S pc2 lv st) : Go p l e R s m args below meth c D cA ad L nL cells slots Q S pc lv (.long y :: .long x :: st) := by
  subst hp
  exact fun H locs ls hP hS hl => W.lcmp C.1 C.2.1 hd (lv_if_lt C.1 C.2.1 hd2 ht (fun q => kt ((lg_cmp_lt x y).mp q) H locs ls hP hS hl) (fun q => kf (fun z => q ((lg_cmp_lt x y).mpr z)) H locs ls hP hS hl))
theorem go_if_ge (C : Cx p s m args meth c cc nL ret own D cA ad L) (pc pc2 tgt : Nat) {x : Int32} {off : Int} (hd : decode cc pc = .ok (.ifCond .ge off, 3)) (ht : (pc : Int) + off = (tgt : Int)) (hp : pc + 3 = pc2) (kt : 0 ≤ x → Go p l e R s m args below meth c D cA ad L nL cells slots Q S tgt lv st) (kf : ¬ (0 ≤ x) → Go p l e R s m args below meth c D cA ad L nL cells slots Q S pc2 lv st) : Go p l e R s m args below meth c D cA ad L nL cells slots Q S pc lv (.int x :: st) := by
  subst hp
  exact fun H locs ls hP hS hl => lv_if_ge C.1 C.2.1 hd ht (fun q => kt q H locs ls hP hS hl) (fun q => kf q H locs ls hP hS hl)
theorem go_icmp_ge (C : Cx p s m args meth c cc nL ret own D cA ad L) (pc pc2 tgt : Nat) {x y : Int32} {off : Int} (hd : decode cc pc = .ok (.if_icmp .ge off, 3)) (ht : (pc : Int) + off = (tgt : Int)) (hp : pc + 3 = pc2) (kt : y ≤ x → Go p l e R s m args below meth c D cA ad L nL cells slots Q S tgt lv st) (kf : ¬ (y ≤ x) → Go p l e R s m args below meth c D cA ad L nL cells slots Q S pc2 lv st) : Go p l e R s m args below meth c D cA ad L nL cells slots Q S pc lv (.int y :: .int x :: st) := by
  subst hp
  exact fun H locs ls hP hS hl => lv_icmp_ge C.1 C.2.1 hd ht (fun q => kt q H locs ls hP hS hl) (fun q => kf q H locs ls hP hS hl)
theorem go_lcmp_ge (C : Cx p s m args meth c cc nL ret own D cA ad L) (pc pc2 tgt : Nat) {x y : Int64} {off : Int} (hd : decode cc pc = .ok (.lcmp, 1)) (hd2 : decode cc (pc + 1) = .ok (.ifCond .ge off, 3)) (ht : ((pc + 1 : Nat) : Int) + off = (tgt : Int)) (hp : pc + 1 + 3 = pc2) (kt : y ≤ x → Go p l e R s m args below meth c D cA ad L nL cells slots Q S tgt lv st) (kf : ¬ (y ≤ x) → Go p l e R s m args below meth c D cA ad L nL cells slots Q S pc2 lv st) : Go p l e R s m args below meth c D cA ad L nL cells slots Q S pc lv (.long y :: .long x :: st) := by
  subst hp
  exact fun H locs ls hP hS hl => W.lcmp C.1 C.2.1 hd (lv_if_ge C.1 C.2.1 hd2 ht (fun q => kt ((lg_cmp_ge x y).mp q) H locs ls hP hS hl) (fun q => kf (fun z => q ((lg_cmp_ge x y).mpr z)) H locs ls hP hS hl))
theorem go_if_gt (C : Cx p s m args meth c cc nL ret own D cA ad L) (pc pc2 tgt : Nat) {x : Int32} {off : Int} (hd : decode cc pc = .ok (.ifCond .gt off, 3)) (ht : (pc : Int) + off = (tgt : Int)) (hp : pc + 3 = pc2) (kt : 0 < x → Go p l e R s m args below meth c D cA ad L nL cells slots Q S tgt lv st) (kf : ¬ (0 < x) → Go p l e R s m args below meth c D cA ad L nL cells slots Q S pc2 lv st) : Go p l e R s m args below meth c D cA ad L nL cells slots Q S pc lv (.int x :: st) := by
  subst hp
  exact fun H locs ls hP hS hl => lv_if_gt C.1 C.2.1 hd ht (fun q => kt q H locs ls hP hS hl) (fun q => kf q H locs ls hP hS hl)
theorem go_icmp_gt (C : Cx p s m args meth c cc nL ret own D cA ad L) (pc pc2 tgt : Nat) {x y : Int32} {off : Int} (hd : decode cc pc = .ok (.if_icmp .gt off, 3)) (ht : (pc : Int) + off = (tgt : Int)) (hp : pc + 3 = pc2) (kt : y < x → Go p l e R s m args below meth c D cA ad L nL cells slots Q S tgt lv st) (kf : ¬ (y < x) → Go p l e R s m args below meth c D cA ad L nL cells slots Q S pc2 lv st) : Go p l e R s m args below meth c D cA ad L nL cells slots Q S pc lv (.int y :: .int x :: st) := by
  subst hp
  exact fun H locs ls hP hS hl => lv_icmp_gt C.1 C.2.1 hd ht (fun q => kt q H locs ls hP hS hl) (fun q => kf q H locs ls hP hS hl)
theorem go_lcmp_gt (C : Cx p s m args meth c cc nL ret own D cA ad L) (pc pc2 tgt : Nat) {x y : Int64} {off : Int} (hd : decode cc pc = .ok (.lcmp, 1)) (hd2 : decode cc (pc + 1) = .ok (.ifCond .gt off, 3)) (ht : ((pc + 1 : Nat) : Int) + off = (tgt : Int)) (hp : pc + 1 + 3 = pc2) (kt : y < x → Go p l e R s m args below meth c D cA ad L nL cells slots Q S tgt lv st) (kf : ¬ (y < x) → Go p l e R s m args below meth c D cA ad L nL cells slots Q S pc2 lv st) : Go p l e R s m args below meth c D cA ad L nL cells slots Q S pc lv (.long y :: .long x :: st) := by
  subst hp
  exact fun H locs ls hP hS hl => W.lcmp C.1 C.2.1 hd (lv_if_gt C.1 C.2.1 hd2 ht (fun q => kt ((lg_cmp_gt x y).mp q) H locs ls hP hS hl) (fun q => kf (fun z => q ((lg_cmp_gt x y).mpr z)) H locs ls hP hS hl))
theorem go_if_le (C : Cx p s m args meth c cc nL ret own D cA ad L) (pc pc2 tgt : Nat) {x : Int32} {off : Int} (hd : decode cc pc = .ok (.ifCond .le off, 3)) (ht : (pc : Int) + off = (tgt : Int)) (hp : pc + 3 = pc2) (kt : x ≤ 0 → Go p l e R s m args below meth c D cA ad L nL cells slots Q S tgt lv st) (kf : ¬ (x ≤ 0) → Go p l e R s m args below meth c D cA ad L nL cells slots Q S pc2 lv st) : Go p l e R s m args below meth c D cA ad L nL cells slots Q S pc lv (.int x :: st) := by
  subst hp
  exact fun H locs ls hP hS hl => lv_if_le C.1 C.2.1 hd ht (fun q => kt q H locs ls hP hS hl) (fun q => kf q H locs ls hP hS hl)
theorem go_icmp_le (C : Cx p s m args meth c cc nL ret own D cA ad L) (pc pc2 tgt : Nat) {x y : Int32} {off : Int} (hd : decode cc pc = .ok (.if_icmp .le off, 3)) (ht : (pc : Int) + off = (tgt : Int)) (hp : pc + 3 = pc2) (kt : x ≤ y → Go p l e R s m args below meth c D cA ad L nL cells slots Q S tgt lv st) (kf : ¬ (x ≤ y) → Go p l e R s m args below meth c D cA ad L nL cells slots Q S pc2 lv st) : Go p l e R s m args below meth c D cA ad L nL cells slots Q S pc lv (.int y :: .int x :: st) := by
  subst hp
  exact fun H locs ls hP hS hl => lv_icmp_le C.1 C.2.1 hd ht (fun q => kt q H locs ls hP hS hl) (fun q => kf q H locs ls hP hS hl)
theorem go_lcmp_le (C : Cx p s m args meth c cc nL ret own D cA ad L) (pc pc2 tgt : Nat) {x y : Int64} {off : Int} (hd : decode cc pc = .ok (.lcmp, 1)) (hd2 : decode cc (pc + 1) = .ok (.ifCond .le off, 3)) (ht : ((pc + 1 : Nat) : Int) + off = (tgt : Int)) (hp : pc + 1 + 3 = pc2) (kt : x ≤ y → Go p l e R s m args below meth c D cA ad L nL cells slots Q S tgt lv st) (kf : ¬ (x ≤ y) → Go p l e R s m args below meth c D cA ad L nL cells slots Q S pc2 lv st) : Go p l e R s m args below meth c D cA ad L nL cells slots Q S pc lv (.long y :: .long x :: st) := by
  subst hp
  exact fun H locs ls hP hS hl => W.lcmp C.1 C.2.1 hd (lv_if_le C.1 C.2.1 hd2 ht (fun q => kt ((lg_cmp_le x y).mp q) H locs ls hP hS hl) (fun q => kf (fun z => q ((lg_cmp_le x y).mpr z)) H locs ls hP hS hl))
theorem go_goto (C : Cx p s m args meth c cc nL ret own D cA ad L) (pc tgt : Nat) {off : Int} (hd : decode cc pc = .ok (.goto off, 3)) (ht : (pc : Int) + off = (tgt : Int)) (k : Go p l e R s m args below meth c D cA ad L nL cells slots Q S tgt lv st) : Go p l e R s m args below meth c D cA ad L nL cells slots Q S pc lv st :=
  fun H locs ls hP hS hl => lv_goto C.1 C.2.1 hd ht (k H locs ls hP hS hl)
theorem go_perm {lv2 : List (Nat × Value)} {pc : Nat} (ks : List Nat) (h : lv_pick lv ks = lv2) (k : Go p l e R s m args below meth c D cA ad L nL cells slots Q S pc lv2 st) : Go p l e R s m args below meth c D cA ad L nL cells slots Q S pc lv st :=
  fun H locs ls hP hS hl => k H locs ls hP hS (lv_sub hl ks h)
theorem go_tsOut (C : Cx p s m args meth c cc nL ret own D cA ad L) (pc tgt : Nat) {dflt lo hi : Int} {offs : Array Int} {len : Nat} {x : Int32} (hd : decode cc pc = .ok (.tableswitch dflt lo hi offs, len)) (h : x.toInt < lo ∨ hi < x.toInt) (ht : (pc : Int) + dflt = (tgt : Int)) (k : Go p l e R s m args below meth c D cA ad L nL cells slots Q S tgt lv st) : Go p l e R s m args below meth c D cA ad L nL cells slots Q S pc lv (.int x :: st) :=
  fun H locs ls hP hS hl => lv_tableOut C.1 C.2.1 hd h ht (k H locs ls hP hS hl)
theorem go_tsIn (C : Cx p s m args meth c cc nL ret own D cA ad L) (pc tgt : Nat) {dflt lo hi : Int} {offs : Array Int} {len : Nat} {x : Int32} {off : Int} (hd : decode cc pc = .ok (.tableswitch dflt lo hi offs, len)) (h1 : ¬ x.toInt < lo) (h2 : ¬ hi < x.toInt) (ho : offs[(x.toInt - lo).toNat]? = some off) (ht : (pc : Int) + off = (tgt : Int)) (k : Go p l e R s m args below meth c D cA ad L nL cells slots Q S tgt lv st) : Go p l e R s m args below meth c D cA ad L nL cells slots Q S pc lv (.int x :: st) :=
  fun H locs ls hP hS hl => lv_tableIn C.1 C.2.1 hd h1 h2 ho ht (k H locs ls hP hS hl)
theorem go_getI (C : Cx p s m args meth c cc nL ret own D cA ad L) (pc pc2 : Nat) {C0 : String} {T : u_T} {N ci i : Nat} {fs : List Nat} (hin : ∀ w ∈ u_ws C0 T N, w ∈ T0) (k0 : Nat) (hk : L[k0]? = some (.inr (ci, fs))) (hc : vwCl[ci]? = some (C0, T, N)) (j : Nat) (hj : j < N) (hlink : Cond.fieldLink own i C0 (T j).2.1 (T j).2.2.1 ∈ T0) (h1 : (T j).1 = C0) (hf : fs[j]? = some (0)) (hd : decode cc pc = .ok (.getfield i, 3)) (hp : pc + 3 = pc2) (k : Go p l e R s m args below meth c D cA ad L nL cells slots Q S pc2 lv (.int (S.1 k0 j) :: st)) : Go p l e R s m args below meth c D cA ad L nL cells slots Q S pc lv (.ref (ad k0) :: st) := by
  subst hp
  exact fun H locs ls hP hS hl => va_get (v := .int (S.1 k0 j)) C.1 C.2.1 C.2.2.2.2.2.2.1 hin C.2.2.2.2.2.1 C.2.2.2.2.2.2.2.1 hP k0 (wld_get hk) hc j hj (C.2.2.2.2.2.2.1 _ hlink) (fun x hx => by rw [h1] at hx; exact hx) (by rw [List.getElem?_mapIdx, hf]; rfl) hd (k H locs ls hP hS hl)
theorem go_getJ (C : Cx p s m args meth c cc nL ret own D cA ad L) (pc pc2 : Nat) {C0 : String} {T : u_T} {N ci i : Nat} {fs : List Nat} (hin : ∀ w ∈ u_ws C0 T N, w ∈ T0) (k0 : Nat) (hk : L[k0]? = some (.inr (ci, fs))) (hc : vwCl[ci]? = some (C0, T, N)) (j : Nat) (hj : j < N) (hlink : Cond.fieldLink own i C0 (T j).2.1 (T j).2.2.1 ∈ T0) (h1 : (T j).1 = C0) (hf : fs[j]? = some (1)) (hd : decode cc pc = .ok (.getfield i, 3)) (hp : pc + 3 = pc2) (k : Go p l e R s m args below meth c D cA ad L nL cells slots Q S pc2 lv (.long (S.2 k0 j) :: st)) : Go p l e R s m args below meth c D cA ad L nL cells slots Q S pc lv (.ref (ad k0) :: st) := by
  subst hp
  exact fun H locs ls hP hS hl => va_get (v := .long (S.2 k0 j)) C.1 C.2.1 C.2.2.2.2.2.2.1 hin C.2.2.2.2.2.1 C.2.2.2.2.2.2.2.1 hP k0 (wld_get hk) hc j hj (C.2.2.2.2.2.2.1 _ hlink) (fun x hx => by rw [h1] at hx; exact hx) (by rw [List.getElem?_mapIdx, hf]; rfl) hd (k H locs ls hP hS hl)
theorem go_getR (C : Cx p s m args meth c cc nL ret own D cA ad L) (pc pc2 : Nat) {n : Nat} {C0 : String} {T : u_T} {N ci i : Nat} {fs : List Nat} (hin : ∀ w ∈ u_ws C0 T N, w ∈ T0) (k0 : Nat) (hk : L[k0]? = some (.inr (ci, fs))) (hc : vwCl[ci]? = some (C0, T, N)) (j : Nat) (hj : j < N) (hlink : Cond.fieldLink own i C0 (T j).2.1 (T j).2.2.1 ∈ T0) (h1 : (T j).1 = C0) (hf : fs[j]? = some (n + 2)) (hd : decode cc pc = .ok (.getfield i, 3)) (hp : pc + 3 = pc2) (k : Go p l e R s m args below meth c D cA ad L nL cells slots Q S pc2 lv (.ref (ad n) :: st)) : Go p l e R s m args below meth c D cA ad L nL cells slots Q S pc lv (.ref (ad k0) :: st) := by
  subst hp
  exact fun H locs ls hP hS hl => va_get (v := .ref (ad n)) C.1 C.2.1 C.2.2.2.2.2.2.1 hin C.2.2.2.2.2.1 C.2.2.2.2.2.2.2.1 hP k0 (wld_get hk) hc j hj (C.2.2.2.2.2.2.1 _ hlink) (fun x hx => by rw [h1] at hx; exact hx) (by rw [List.getElem?_mapIdx, hf]; rfl) hd (k H locs ls hP hS hl)
theorem go_putI (C : Cx p s m args meth c cc nL ret own D cA ad L) (pc pc2 : Nat) {C0 : String} {T : u_T} {N ci i : Nat} {fs : List Nat} (hin : ∀ w ∈ u_ws C0 T N, w ∈ T0) (k0 : Nat) (hk : L[k0]? = some (.inr (ci, fs))) (hc : vwCl[ci]? = some (C0, T, N)) (j : Nat) (hj : j < N) (ty0 : Nat → FieldType) (hty : ∀ k, k < N → parseFieldDescriptor (T k).2.2.1 = some (ty0 k)) (hnm : ∀ a, a < N → ∀ b, b < N → a ≠ b → (T a).2.1 ≠ (T b).2.1) (hlink : Cond.fieldLink own i C0 (T j).2.1 (T j).2.2.1 ∈ T0) (h1 : (T j).1 = C0) (hf : fs[j]? = some (0)) (hfin : (T j).2.2.2 = false) (hdd : parseFieldDescriptor (T j).2.2.1 = some .int) (hd : decode cc pc = .ok (.putfield i, 3)) (hp : pc + 3 = pc2) {v : Int32} (k : Go p l e R s m args below meth c D cA ad L nL cells slots Q (uI S k0 j v) pc2 lv st) : Go p l e R s m args below meth c D cA ad L nL cells slots Q S pc lv (.int v :: .ref (ad k0) :: st) := by
  subst hp
  intro H locs ls hP hS hl
  refine va_put (v := .int v) C.1 C.2.1 C.2.2.2.2.2.2.1 hin ty0 hty hnm C.2.2.2.2.2.1 C.2.2.2.2.2.2.2.1 hP (wld_D C.2.2.2.2.2.2.2.2.2.1) hS k0 (wld_get hk) hc j hj (C.2.2.2.2.2.2.1 _ hlink) (fun x hx => by rw [h1] at hx; exact hx) hfin hdd (by rfl) (by rfl) (by rw [List.length_mapIdx]; exact (List.getElem?_eq_some_iff.mp hf).1) hd (fun H1 locs1 hP1 _ hS1 => k H1 locs1 ls ?_ hS1 hl)
  have e := wld_set (cA := cA) (ad := ad) (L := L) (S := S) (S' := (uI S k0 j v)) (k := k0) hk (e := .inr (ci, (fs.mapIdx (fun j q => lval ad S k0 j q)).set j (.int v))) (by
    show Sum.inr (ci, fs.mapIdx _) = _
    rw [obj_set (S := S) (S' := (uI S k0 j v)) (v := .int v) hf (by show Value.int _ = _; rw [uI_at]) (fun i h => ⟨uI_ne (fun q => h q.2), rfl⟩)]) uI_other
  rw [← e]
  exact hP1
theorem go_putJ (C : Cx p s m args meth c cc nL ret own D cA ad L) (pc pc2 : Nat) {C0 : String} {T : u_T} {N ci i : Nat} {fs : List Nat} (hin : ∀ w ∈ u_ws C0 T N, w ∈ T0) (k0 : Nat) (hk : L[k0]? = some (.inr (ci, fs))) (hc : vwCl[ci]? = some (C0, T, N)) (j : Nat) (hj : j < N) (ty0 : Nat → FieldType) (hty : ∀ k, k < N → parseFieldDescriptor (T k).2.2.1 = some (ty0 k)) (hnm : ∀ a, a < N → ∀ b, b < N → a ≠ b → (T a).2.1 ≠ (T b).2.1) (hlink : Cond.fieldLink own i C0 (T j).2.1 (T j).2.2.1 ∈ T0) (h1 : (T j).1 = C0) (hf : fs[j]? = some (1)) (hfin : (T j).2.2.2 = false) (hdd : parseFieldDescriptor (T j).2.2.1 = some .long) (hd : decode cc pc = .ok (.putfield i, 3)) (hp : pc + 3 = pc2) {v : Int64} (k : Go p l e R s m args below meth c D cA ad L nL cells slots Q (uJ S k0 j v) pc2 lv st) : Go p l e R s m args below meth c D cA ad L nL cells slots Q S pc lv (.long v :: .ref (ad k0) :: st) := by
  subst hp
  intro H locs ls hP hS hl
  refine va_put (v := .long v) C.1 C.2.1 C.2.2.2.2.2.2.1 hin ty0 hty hnm C.2.2.2.2.2.1 C.2.2.2.2.2.2.2.1 hP (wld_D C.2.2.2.2.2.2.2.2.2.1) hS k0 (wld_get hk) hc j hj (C.2.2.2.2.2.2.1 _ hlink) (fun x hx => by rw [h1] at hx; exact hx) hfin hdd (by rfl) (by rfl) (by rw [List.length_mapIdx]; exact (List.getElem?_eq_some_iff.mp hf).1) hd (fun H1 locs1 hP1 _ hS1 => k H1 locs1 ls ?_ hS1 hl)
  have e := wld_set (cA := cA) (ad := ad) (L := L) (S := S) (S' := (uJ S k0 j v)) (k := k0) hk (e := .inr (ci, (fs.mapIdx (fun j q => lval ad S k0 j q)).set j (.long v))) (by
    show Sum.inr (ci, fs.mapIdx _) = _
    rw [obj_set (S := S) (S' := (uJ S k0 j v)) (v := .long v) hf (by show Value.long _ = _; rw [uJ_at]) (fun i h => ⟨rfl, uJ_ne (fun q => h q.2)⟩)]) uJ_other
  rw [← e]
  exact hP1
theorem go_getIN (C : Cx p s m args meth c cc nL ret own D cA ad L) (pc pc2 : Nat) {host : String} {C0 : String} {T : u_T} {N ci i : Nat} {fs : List Nat} (hin : ∀ w ∈ u_ws C0 T N, w ∈ T0) (k0 : Nat) (hk : L[k0]? = some (.inr (ci, fs))) (hc : vwCl[ci]? = some (C0, T, N)) (j : Nat) (hj : j < N) (hlink : Cond.fieldLinkNest own i C0 (T j).2.1 (T j).2.2.1 host ∈ N0) (h1 : (T j).1 = C0) (hf : fs[j]? = some (0)) (hd : decode cc pc = .ok (.getfield i, 3)) (hp : pc + 3 = pc2) (k : Go p l e R s m args below meth c D cA ad L nL cells slots Q S pc2 lv (.int (S.1 k0 j) :: st)) : Go p l e R s m args below meth c D cA ad L nL cells slots Q S pc lv (.ref (ad k0) :: st) := by
  subst hp
  exact fun H locs ls hP hS hl => va_getN (v := .int (S.1 k0 j)) C.1 C.2.1 C.2.2.2.2.2.2.1 hin C.2.2.2.2.2.1 C.2.2.2.2.2.2.2.1 hP k0 (wld_get hk) hc j hj (va_Nw.use rfl (C.2.2.2.2.2.2.2.2.1 _ hlink)) (fun x hx => by rw [h1] at hx; exact hx) (by rw [List.getElem?_mapIdx, hf]; rfl) hd (k H locs ls hP hS hl)
theorem go_getJN (C : Cx p s m args meth c cc nL ret own D cA ad L) (pc pc2 : Nat) {host : String} {C0 : String} {T : u_T} {N ci i : Nat} {fs : List Nat} (hin : ∀ w ∈ u_ws C0 T N, w ∈ T0) (k0 : Nat) (hk : L[k0]? = some (.inr (ci, fs))) (hc : vwCl[ci]? = some (C0, T, N)) (j : Nat) (hj : j < N) (hlink : Cond.fieldLinkNest own i C0 (T j).2.1 (T j).2.2.1 host ∈ N0) (h1 : (T j).1 = C0) (hf : fs[j]? = some (1)) (hd : decode cc pc = .ok (.getfield i, 3)) (hp : pc + 3 = pc2) (k : Go p l e R s m args below meth c D cA ad L nL cells slots Q S pc2 lv (.long (S.2 k0 j) :: st)) : Go p l e R s m args below meth c D cA ad L nL cells slots Q S pc lv (.ref (ad k0) :: st) := by
  subst hp
  exact fun H locs ls hP hS hl => va_getN (v := .long (S.2 k0 j)) C.1 C.2.1 C.2.2.2.2.2.2.1 hin C.2.2.2.2.2.1 C.2.2.2.2.2.2.2.1 hP k0 (wld_get hk) hc j hj (va_Nw.use rfl (C.2.2.2.2.2.2.2.2.1 _ hlink)) (fun x hx => by rw [h1] at hx; exact hx) (by rw [List.getElem?_mapIdx, hf]; rfl) hd (k H locs ls hP hS hl)
theorem go_getRN (C : Cx p s m args meth c cc nL ret own D cA ad L) (pc pc2 : Nat) {host : String} {n : Nat} {C0 : String} {T : u_T} {N ci i : Nat} {fs : List Nat} (hin : ∀ w ∈ u_ws C0 T N, w ∈ T0) (k0 : Nat) (hk : L[k0]? = some (.inr (ci, fs))) (hc : vwCl[ci]? = some (C0, T, N)) (j : Nat) (hj : j < N) (hlink : Cond.fieldLinkNest own i C0 (T j).2.1 (T j).2.2.1 host ∈ N0) (h1 : (T j).1 = C0) (hf : fs[j]? = some (n + 2)) (hd : decode cc pc = .ok (.getfield i, 3)) (hp : pc + 3 = pc2) (k : Go p l e R s m args below meth c D cA ad L nL cells slots Q S pc2 lv (.ref (ad n) :: st)) : Go p l e R s m args below meth c D cA ad L nL cells slots Q S pc lv (.ref (ad k0) :: st) := by
  subst hp
  exact fun H locs ls hP hS hl => va_getN (v := .ref (ad n)) C.1 C.2.1 C.2.2.2.2.2.2.1 hin C.2.2.2.2.2.1 C.2.2.2.2.2.2.2.1 hP k0 (wld_get hk) hc j hj (va_Nw.use rfl (C.2.2.2.2.2.2.2.2.1 _ hlink)) (fun x hx => by rw [h1] at hx; exact hx) (by rw [List.getElem?_mapIdx, hf]; rfl) hd (k H locs ls hP hS hl)
theorem go_putIN (C : Cx p s m args meth c cc nL ret own D cA ad L) (pc pc2 : Nat) {host : String} {C0 : String} {T : u_T} {N ci i : Nat} {fs : List Nat} (hin : ∀ w ∈ u_ws C0 T N, w ∈ T0) (k0 : Nat) (hk : L[k0]? = some (.inr (ci, fs))) (hc : vwCl[ci]? = some (C0, T, N)) (j : Nat) (hj : j < N) (ty0 : Nat → FieldType) (hty : ∀ k, k < N → parseFieldDescriptor (T k).2.2.1 = some (ty0 k)) (hnm : ∀ a, a < N → ∀ b, b < N → a ≠ b → (T a).2.1 ≠ (T b).2.1) (hlink : Cond.fieldLinkNest own i C0 (T j).2.1 (T j).2.2.1 host ∈ N0) (h1 : (T j).1 = C0) (hf : fs[j]? = some (0)) (hfin : (T j).2.2.2 = false) (hdd : parseFieldDescriptor (T j).2.2.1 = some .int) (hd : decode cc pc = .ok (.putfield i, 3)) (hp : pc + 3 = pc2) {v : Int32} (k : Go p l e R s m args below meth c D cA ad L nL cells slots Q (uI S k0 j v) pc2 lv st) : Go p l e R s m args below meth c D cA ad L nL cells slots Q S pc lv (.int v :: .ref (ad k0) :: st) := by
  subst hp
  intro H locs ls hP hS hl
  refine va_putN (v := .int v) C.1 C.2.1 C.2.2.2.2.2.2.1 hin ty0 hty hnm C.2.2.2.2.2.1 C.2.2.2.2.2.2.2.1 hP (wld_D C.2.2.2.2.2.2.2.2.2.1) hS k0 (wld_get hk) hc j hj (va_Nw.use rfl (C.2.2.2.2.2.2.2.2.1 _ hlink)) (fun x hx => by rw [h1] at hx; exact hx) hfin hdd (by rfl) (by rfl) (by rw [List.length_mapIdx]; exact (List.getElem?_eq_some_iff.mp hf).1) hd (fun H1 locs1 hP1 _ hS1 => k H1 locs1 ls ?_ hS1 hl)
  have e := wld_set (cA := cA) (ad := ad) (L := L) (S := S) (S' := (uI S k0 j v)) (k := k0) hk (e := .inr (ci, (fs.mapIdx (fun j q => lval ad S k0 j q)).set j (.int v))) (by
    show Sum.inr (ci, fs.mapIdx _) = _
    rw [obj_set (S := S) (S' := (uI S k0 j v)) (v := .int v) hf (by show Value.int _ = _; rw [uI_at]) (fun i h => ⟨uI_ne (fun q => h q.2), rfl⟩)]) uI_other
  rw [← e]
  exact hP1
theorem go_putJN (C : Cx p s m args meth c cc nL ret own D cA ad L) (pc pc2 : Nat) {host : String} {C0 : String} {T : u_T} {N ci i : Nat} {fs : List Nat} (hin : ∀ w ∈ u_ws C0 T N, w ∈ T0) (k0 : Nat) (hk : L[k0]? = some (.inr (ci, fs))) (hc : vwCl[ci]? = some (C0, T, N)) (j : Nat) (hj : j < N) (ty0 : Nat → FieldType) (hty : ∀ k, k < N → parseFieldDescriptor (T k).2.2.1 = some (ty0 k)) (hnm : ∀ a, a < N → ∀ b, b < N → a ≠ b → (T a).2.1 ≠ (T b).2.1) (hlink : Cond.fieldLinkNest own i C0 (T j).2.1 (T j).2.2.1 host ∈ N0) (h1 : (T j).1 = C0) (hf : fs[j]? = some (1)) (hfin : (T j).2.2.2 = false) (hdd : parseFieldDescriptor (T j).2.2.1 = some .long) (hd : decode cc pc = .ok (.putfield i, 3)) (hp : pc + 3 = pc2) {v : Int64} (k : Go p l e R s m args below meth c D cA ad L nL cells slots Q (uJ S k0 j v) pc2 lv st) : Go p l e R s m args below meth c D cA ad L nL cells slots Q S pc lv (.long v :: .ref (ad k0) :: st) := by
  subst hp
  intro H locs ls hP hS hl
  refine va_putN (v := .long v) C.1 C.2.1 C.2.2.2.2.2.2.1 hin ty0 hty hnm C.2.2.2.2.2.1 C.2.2.2.2.2.2.2.1 hP (wld_D C.2.2.2.2.2.2.2.2.2.1) hS k0 (wld_get hk) hc j hj (va_Nw.use rfl (C.2.2.2.2.2.2.2.2.1 _ hlink)) (fun x hx => by rw [h1] at hx; exact hx) hfin hdd (by rfl) (by rfl) (by rw [List.length_mapIdx]; exact (List.getElem?_eq_some_iff.mp hf).1) hd (fun H1 locs1 hP1 _ hS1 => k H1 locs1 ls ?_ hS1 hl)
  have e := wld_set (cA := cA) (ad := ad) (L := L) (S := S) (S' := (uJ S k0 j v)) (k := k0) hk (e := .inr (ci, (fs.mapIdx (fun j q => lval ad S k0 j q)).set j (.long v))) (by
    show Sum.inr (ci, fs.mapIdx _) = _
    rw [obj_set (S := S) (S' := (uJ S k0 j v)) (v := .long v) hf (by show Value.long _ = _; rw [uJ_at]) (fun i h => ⟨rfl, uJ_ne (fun q => h q.2)⟩)]) uJ_other
  rw [← e]
  exact hP1
theorem go_iald (C : Cx p s m args meth c cc nL ret own D cA ad L) (pc pc2 : Nat) {n b : Nat} (k0 : Nat) (hk : L[k0]? = some (.inl (0, n, b))) {i : Int32} (hi : vp_in i n) (hd : decode cc pc = .ok (.iaload, 1)) (hp : pc + 1 = pc2) (k : Go p l e R s m args below meth c D cA ad L nL cells slots Q S pc2 lv (.int (S.1 k0 i.toNatClampNeg) :: st)) : Go p l e R s m args below meth c D cA ad L nL cells slots Q S pc lv (.int i :: .ref (ad k0) :: st) := by
  subst hp
  exact fun H locs ls hP hS hl => va_iald C.1 C.2.1 C.2.2.2.2.2.2.2.1 hP k0 0 (wld_get hk) rfl hi hd (k H locs ls hP hS hl)
theorem go_zald (C : Cx p s m args meth c cc nL ret own D cA ad L) (pc pc2 : Nat) {n b : Nat} (k0 : Nat) (hk : L[k0]? = some (.inl (2, n, b))) {i : Int32} (hi : vp_in i n) (hd : decode cc pc = .ok (.baload, 1)) (hp : pc + 1 = pc2) (k : Go p l e R s m args below meth c D cA ad L nL cells slots Q S pc2 lv (.int (S.1 k0 i.toNatClampNeg) :: st)) : Go p l e R s m args below meth c D cA ad L nL cells slots Q S pc lv (.int i :: .ref (ad k0) :: st) := by
  subst hp
  exact fun H locs ls hP hS hl => va_zald C.1 C.2.1 C.2.2.2.2.2.2.2.1 hP k0 2 (wld_get hk) rfl hi hd (k H locs ls hP hS hl)
theorem go_lald (C : Cx p s m args meth c cc nL ret own D cA ad L) (pc pc2 : Nat) {n b : Nat} (k0 : Nat) (hk : L[k0]? = some (.inl (1, n, b))) {i : Int32} (hi : vp_in i n) (hd : decode cc pc = .ok (.laload, 1)) (hp : pc + 1 = pc2) (k : Go p l e R s m args below meth c D cA ad L nL cells slots Q S pc2 lv (.long (S.2 k0 i.toNatClampNeg) :: st)) : Go p l e R s m args below meth c D cA ad L nL cells slots Q S pc lv (.int i :: .ref (ad k0) :: st) := by
  subst hp
  exact fun H locs ls hP hS hl => va_lald C.1 C.2.1 C.2.2.2.2.2.2.2.1 hP k0 1 (wld_get hk) rfl hi hd (k H locs ls hP hS hl)
theorem go_iast (C : Cx p s m args meth c cc nL ret own D cA ad L) (pc pc2 : Nat) {n b : Nat} (k0 : Nat) (hk : L[k0]? = some (.inl (0, n, b))) {i : Int32} {v : Int32} (hi : vp_in i n) (hd : decode cc pc = .ok (.iastore, 1)) (hp : pc + 1 = pc2) (k : Go p l e R s m args below meth c D cA ad L nL cells slots Q (uI S k0 i.toNatClampNeg v) pc2 lv st) : Go p l e R s m args below meth c D cA ad L nL cells slots Q S pc lv (.int v :: .int i :: .ref (ad k0) :: st) := by
  subst hp
  intro H locs ls hP hS hl
  refine va_iast C.1 C.2.1 C.2.2.2.2.2.2.2.1 hP (wld_D C.2.2.2.2.2.2.2.2.2.1) hS k0 0 (wld_get hk) rfl hi hd (fun H1 locs1 hP1 _ hS1 => k H1 locs1 ls ?_ hS1 hl)
  have e := wld_set (cA := cA) (ad := ad) (L := L) (S := S) (S' := (uI S k0 i.toNatClampNeg v)) (k := k0) hk (e := .inl (cA 0, n, .inl (upd (S.1 k0) i.toNatClampNeg v))) (by
    show Sum.inl (cA 0, n, _) = _
    rw [uI_upd]) uI_other
  rw [← e]
  exact hP1
theorem go_zast (C : Cx p s m args meth c cc nL ret own D cA ad L) (pc pc2 : Nat) {n b : Nat} (k0 : Nat) (hk : L[k0]? = some (.inl (2, n, b))) {i : Int32} {v : Int32} (hi : vp_in i n) (hd : decode cc pc = .ok (.bastore, 1)) (hp : pc + 1 = pc2) (k : Go p l e R s m args below meth c D cA ad L nL cells slots Q (uI S k0 i.toNatClampNeg (vp_nar .boolean v)) pc2 lv st) : Go p l e R s m args below meth c D cA ad L nL cells slots Q S pc lv (.int v :: .int i :: .ref (ad k0) :: st) := by
  subst hp
  intro H locs ls hP hS hl
  refine va_zast C.1 C.2.1 C.2.2.2.2.2.2.2.1 hP (wld_D C.2.2.2.2.2.2.2.2.2.1) hS k0 2 (wld_get hk) rfl hi hd (fun H1 locs1 hP1 _ hS1 => k H1 locs1 ls ?_ hS1 hl)
  have e := wld_set (cA := cA) (ad := ad) (L := L) (S := S) (S' := (uI S k0 i.toNatClampNeg (vp_nar .boolean v))) (k := k0) hk (e := .inl (cA 2, n, .inl (upd (S.1 k0) i.toNatClampNeg (vp_nar .boolean v)))) (by
    show Sum.inl (cA 2, n, _) = _
    rw [uI_upd]) uI_other
  rw [← e]
  exact hP1
theorem go_last (C : Cx p s m args meth c cc nL ret own D cA ad L) (pc pc2 : Nat) {n b : Nat} (k0 : Nat) (hk : L[k0]? = some (.inl (1, n, b))) {i : Int32} {v : Int64} (hi : vp_in i n) (hd : decode cc pc = .ok (.lastore, 1)) (hp : pc + 1 = pc2) (k : Go p l e R s m args below meth c D cA ad L nL cells slots Q (uJ S k0 i.toNatClampNeg v) pc2 lv st) : Go p l e R s m args below meth c D cA ad L nL cells slots Q S pc lv (.long v :: .int i :: .ref (ad k0) :: st) := by
  subst hp
  intro H locs ls hP hS hl
  refine va_last C.1 C.2.1 C.2.2.2.2.2.2.2.1 hP (wld_D C.2.2.2.2.2.2.2.2.2.1) hS k0 1 (wld_get hk) rfl hi hd (fun H1 locs1 hP1 _ hS1 => k H1 locs1 ls ?_ hS1 hl)
  have e := wld_set (cA := cA) (ad := ad) (L := L) (S := S) (S' := (uJ S k0 i.toNatClampNeg v)) (k := k0) hk (e := .inl (cA 1, n, .inr (.inl (vp_updL (S.2 k0) i.toNatClampNeg v)))) (by
    show Sum.inl (cA 1, n, _) = _
    rw [uJ_upd]) uJ_other
  rw [← e]
  exact hP1
theorem go_aald3 (C : Cx p s m args meth c cc nL ret own D cA ad L) (pc pc2 : Nat) {n b : Nat} (k0 : Nat) (hk : L[k0]? = some (.inl (3, n, b))) {i : Int32} (hi : vp_in i n) (hd : decode cc pc = .ok (.aaload, 1)) (hp : pc + 1 = pc2) (k : Go p l e R s m args below meth c D cA ad L nL cells slots Q S pc2 lv (.ref (ad (b + i.toNatClampNeg)) :: st)) : Go p l e R s m args below meth c D cA ad L nL cells slots Q S pc lv (.int i :: .ref (ad k0) :: st) := by
  subst hp
  intro H locs ls hP hS hl
  have hlt : i.toNatClampNeg < n := Nat.not_le.mp fun q => hi (Or.inr q)
  have hc : H[ad k0]? = some (vp_cell (cA 3) (n, .inr (.inr (.inr (.inr (fun i => if i < n then some (ad (b + i)) else none)))))) := hP k0 _ (wld_get hk)
  exact W.aald (v := .ref (ad (b + i.toNatClampNeg))) (ty := .array .int) C.1 C.2.1 hc ((C.2.2.2.2.2.2.2.1.2 3 _ rfl).1 n (fun j => va_rf (if j < n then some (ad (b + j)) else none))) rfl (fun q => by cases q) (by show ¬ (i < 0 ∨ (arrV _ _ _).slots.size ≤ _); rw [arrV_size]; exact hi) (by show (arrV _ _ _).slots[_]? = _; rw [arrV_read _ _ hlt]; simp [hlt, va_rf]) rfl rfl hd (k H locs ls hP hS hl)
theorem go_aald4 (C : Cx p s m args meth c cc nL ret own D cA ad L) (pc pc2 : Nat) {n b : Nat} (k0 : Nat) (hk : L[k0]? = some (.inl (4, n, b))) {i : Int32} (hi : vp_in i n) (hd : decode cc pc = .ok (.aaload, 1)) (hp : pc + 1 = pc2) (k : Go p l e R s m args below meth c D cA ad L nL cells slots Q S pc2 lv (.ref (ad (b + i.toNatClampNeg)) :: st)) : Go p l e R s m args below meth c D cA ad L nL cells slots Q S pc lv (.int i :: .ref (ad k0) :: st) := by
  subst hp
  intro H locs ls hP hS hl
  have hlt : i.toNatClampNeg < n := Nat.not_le.mp fun q => hi (Or.inr q)
  have hc : H[ad k0]? = some (vp_cell (cA 4) (n, .inr (.inr (.inr (.inr (fun i => if i < n then some (ad (b + i)) else none)))))) := hP k0 _ (wld_get hk)
  exact W.aald (v := .ref (ad (b + i.toNatClampNeg))) (ty := .array .long) C.1 C.2.1 hc ((C.2.2.2.2.2.2.2.1.2 4 _ rfl).1 n (fun j => va_rf (if j < n then some (ad (b + j)) else none))) rfl (fun q => by cases q) (by show ¬ (i < 0 ∨ (arrV _ _ _).slots.size ≤ _); rw [arrV_size]; exact hi) (by show (arrV _ _ _).slots[_]? = _; rw [arrV_read _ _ hlt]; simp [hlt, va_rf]) rfl rfl hd (k H locs ls hP hS hl)
theorem go_alen (C : Cx p s m args meth c cc nL ret own D cA ad L) (pc pc2 : Nat) {t n b : Nat} (k0 : Nat) (hk : L[k0]? = some (.inl (t, n, b))) {ty : FieldType} (ht : (tysA cA)[t]? = some (cA t, ty)) (hn : ∀ S : St, (larr ad S k0 n b t).1 = n) (hd : decode cc pc = .ok (.arraylength, 1)) (hp : pc + 1 = pc2) (k : Go p l e R s m args below meth c D cA ad L nL cells slots Q S pc2 lv (.int (Int32.ofNat n) :: st)) : Go p l e R s m args below meth c D cA ad L nL cells slots Q S pc lv (.ref (ad k0) :: st) := by
  subst hp
  exact fun H locs ls hP hS hl => va_alen C.1 C.2.1 C.2.2.2.2.2.2.2.1 hP k0 t (wld_get hk) ht (by show Int32.ofNat (larr ad S k0 n b t).1 = _; rw [hn]) hd (k H locs ls hP hS hl)
theorem go_fact (C : Cx p s m args meth c cc nL ret own D cA ad L) (pc pc2 : Nat) {ix : Nat} (hlink : Cond.fieldLink own ix "BillHouse" "FACTORIALS" "[J" ∈ T0) (hd : decode cc pc = .ok (.getstatic ix, 3)) (hp : pc + 3 = pc2) (k : ∀ t, va_T .long t 9 (fun j => .long (factT j)) (wA ad L s.heap.size) s s.heap → Go p l e R s m args below meth c D cA ad L nL cells slots Q S pc2 lv (.ref t :: st)) : Go p l e R s m args below meth c D cA ad L nL cells slots Q S pc lv st := by
  subst hp
  intro H locs ls hP hS hl
  obtain ⟨t, h1, h2⟩ := C.2.2.2.2.2.2.2.2.2.2
  exact va_gets C.1 C.2.1 h1 hS C.2.2.2.2.2.1 (C.2.2.2.2.2.2.1 _ hlink) (fun x h => h) hd (k t h2 H locs ls hP hS hl)
theorem go_factN (C : Cx p s m args meth c cc nL ret own D cA ad L) (pc pc2 : Nat) {ix : Nat} {host : String} (hlink : Cond.fieldLinkNest own ix "BillHouse" "FACTORIALS" "[J" host ∈ N0) (hd : decode cc pc = .ok (.getstatic ix, 3)) (hp : pc + 3 = pc2) (k : ∀ t, va_T .long t 9 (fun j => .long (factT j)) (wA ad L s.heap.size) s s.heap → Go p l e R s m args below meth c D cA ad L nL cells slots Q S pc2 lv (.ref t :: st)) : Go p l e R s m args below meth c D cA ad L nL cells slots Q S pc lv st := by
  subst hp
  intro H locs ls hP hS hl
  obtain ⟨t, h1, h2⟩ := C.2.2.2.2.2.2.2.2.2.2
  exact va_getsN C.1 C.2.1 h1 hS C.2.2.2.2.2.1 (va_Nw.use rfl (C.2.2.2.2.2.2.2.2.1 _ hlink)) (fun x h => h) hd (k t h2 H locs ls hP hS hl)
theorem go_factLd (C : Cx p s m args meth c cc nL ret own D cA ad L) (pc pc2 : Nat) {t : Nat} (hT : va_T .long t 9 (fun j => .long (factT j)) (wA ad L s.heap.size) s s.heap) {i : Int32} (hi : vp_in i 9) (hd : decode cc pc = .ok (.laload, 1)) (hp : pc + 1 = pc2) (k : Go p l e R s m args below meth c D cA ad L nL cells slots Q S pc2 lv (.long (factT i.toNatClampNeg) :: st)) : Go p l e R s m args below meth c D cA ad L nL cells slots Q S pc lv (.int i :: .ref t :: st) := by
  subst hp
  exact fun H locs ls hP hS hl => va_tl C.1 C.2.1 hT hS hi rfl hd (k H locs ls hP hS hl)
theorem go_factLen (C : Cx p s m args meth c cc nL ret own D cA ad L) (pc pc2 : Nat) {t : Nat} (hT : va_T .long t 9 (fun j => .long (factT j)) (wA ad L s.heap.size) s s.heap) (hd : decode cc pc = .ok (.arraylength, 1)) (hp : pc + 1 = pc2) (k : Go p l e R s m args below meth c D cA ad L nL cells slots Q S pc2 lv (.int 9 :: st)) : Go p l e R s m args below meth c D cA ad L nL cells slots Q S pc lv (.ref t :: st) := by
  subst hp
  exact fun H locs ls hP hS hl => va_tlen C.1 C.2.1 hT hS rfl hd (k H locs ls hP hS hl)
theorem go_absI (C : Cx p s m args meth c cc nL ret own D cA ad L) (pc pc2 : Nat) {ix : Nat} (hlink : Cond.methodLink own ix Lib.Math.abs.name ∈ T0) (hstat : Cond.static Lib.Math.abs.name ∈ T0) (hini : Cond.initialized "java/lang/Math" ∈ T0) (hcode : Cond.code Lib.Math.abs.name Lib.Math.abs.code 1 (some .int) ∈ T0) (hf : 1 ≤ R.frames) (hlo : (st.map fun v => v.category).sum + 13 ≤ R.locals) (hc : cells ≤ R.cells) (hs : slots ≤ R.slots) {x : Int32} (hd : decode cc pc = .ok (.invokestatic ix, 3)) (hp : pc + 3 = pc2) (k : Go p l e R s m args below meth c D cA ad L nL cells slots Q S pc2 lv (.int (if 0 ≤ x then x else 0 - x) :: st)) : Go p l e R s m args below meth c D cA ad L nL cells slots Q S pc lv (.int x :: st) := by
  subst hp
  exact fun H locs ls hP hS hl => va_mabs C.1 C.2.1 (C.2.2.1.trans hl.1.symm) C.2.2.2.2.2.1 (C.2.2.2.2.2.2.1 _ hlink) (C.2.2.2.2.2.2.1 _ hstat) (C.2.2.2.2.2.2.1 _ hini) (C.2.2.2.2.2.2.1 _ hcode) hf hlo hc hs hd (k H locs ls hP hS hl)
theorem go_absL (C : Cx p s m args meth c cc nL ret own D cA ad L) (pc pc2 : Nat) {ix : Nat} (hlink : Cond.methodLink own ix Lib.MathLoose.abs_long.x ∈ T0) (hstat : Cond.static Lib.MathLoose.abs_long.x ∈ T0) (hini : Cond.initialized "java/lang/Math" ∈ T0) (hcode : Cond.code Lib.MathLoose.abs_long.x Lib.MathLoose.abs_long.code 2 (some .long) ∈ T0) (hf : 1 ≤ R.frames) (hlo : (st.map fun v => v.category).sum + 13 ≤ R.locals) (hc : cells ≤ R.cells) (hs : slots ≤ R.slots) {x : Int64} (hd : decode cc pc = .ok (.invokestatic ix, 3)) (hp : pc + 3 = pc2) (k : Go p l e R s m args below meth c D cA ad L nL cells slots Q S pc2 lv (.long (if 0 < x then x else -x) :: st)) : Go p l e R s m args below meth c D cA ad L nL cells slots Q S pc lv (.long x :: st) := by
  subst hp
  exact fun H locs ls hP hS hl => va_mabs_long C.1 C.2.1 (C.2.2.1.trans hl.1.symm) C.2.2.2.2.2.1 (C.2.2.2.2.2.2.1 _ hlink) (C.2.2.2.2.2.2.1 _ hstat) (C.2.2.2.2.2.2.1 _ hini) (C.2.2.2.2.2.2.1 _ hcode) hf hlo hc hs hd (k H locs ls hP hS hl)
theorem go_iret (C : Cx p s m args meth c cc nL ret own D cA ad L) (pc : Nat) {v : Int32} (hr : ret = some .int) {post : Int32 → St → Prop} (hd : decode cc pc = .ok (.ireturn, 1)) (h : post v S) : Go p l e R s m args below meth c D cA ad L nL cells slots (QI D cA ad L below args s cells slots post) S pc lv [.int v] := by
  intro H locs ls hP hS hl
  have hlk := C.2.2.2.2.1
  exact W.iret C.1 C.2.1 (C.2.2.2.1.trans hr) (fun t ht hW => ⟨⟨v, S, rfl, h, by show va_P _ _ _ _; rw [ht]; exact hP⟩, hS.F ht⟩) hS.2.2 hd
theorem go_zret (C : Cx p s m args meth c cc nL ret own D cA ad L) (pc : Nat) {v : Int32} (hz : narrow .boolean (.int v) = .int v) (hr : ret = some .boolean) {post : Int32 → St → Prop} (hd : decode cc pc = .ok (.ireturn, 1)) (h : post v S) : Go p l e R s m args below meth c D cA ad L nL cells slots (QI D cA ad L below args s cells slots post) S pc lv [.int v] := by
  intro H locs ls hP hS hl
  have hlk := C.2.2.2.2.1
  exact W.zret C.1 C.2.1 (C.2.2.2.1.trans hr) hz (fun t ht hW => ⟨⟨v, S, rfl, h, by show va_P _ _ _ _; rw [ht]; exact hP⟩, hS.F ht⟩) hS.2.2 hd
theorem go_lret (C : Cx p s m args meth c cc nL ret own D cA ad L) (pc : Nat) {v : Int64} (hr : ret = some .long) {post : Int64 → St → Prop} (hd : decode cc pc = .ok (.lreturn, 1)) (h : post v S) : Go p l e R s m args below meth c D cA ad L nL cells slots (QL D cA ad L below args s cells slots post) S pc lv [.long v] := by
  intro H locs ls hP hS hl
  have hlk := C.2.2.2.2.1
  exact W.lret C.1 C.2.1 (C.2.2.2.1.trans hr) (fun t ht hW => ⟨⟨v, S, rfl, h, by show va_P _ _ _ _; rw [ht]; exact hP⟩, hS.F ht⟩) hS.2.2 hd
theorem go_vret (C : Cx p s m args meth c cc nL ret own D cA ad L) (pc : Nat)  (hr : ret = none) {post : St → Prop} (hd : decode cc pc = .ok (.return_, 1)) (h : post S) : Go p l e R s m args below meth c D cA ad L nL cells slots (QV D cA ad L below args s cells slots post) S pc lv [] := by
  intro H locs ls hP hS hl
  have hlk := C.2.2.2.2.1
  exact W.vret C.1 C.2.1 (C.2.2.2.1.trans hr) (fun t ht hW => ⟨⟨S, rfl, h, by show va_P _ _ _ _; rw [ht]; exact hP⟩, hS.F ht⟩) hS.2.2 hd
theorem go_widen {k n pc : Nat} (h1 : cells ≤ k) (h2 : slots ≤ n) (kk : Go p l e R s m args below meth c D cA ad L nL k n Q S pc lv st) : Go p l e R s m args below meth c D cA ad L nL cells slots Q S pc lv st :=
  fun H locs ls hP hS hl => W.widen h1 h2 (kk H locs ls hP hS hl)
theorem go_vi (C : Cx p s m args meth c cc nL ret own D cA ad L) (pc pc2 cells2 slots2 : Nat) {stk : List Value} {y : MethodName} {b2 : ByteArray} {n2 ix mc ms : Nat} {ret2 : Option FieldType} {rm : Room} {post : Int32 → St → Prop} (As : List Value) {fs : List Nat} {ci : Nat} {T : u_T} {N : Nat} (k0 : Nat) (hk : L[k0]? = some (.inr (ci, fs))) (hcl : vwCl[ci]? = some (y.cls, T, N)) (hM : MetI l y b2 n2 ret2 rm D cA ad L (.ref (ad k0) :: As) S post mc ms) (hlink : Cond.methodLink own ix y ∈ T0) (hcode : Cond.code y b2 n2 ret2 ∈ T0) (hini : Cond.initialized y.cls ∈ T0) (hinst : Cond.instanceMethod y ∈ T0) (hsel : Cond.selects y.cls y y ∈ T0) (hdsc : (parseMethodDescriptor y.desc).map (fun d => d.parameters.length) = some As.length) (hmh : y.cls ≠ "java/lang/invoke/MethodHandle" ∧ y.cls ≠ "java/lang/invoke/VarHandle") (hR : rm.frames + 1 ≤ R.frames ∧ 8 + (n2 + 11) + rm.locals ≤ R.locals) (hf : cells + mc ≤ R.cells ∧ slots + ms ≤ R.slots) (hrc : rm.cells = mc) (hrs : rm.slots = ms) (hc2 : cells + mc = cells2) (hs2 : slots + ms = slots2) (hrm : (st.map fun v => v.category).sum ≤ 8) (hp : pc + 3 = pc2) (hst : stk = As.reverse ++ .ref (ad k0) :: st) (hd : decode cc pc = .ok (.invokevirtual ix, 3)) (k : ∀ (r : Int32) (S2 : St), post r S2 → Go p l e R s m args below meth c D cA ad L nL cells2 slots2 Q S2 pc2 lv (.int r :: st)) : Go p l e R s m args below meth c D cA ad L nL cells slots Q S pc lv stk := by
  subst hp
  subst hst
  subst hc2
  subst hs2
  intro H locs ls hP hS hl
  exact va_calli (va_runV (As := As) (rest := st) ⟨C.1, C.2.1, C.2.2.1, C.2.2.2.2.2.1, C.2.2.2.2.2.2.1⟩ (hM H.size) ⟨callB_of As.length C.2.2.2.2.2.2.1 (T0_call hcode) rfl hrc hrs (C.2.2.2.2.2.2.1 _ hini) (C.2.2.2.2.2.2.1 _ hlink) ⟨hmh.1, hmh.2, hdsc⟩ hR, C.2.2.2.2.2.2.1 _ hinst, C.2.2.2.2.2.2.1 _ hsel⟩ ⟨Pre.blind, va_recv C.2.2.2.2.2.2.2.1 hP hcl (wld_get hk), fun U hU hW => ⟨rfl, by rw [hU], by rw [hU]; exact hP, C.2.2.2.2.2.2.2.warm hW hU hS⟩⟩ rfl rfl hl.1 rfl (lv_room hrm) hd hf) hS (fun q hlt h => wA_mono hS.1 q h) (fun q h => wA_mono hS.1 q h) (fun r u t H1 locs1 ht hvm hp hB hz1 hk1 hS1 => k r u hp H1 locs1 ls (by rw [← ht]; exact hB) hS1 hl)
theorem go_si (C : Cx p s m args meth c cc nL ret own D cA ad L) (pc pc2 cells2 slots2 : Nat) {stk : List Value} {y : MethodName} {b2 : ByteArray} {n2 ix mc ms : Nat} {ret2 : Option FieldType} {rm : Room} {post : Int32 → St → Prop} (As : List Value) (hM : MetI l y b2 n2 ret2 rm D cA ad L As S post mc ms) (hlink : Cond.methodLink own ix y ∈ T0) (hcode : Cond.code y b2 n2 ret2 ∈ T0) (hini : Cond.initialized y.cls ∈ T0) (hstat : Cond.static y ∈ T0) (hdsc : (parseMethodDescriptor y.desc).map (fun d => d.parameters.length) = some As.length) (hmh : y.cls ≠ "java/lang/invoke/MethodHandle" ∧ y.cls ≠ "java/lang/invoke/VarHandle") (hR : rm.frames + 1 ≤ R.frames ∧ 8 + (n2 + 11) + rm.locals ≤ R.locals) (hf : cells + mc ≤ R.cells ∧ slots + ms ≤ R.slots) (hrc : rm.cells = mc) (hrs : rm.slots = ms) (hc2 : cells + mc = cells2) (hs2 : slots + ms = slots2) (hrm : (st.map fun v => v.category).sum ≤ 8) (hp : pc + 3 = pc2) (hst : stk = As.reverse ++ st) (hd : decode cc pc = .ok (.invokestatic ix, 3)) (k : ∀ (r : Int32) (S2 : St), post r S2 → Go p l e R s m args below meth c D cA ad L nL cells2 slots2 Q S2 pc2 lv (.int r :: st)) : Go p l e R s m args below meth c D cA ad L nL cells slots Q S pc lv stk := by
  subst hp
  subst hst
  subst hc2
  subst hs2
  intro H locs ls hP hS hl
  exact va_calli (va_runS (As := As) (rest := st) ⟨C.1, C.2.1, C.2.2.1, C.2.2.2.2.2.1, C.2.2.2.2.2.2.1⟩ (hM H.size) ⟨callB_of As.length C.2.2.2.2.2.2.1 (T0_call hcode) rfl hrc hrs (C.2.2.2.2.2.2.1 _ hini) (C.2.2.2.2.2.2.1 _ hlink) ⟨hmh.1, hmh.2, hdsc⟩ hR, C.2.2.2.2.2.2.1 _ hstat⟩ ⟨Pre.blind, fun U hU hW => ⟨rfl, by rw [hU], by rw [hU]; exact hP, C.2.2.2.2.2.2.2.warm hW hU hS⟩⟩ rfl rfl hl.1 rfl (lv_room hrm) hd hf) hS (fun q hlt h => wA_mono hS.1 q h) (fun q h => wA_mono hS.1 q h) (fun r u t H1 locs1 ht hvm hp hB hz1 hk1 hS1 => k r u hp H1 locs1 ls (by rw [← ht]; exact hB) hS1 hl)
theorem go_viN (C : Cx p s m args meth c cc nL ret own D cA ad L) (pc pc2 cells2 slots2 : Nat) {stk : List Value} {y : MethodName} {b2 : ByteArray} {n2 ix mc ms : Nat} {ret2 : Option FieldType} {rm : Room} {post : Int32 → St → Prop} (As : List Value) {fs : List Nat} {ci : Nat} {T : u_T} {N : Nat} (k0 : Nat) (hk : L[k0]? = some (.inr (ci, fs))) (hcl : vwCl[ci]? = some (y.cls, T, N)) (hM : MetI l y b2 n2 ret2 rm D cA ad L (.ref (ad k0) :: As) S post mc ms) {host : String} (hlink : Cond.methodLinkNest own ix y host ∈ N0) (hcode : Cond.code y b2 n2 ret2 ∈ T0) (hini : Cond.initialized y.cls ∈ T0) (hinst : Cond.instanceMethod y ∈ T0) (hsel : Cond.selects y.cls y y ∈ T0) (hdsc : (parseMethodDescriptor y.desc).map (fun d => d.parameters.length) = some As.length) (hmh : y.cls ≠ "java/lang/invoke/MethodHandle" ∧ y.cls ≠ "java/lang/invoke/VarHandle") (hR : rm.frames + 1 ≤ R.frames ∧ 8 + (n2 + 11) + rm.locals ≤ R.locals) (hf : cells + mc ≤ R.cells ∧ slots + ms ≤ R.slots) (hrc : rm.cells = mc) (hrs : rm.slots = ms) (hc2 : cells + mc = cells2) (hs2 : slots + ms = slots2) (hrm : (st.map fun v => v.category).sum ≤ 8) (hp : pc + 3 = pc2) (hst : stk = As.reverse ++ .ref (ad k0) :: st) (hd : decode cc pc = .ok (.invokevirtual ix, 3)) (k : ∀ (r : Int32) (S2 : St), post r S2 → Go p l e R s m args below meth c D cA ad L nL cells2 slots2 Q S2 pc2 lv (.int r :: st)) : Go p l e R s m args below meth c D cA ad L nL cells slots Q S pc lv stk := by
  subst hp
  subst hst
  subst hc2
  subst hs2
  intro H locs ls hP hS hl
  exact va_calli (va_runVN (As := As) (rest := st) ⟨C.1, C.2.1, C.2.2.1, C.2.2.2.2.2.1, C.2.2.2.2.2.2.1⟩ (hM H.size) ⟨va_cnB As.length C.2.2.2.2.2.2.1 (T0_call hcode) rfl hrc hrs (C.2.2.2.2.2.2.2.2.1 _ hlink) (C.2.2.2.2.2.2.1 _ hini) ⟨hmh.1, hmh.2, hdsc⟩ hR, C.2.2.2.2.2.2.1 _ hinst, C.2.2.2.2.2.2.1 _ hsel⟩ ⟨Pre.blind, va_recv C.2.2.2.2.2.2.2.1 hP hcl (wld_get hk), fun U hU hW => ⟨rfl, by rw [hU], by rw [hU]; exact hP, C.2.2.2.2.2.2.2.warm hW hU hS⟩⟩ rfl rfl hl.1 rfl (lv_room hrm) hd hf) hS (fun q hlt h => wA_mono hS.1 q h) (fun q h => wA_mono hS.1 q h) (fun r u t H1 locs1 ht hvm hp hB hz1 hk1 hS1 => k r u hp H1 locs1 ls (by rw [← ht]; exact hB) hS1 hl)
theorem go_siN (C : Cx p s m args meth c cc nL ret own D cA ad L) (pc pc2 cells2 slots2 : Nat) {stk : List Value} {y : MethodName} {b2 : ByteArray} {n2 ix mc ms : Nat} {ret2 : Option FieldType} {rm : Room} {post : Int32 → St → Prop} (As : List Value) (hM : MetI l y b2 n2 ret2 rm D cA ad L As S post mc ms) {host : String} (hlink : Cond.methodLinkNest own ix y host ∈ N0) (hcode : Cond.code y b2 n2 ret2 ∈ T0) (hini : Cond.initialized y.cls ∈ T0) (hstat : Cond.static y ∈ T0) (hdsc : (parseMethodDescriptor y.desc).map (fun d => d.parameters.length) = some As.length) (hmh : y.cls ≠ "java/lang/invoke/MethodHandle" ∧ y.cls ≠ "java/lang/invoke/VarHandle") (hR : rm.frames + 1 ≤ R.frames ∧ 8 + (n2 + 11) + rm.locals ≤ R.locals) (hf : cells + mc ≤ R.cells ∧ slots + ms ≤ R.slots) (hrc : rm.cells = mc) (hrs : rm.slots = ms) (hc2 : cells + mc = cells2) (hs2 : slots + ms = slots2) (hrm : (st.map fun v => v.category).sum ≤ 8) (hp : pc + 3 = pc2) (hst : stk = As.reverse ++ st) (hd : decode cc pc = .ok (.invokestatic ix, 3)) (k : ∀ (r : Int32) (S2 : St), post r S2 → Go p l e R s m args below meth c D cA ad L nL cells2 slots2 Q S2 pc2 lv (.int r :: st)) : Go p l e R s m args below meth c D cA ad L nL cells slots Q S pc lv stk := by
  subst hp
  subst hst
  subst hc2
  subst hs2
  intro H locs ls hP hS hl
  exact va_calli (va_runSN (As := As) (rest := st) ⟨C.1, C.2.1, C.2.2.1, C.2.2.2.2.2.1, C.2.2.2.2.2.2.1⟩ (hM H.size) ⟨va_cnB As.length C.2.2.2.2.2.2.1 (T0_call hcode) rfl hrc hrs (C.2.2.2.2.2.2.2.2.1 _ hlink) (C.2.2.2.2.2.2.1 _ hini) ⟨hmh.1, hmh.2, hdsc⟩ hR, C.2.2.2.2.2.2.1 _ hstat, trivial⟩ ⟨Pre.blind, fun U hU hW => ⟨rfl, by rw [hU], by rw [hU]; exact hP, C.2.2.2.2.2.2.2.warm hW hU hS⟩⟩ rfl rfl hl.1 rfl (lv_room hrm) hd hf) hS (fun q hlt h => wA_mono hS.1 q h) (fun q h => wA_mono hS.1 q h) (fun r u t H1 locs1 ht hvm hp hB hz1 hk1 hS1 => k r u hp H1 locs1 ls (by rw [← ht]; exact hB) hS1 hl)
theorem go_vl (C : Cx p s m args meth c cc nL ret own D cA ad L) (pc pc2 cells2 slots2 : Nat) {stk : List Value} {y : MethodName} {b2 : ByteArray} {n2 ix mc ms : Nat} {ret2 : Option FieldType} {rm : Room} {post : Int64 → St → Prop} (As : List Value) {fs : List Nat} {ci : Nat} {T : u_T} {N : Nat} (k0 : Nat) (hk : L[k0]? = some (.inr (ci, fs))) (hcl : vwCl[ci]? = some (y.cls, T, N)) (hM : MetL l y b2 n2 ret2 rm D cA ad L (.ref (ad k0) :: As) S post mc ms) (hlink : Cond.methodLink own ix y ∈ T0) (hcode : Cond.code y b2 n2 ret2 ∈ T0) (hini : Cond.initialized y.cls ∈ T0) (hinst : Cond.instanceMethod y ∈ T0) (hsel : Cond.selects y.cls y y ∈ T0) (hdsc : (parseMethodDescriptor y.desc).map (fun d => d.parameters.length) = some As.length) (hmh : y.cls ≠ "java/lang/invoke/MethodHandle" ∧ y.cls ≠ "java/lang/invoke/VarHandle") (hR : rm.frames + 1 ≤ R.frames ∧ 8 + (n2 + 11) + rm.locals ≤ R.locals) (hf : cells + mc ≤ R.cells ∧ slots + ms ≤ R.slots) (hrc : rm.cells = mc) (hrs : rm.slots = ms) (hc2 : cells + mc = cells2) (hs2 : slots + ms = slots2) (hrm : (st.map fun v => v.category).sum ≤ 8) (hp : pc + 3 = pc2) (hst : stk = As.reverse ++ .ref (ad k0) :: st) (hd : decode cc pc = .ok (.invokevirtual ix, 3)) (k : ∀ (r : Int64) (S2 : St), post r S2 → Go p l e R s m args below meth c D cA ad L nL cells2 slots2 Q S2 pc2 lv (.long r :: st)) : Go p l e R s m args below meth c D cA ad L nL cells slots Q S pc lv stk := by
  subst hp
  subst hst
  subst hc2
  subst hs2
  intro H locs ls hP hS hl
  exact va_calll (va_runV (As := As) (rest := st) ⟨C.1, C.2.1, C.2.2.1, C.2.2.2.2.2.1, C.2.2.2.2.2.2.1⟩ (hM H.size) ⟨callB_of As.length C.2.2.2.2.2.2.1 (T0_call hcode) rfl hrc hrs (C.2.2.2.2.2.2.1 _ hini) (C.2.2.2.2.2.2.1 _ hlink) ⟨hmh.1, hmh.2, hdsc⟩ hR, C.2.2.2.2.2.2.1 _ hinst, C.2.2.2.2.2.2.1 _ hsel⟩ ⟨Pre.blind, va_recv C.2.2.2.2.2.2.2.1 hP hcl (wld_get hk), fun U hU hW => ⟨rfl, by rw [hU], by rw [hU]; exact hP, C.2.2.2.2.2.2.2.warm hW hU hS⟩⟩ rfl rfl hl.1 rfl (lv_room hrm) hd hf) hS (fun q hlt h => wA_mono hS.1 q h) (fun q h => wA_mono hS.1 q h) (fun r u t H1 locs1 ht hvm hp hB hz1 hk1 hS1 => k r u hp H1 locs1 ls (by rw [← ht]; exact hB) hS1 hl)
theorem go_sl (C : Cx p s m args meth c cc nL ret own D cA ad L) (pc pc2 cells2 slots2 : Nat) {stk : List Value} {y : MethodName} {b2 : ByteArray} {n2 ix mc ms : Nat} {ret2 : Option FieldType} {rm : Room} {post : Int64 → St → Prop} (As : List Value) (hM : MetL l y b2 n2 ret2 rm D cA ad L As S post mc ms) (hlink : Cond.methodLink own ix y ∈ T0) (hcode : Cond.code y b2 n2 ret2 ∈ T0) (hini : Cond.initialized y.cls ∈ T0) (hstat : Cond.static y ∈ T0) (hdsc : (parseMethodDescriptor y.desc).map (fun d => d.parameters.length) = some As.length) (hmh : y.cls ≠ "java/lang/invoke/MethodHandle" ∧ y.cls ≠ "java/lang/invoke/VarHandle") (hR : rm.frames + 1 ≤ R.frames ∧ 8 + (n2 + 11) + rm.locals ≤ R.locals) (hf : cells + mc ≤ R.cells ∧ slots + ms ≤ R.slots) (hrc : rm.cells = mc) (hrs : rm.slots = ms) (hc2 : cells + mc = cells2) (hs2 : slots + ms = slots2) (hrm : (st.map fun v => v.category).sum ≤ 8) (hp : pc + 3 = pc2) (hst : stk = As.reverse ++ st) (hd : decode cc pc = .ok (.invokestatic ix, 3)) (k : ∀ (r : Int64) (S2 : St), post r S2 → Go p l e R s m args below meth c D cA ad L nL cells2 slots2 Q S2 pc2 lv (.long r :: st)) : Go p l e R s m args below meth c D cA ad L nL cells slots Q S pc lv stk := by
  subst hp
  subst hst
  subst hc2
  subst hs2
  intro H locs ls hP hS hl
  exact va_calll (va_runS (As := As) (rest := st) ⟨C.1, C.2.1, C.2.2.1, C.2.2.2.2.2.1, C.2.2.2.2.2.2.1⟩ (hM H.size) ⟨callB_of As.length C.2.2.2.2.2.2.1 (T0_call hcode) rfl hrc hrs (C.2.2.2.2.2.2.1 _ hini) (C.2.2.2.2.2.2.1 _ hlink) ⟨hmh.1, hmh.2, hdsc⟩ hR, C.2.2.2.2.2.2.1 _ hstat⟩ ⟨Pre.blind, fun U hU hW => ⟨rfl, by rw [hU], by rw [hU]; exact hP, C.2.2.2.2.2.2.2.warm hW hU hS⟩⟩ rfl rfl hl.1 rfl (lv_room hrm) hd hf) hS (fun q hlt h => wA_mono hS.1 q h) (fun q h => wA_mono hS.1 q h) (fun r u t H1 locs1 ht hvm hp hB hz1 hk1 hS1 => k r u hp H1 locs1 ls (by rw [← ht]; exact hB) hS1 hl)
theorem go_vlN (C : Cx p s m args meth c cc nL ret own D cA ad L) (pc pc2 cells2 slots2 : Nat) {stk : List Value} {y : MethodName} {b2 : ByteArray} {n2 ix mc ms : Nat} {ret2 : Option FieldType} {rm : Room} {post : Int64 → St → Prop} (As : List Value) {fs : List Nat} {ci : Nat} {T : u_T} {N : Nat} (k0 : Nat) (hk : L[k0]? = some (.inr (ci, fs))) (hcl : vwCl[ci]? = some (y.cls, T, N)) (hM : MetL l y b2 n2 ret2 rm D cA ad L (.ref (ad k0) :: As) S post mc ms) {host : String} (hlink : Cond.methodLinkNest own ix y host ∈ N0) (hcode : Cond.code y b2 n2 ret2 ∈ T0) (hini : Cond.initialized y.cls ∈ T0) (hinst : Cond.instanceMethod y ∈ T0) (hsel : Cond.selects y.cls y y ∈ T0) (hdsc : (parseMethodDescriptor y.desc).map (fun d => d.parameters.length) = some As.length) (hmh : y.cls ≠ "java/lang/invoke/MethodHandle" ∧ y.cls ≠ "java/lang/invoke/VarHandle") (hR : rm.frames + 1 ≤ R.frames ∧ 8 + (n2 + 11) + rm.locals ≤ R.locals) (hf : cells + mc ≤ R.cells ∧ slots + ms ≤ R.slots) (hrc : rm.cells = mc) (hrs : rm.slots = ms) (hc2 : cells + mc = cells2) (hs2 : slots + ms = slots2) (hrm : (st.map fun v => v.category).sum ≤ 8) (hp : pc + 3 = pc2) (hst : stk = As.reverse ++ .ref (ad k0) :: st) (hd : decode cc pc = .ok (.invokevirtual ix, 3)) (k : ∀ (r : Int64) (S2 : St), post r S2 → Go p l e R s m args below meth c D cA ad L nL cells2 slots2 Q S2 pc2 lv (.long r :: st)) : Go p l e R s m args below meth c D cA ad L nL cells slots Q S pc lv stk := by
  subst hp
  subst hst
  subst hc2
  subst hs2
  intro H locs ls hP hS hl
  exact va_calll (va_runVN (As := As) (rest := st) ⟨C.1, C.2.1, C.2.2.1, C.2.2.2.2.2.1, C.2.2.2.2.2.2.1⟩ (hM H.size) ⟨va_cnB As.length C.2.2.2.2.2.2.1 (T0_call hcode) rfl hrc hrs (C.2.2.2.2.2.2.2.2.1 _ hlink) (C.2.2.2.2.2.2.1 _ hini) ⟨hmh.1, hmh.2, hdsc⟩ hR, C.2.2.2.2.2.2.1 _ hinst, C.2.2.2.2.2.2.1 _ hsel⟩ ⟨Pre.blind, va_recv C.2.2.2.2.2.2.2.1 hP hcl (wld_get hk), fun U hU hW => ⟨rfl, by rw [hU], by rw [hU]; exact hP, C.2.2.2.2.2.2.2.warm hW hU hS⟩⟩ rfl rfl hl.1 rfl (lv_room hrm) hd hf) hS (fun q hlt h => wA_mono hS.1 q h) (fun q h => wA_mono hS.1 q h) (fun r u t H1 locs1 ht hvm hp hB hz1 hk1 hS1 => k r u hp H1 locs1 ls (by rw [← ht]; exact hB) hS1 hl)
theorem go_slN (C : Cx p s m args meth c cc nL ret own D cA ad L) (pc pc2 cells2 slots2 : Nat) {stk : List Value} {y : MethodName} {b2 : ByteArray} {n2 ix mc ms : Nat} {ret2 : Option FieldType} {rm : Room} {post : Int64 → St → Prop} (As : List Value) (hM : MetL l y b2 n2 ret2 rm D cA ad L As S post mc ms) {host : String} (hlink : Cond.methodLinkNest own ix y host ∈ N0) (hcode : Cond.code y b2 n2 ret2 ∈ T0) (hini : Cond.initialized y.cls ∈ T0) (hstat : Cond.static y ∈ T0) (hdsc : (parseMethodDescriptor y.desc).map (fun d => d.parameters.length) = some As.length) (hmh : y.cls ≠ "java/lang/invoke/MethodHandle" ∧ y.cls ≠ "java/lang/invoke/VarHandle") (hR : rm.frames + 1 ≤ R.frames ∧ 8 + (n2 + 11) + rm.locals ≤ R.locals) (hf : cells + mc ≤ R.cells ∧ slots + ms ≤ R.slots) (hrc : rm.cells = mc) (hrs : rm.slots = ms) (hc2 : cells + mc = cells2) (hs2 : slots + ms = slots2) (hrm : (st.map fun v => v.category).sum ≤ 8) (hp : pc + 3 = pc2) (hst : stk = As.reverse ++ st) (hd : decode cc pc = .ok (.invokestatic ix, 3)) (k : ∀ (r : Int64) (S2 : St), post r S2 → Go p l e R s m args below meth c D cA ad L nL cells2 slots2 Q S2 pc2 lv (.long r :: st)) : Go p l e R s m args below meth c D cA ad L nL cells slots Q S pc lv stk := by
  subst hp
  subst hst
  subst hc2
  subst hs2
  intro H locs ls hP hS hl
  exact va_calll (va_runSN (As := As) (rest := st) ⟨C.1, C.2.1, C.2.2.1, C.2.2.2.2.2.1, C.2.2.2.2.2.2.1⟩ (hM H.size) ⟨va_cnB As.length C.2.2.2.2.2.2.1 (T0_call hcode) rfl hrc hrs (C.2.2.2.2.2.2.2.2.1 _ hlink) (C.2.2.2.2.2.2.1 _ hini) ⟨hmh.1, hmh.2, hdsc⟩ hR, C.2.2.2.2.2.2.1 _ hstat, trivial⟩ ⟨Pre.blind, fun U hU hW => ⟨rfl, by rw [hU], by rw [hU]; exact hP, C.2.2.2.2.2.2.2.warm hW hU hS⟩⟩ rfl rfl hl.1 rfl (lv_room hrm) hd hf) hS (fun q hlt h => wA_mono hS.1 q h) (fun q h => wA_mono hS.1 q h) (fun r u t H1 locs1 ht hvm hp hB hz1 hk1 hS1 => k r u hp H1 locs1 ls (by rw [← ht]; exact hB) hS1 hl)
theorem go_vv (C : Cx p s m args meth c cc nL ret own D cA ad L) (pc pc2 cells2 slots2 : Nat) {stk : List Value} {y : MethodName} {b2 : ByteArray} {n2 ix mc ms : Nat} {ret2 : Option FieldType} {rm : Room} {post : St → Prop} (As : List Value) {fs : List Nat} {ci : Nat} {T : u_T} {N : Nat} (k0 : Nat) (hk : L[k0]? = some (.inr (ci, fs))) (hcl : vwCl[ci]? = some (y.cls, T, N)) (hM : MetV l y b2 n2 ret2 rm D cA ad L (.ref (ad k0) :: As) S post mc ms) (hlink : Cond.methodLink own ix y ∈ T0) (hcode : Cond.code y b2 n2 ret2 ∈ T0) (hini : Cond.initialized y.cls ∈ T0) (hinst : Cond.instanceMethod y ∈ T0) (hsel : Cond.selects y.cls y y ∈ T0) (hdsc : (parseMethodDescriptor y.desc).map (fun d => d.parameters.length) = some As.length) (hmh : y.cls ≠ "java/lang/invoke/MethodHandle" ∧ y.cls ≠ "java/lang/invoke/VarHandle") (hR : rm.frames + 1 ≤ R.frames ∧ 8 + (n2 + 11) + rm.locals ≤ R.locals) (hf : cells + mc ≤ R.cells ∧ slots + ms ≤ R.slots) (hrc : rm.cells = mc) (hrs : rm.slots = ms) (hc2 : cells + mc = cells2) (hs2 : slots + ms = slots2) (hrm : (st.map fun v => v.category).sum ≤ 8) (hp : pc + 3 = pc2) (hst : stk = As.reverse ++ .ref (ad k0) :: st) (hd : decode cc pc = .ok (.invokevirtual ix, 3)) (k : ∀ S2 : St, post S2 → Go p l e R s m args below meth c D cA ad L nL cells2 slots2 Q S2 pc2 lv (st)) : Go p l e R s m args below meth c D cA ad L nL cells slots Q S pc lv stk := by
  subst hp
  subst hst
  subst hc2
  subst hs2
  intro H locs ls hP hS hl
  exact va_callv (va_runV (As := As) (rest := st) ⟨C.1, C.2.1, C.2.2.1, C.2.2.2.2.2.1, C.2.2.2.2.2.2.1⟩ (hM H.size) ⟨callB_of As.length C.2.2.2.2.2.2.1 (T0_call hcode) rfl hrc hrs (C.2.2.2.2.2.2.1 _ hini) (C.2.2.2.2.2.2.1 _ hlink) ⟨hmh.1, hmh.2, hdsc⟩ hR, C.2.2.2.2.2.2.1 _ hinst, C.2.2.2.2.2.2.1 _ hsel⟩ ⟨Pre.blind, va_recv C.2.2.2.2.2.2.2.1 hP hcl (wld_get hk), fun U hU hW => ⟨rfl, by rw [hU], by rw [hU]; exact hP, C.2.2.2.2.2.2.2.warm hW hU hS⟩⟩ rfl rfl hl.1 rfl (lv_room hrm) hd hf) hS (fun q hlt h => wA_mono hS.1 q h) (fun q h => wA_mono hS.1 q h) (fun u t H1 locs1 ht hvm hp hB hz1 hk1 hS1 => k u hp H1 locs1 ls (by rw [← ht]; exact hB) hS1 hl)
theorem go_sv (C : Cx p s m args meth c cc nL ret own D cA ad L) (pc pc2 cells2 slots2 : Nat) {stk : List Value} {y : MethodName} {b2 : ByteArray} {n2 ix mc ms : Nat} {ret2 : Option FieldType} {rm : Room} {post : St → Prop} (As : List Value) (hM : MetV l y b2 n2 ret2 rm D cA ad L As S post mc ms) (hlink : Cond.methodLink own ix y ∈ T0) (hcode : Cond.code y b2 n2 ret2 ∈ T0) (hini : Cond.initialized y.cls ∈ T0) (hstat : Cond.static y ∈ T0) (hdsc : (parseMethodDescriptor y.desc).map (fun d => d.parameters.length) = some As.length) (hmh : y.cls ≠ "java/lang/invoke/MethodHandle" ∧ y.cls ≠ "java/lang/invoke/VarHandle") (hR : rm.frames + 1 ≤ R.frames ∧ 8 + (n2 + 11) + rm.locals ≤ R.locals) (hf : cells + mc ≤ R.cells ∧ slots + ms ≤ R.slots) (hrc : rm.cells = mc) (hrs : rm.slots = ms) (hc2 : cells + mc = cells2) (hs2 : slots + ms = slots2) (hrm : (st.map fun v => v.category).sum ≤ 8) (hp : pc + 3 = pc2) (hst : stk = As.reverse ++ st) (hd : decode cc pc = .ok (.invokestatic ix, 3)) (k : ∀ S2 : St, post S2 → Go p l e R s m args below meth c D cA ad L nL cells2 slots2 Q S2 pc2 lv (st)) : Go p l e R s m args below meth c D cA ad L nL cells slots Q S pc lv stk := by
  subst hp
  subst hst
  subst hc2
  subst hs2
  intro H locs ls hP hS hl
  exact va_callv (va_runS (As := As) (rest := st) ⟨C.1, C.2.1, C.2.2.1, C.2.2.2.2.2.1, C.2.2.2.2.2.2.1⟩ (hM H.size) ⟨callB_of As.length C.2.2.2.2.2.2.1 (T0_call hcode) rfl hrc hrs (C.2.2.2.2.2.2.1 _ hini) (C.2.2.2.2.2.2.1 _ hlink) ⟨hmh.1, hmh.2, hdsc⟩ hR, C.2.2.2.2.2.2.1 _ hstat⟩ ⟨Pre.blind, fun U hU hW => ⟨rfl, by rw [hU], by rw [hU]; exact hP, C.2.2.2.2.2.2.2.warm hW hU hS⟩⟩ rfl rfl hl.1 rfl (lv_room hrm) hd hf) hS (fun q hlt h => wA_mono hS.1 q h) (fun q h => wA_mono hS.1 q h) (fun u t H1 locs1 ht hvm hp hB hz1 hk1 hS1 => k u hp H1 locs1 ls (by rw [← ht]; exact hB) hS1 hl)
theorem go_vvN (C : Cx p s m args meth c cc nL ret own D cA ad L) (pc pc2 cells2 slots2 : Nat) {stk : List Value} {y : MethodName} {b2 : ByteArray} {n2 ix mc ms : Nat} {ret2 : Option FieldType} {rm : Room} {post : St → Prop} (As : List Value) {fs : List Nat} {ci : Nat} {T : u_T} {N : Nat} (k0 : Nat) (hk : L[k0]? = some (.inr (ci, fs))) (hcl : vwCl[ci]? = some (y.cls, T, N)) (hM : MetV l y b2 n2 ret2 rm D cA ad L (.ref (ad k0) :: As) S post mc ms) {host : String} (hlink : Cond.methodLinkNest own ix y host ∈ N0) (hcode : Cond.code y b2 n2 ret2 ∈ T0) (hini : Cond.initialized y.cls ∈ T0) (hinst : Cond.instanceMethod y ∈ T0) (hsel : Cond.selects y.cls y y ∈ T0) (hdsc : (parseMethodDescriptor y.desc).map (fun d => d.parameters.length) = some As.length) (hmh : y.cls ≠ "java/lang/invoke/MethodHandle" ∧ y.cls ≠ "java/lang/invoke/VarHandle") (hR : rm.frames + 1 ≤ R.frames ∧ 8 + (n2 + 11) + rm.locals ≤ R.locals) (hf : cells + mc ≤ R.cells ∧ slots + ms ≤ R.slots) (hrc : rm.cells = mc) (hrs : rm.slots = ms) (hc2 : cells + mc = cells2) (hs2 : slots + ms = slots2) (hrm : (st.map fun v => v.category).sum ≤ 8) (hp : pc + 3 = pc2) (hst : stk = As.reverse ++ .ref (ad k0) :: st) (hd : decode cc pc = .ok (.invokevirtual ix, 3)) (k : ∀ S2 : St, post S2 → Go p l e R s m args below meth c D cA ad L nL cells2 slots2 Q S2 pc2 lv (st)) : Go p l e R s m args below meth c D cA ad L nL cells slots Q S pc lv stk := by
  subst hp
  subst hst
  subst hc2
  subst hs2
  intro H locs ls hP hS hl
  exact va_callv (va_runVN (As := As) (rest := st) ⟨C.1, C.2.1, C.2.2.1, C.2.2.2.2.2.1, C.2.2.2.2.2.2.1⟩ (hM H.size) ⟨va_cnB As.length C.2.2.2.2.2.2.1 (T0_call hcode) rfl hrc hrs (C.2.2.2.2.2.2.2.2.1 _ hlink) (C.2.2.2.2.2.2.1 _ hini) ⟨hmh.1, hmh.2, hdsc⟩ hR, C.2.2.2.2.2.2.1 _ hinst, C.2.2.2.2.2.2.1 _ hsel⟩ ⟨Pre.blind, va_recv C.2.2.2.2.2.2.2.1 hP hcl (wld_get hk), fun U hU hW => ⟨rfl, by rw [hU], by rw [hU]; exact hP, C.2.2.2.2.2.2.2.warm hW hU hS⟩⟩ rfl rfl hl.1 rfl (lv_room hrm) hd hf) hS (fun q hlt h => wA_mono hS.1 q h) (fun q h => wA_mono hS.1 q h) (fun u t H1 locs1 ht hvm hp hB hz1 hk1 hS1 => k u hp H1 locs1 ls (by rw [← ht]; exact hB) hS1 hl)
theorem go_svN (C : Cx p s m args meth c cc nL ret own D cA ad L) (pc pc2 cells2 slots2 : Nat) {stk : List Value} {y : MethodName} {b2 : ByteArray} {n2 ix mc ms : Nat} {ret2 : Option FieldType} {rm : Room} {post : St → Prop} (As : List Value) (hM : MetV l y b2 n2 ret2 rm D cA ad L As S post mc ms) {host : String} (hlink : Cond.methodLinkNest own ix y host ∈ N0) (hcode : Cond.code y b2 n2 ret2 ∈ T0) (hini : Cond.initialized y.cls ∈ T0) (hstat : Cond.static y ∈ T0) (hdsc : (parseMethodDescriptor y.desc).map (fun d => d.parameters.length) = some As.length) (hmh : y.cls ≠ "java/lang/invoke/MethodHandle" ∧ y.cls ≠ "java/lang/invoke/VarHandle") (hR : rm.frames + 1 ≤ R.frames ∧ 8 + (n2 + 11) + rm.locals ≤ R.locals) (hf : cells + mc ≤ R.cells ∧ slots + ms ≤ R.slots) (hrc : rm.cells = mc) (hrs : rm.slots = ms) (hc2 : cells + mc = cells2) (hs2 : slots + ms = slots2) (hrm : (st.map fun v => v.category).sum ≤ 8) (hp : pc + 3 = pc2) (hst : stk = As.reverse ++ st) (hd : decode cc pc = .ok (.invokestatic ix, 3)) (k : ∀ S2 : St, post S2 → Go p l e R s m args below meth c D cA ad L nL cells2 slots2 Q S2 pc2 lv (st)) : Go p l e R s m args below meth c D cA ad L nL cells slots Q S pc lv stk := by
  subst hp
  subst hst
  subst hc2
  subst hs2
  intro H locs ls hP hS hl
  exact va_callv (va_runSN (As := As) (rest := st) ⟨C.1, C.2.1, C.2.2.1, C.2.2.2.2.2.1, C.2.2.2.2.2.2.1⟩ (hM H.size) ⟨va_cnB As.length C.2.2.2.2.2.2.1 (T0_call hcode) rfl hrc hrs (C.2.2.2.2.2.2.2.2.1 _ hlink) (C.2.2.2.2.2.2.1 _ hini) ⟨hmh.1, hmh.2, hdsc⟩ hR, C.2.2.2.2.2.2.1 _ hstat, trivial⟩ ⟨Pre.blind, fun U hU hW => ⟨rfl, by rw [hU], by rw [hU]; exact hP, C.2.2.2.2.2.2.2.warm hW hU hS⟩⟩ rfl rfl hl.1 rfl (lv_room hrm) hd hf) hS (fun q hlt h => wA_mono hS.1 q h) (fun q h => wA_mono hS.1 q h) (fun u t H1 locs1 ht hvm hp hB hz1 hk1 hS1 => k u hp H1 locs1 ls (by rw [← ht]; exact hB) hS1 hl)
end GO
theorem MetI.of {l : Launch} {y : MethodName} {cc : ByteArray} {nL : Nat} {ret : Option FieldType} {rm : Room} {D : va_G} {cA : Nat → ClassId} {ad : Nat → Nat} {L : List Lay} {av : List Value} {S : St} {post : Int32 → St → Prop} {mc ms : Nat} (hy : plainName y.cls = true) (hn : (lg_sl av).length ≤ nL)
    (body : ∀ (p : Program) (e : Env) (s : State) (m : MethodId) (args : Array Value) (below : List Frame) (meth : Method) (c : Code), Cx p s m args meth c cc nL ret y.cls D cA ad L → Go p l e rm s m args below meth c D cA ad L nL 0 0 (QI D cA ad L below args s mc ms post) S 0 (lv_args 0 av) []) : MetI l y cc nL ret rm D cA ad L av S post mc ms := by
  intro sz
  refine Met.ofW (cc := cc) (maxL := nL) (ret := ret) hy rfl ?_
  intro p e s m args below meth c s₁ B hml hv
  obtain ⟨rfl, hsz, hP, hE⟩ := hv
  have hts := atoms_spec (ws := Cond.code y cc nL ret :: T0) B.pre
  have hC : Cx p s m av.toArray meth c cc nL ret y.cls D cA ad L := ⟨B.exec, B.bytes, hml, B.returns, B.notSynchronized, findClass_of_methodNamed B.named, fun w hw => hts w (List.mem_cons_of_mem _ hw), hE⟩
  subst hsz
  have hl := lv_entry av (n := nL) hn
  rw [lg_entry_eq]
  exact body p e s m av.toArray below meth c hC s.heap [] _ hP va_S.rf hl
theorem MetL.of {l : Launch} {y : MethodName} {cc : ByteArray} {nL : Nat} {ret : Option FieldType} {rm : Room} {D : va_G} {cA : Nat → ClassId} {ad : Nat → Nat} {L : List Lay} {av : List Value} {S : St} {post : Int64 → St → Prop} {mc ms : Nat} (hy : plainName y.cls = true) (hn : (lg_sl av).length ≤ nL)
    (body : ∀ (p : Program) (e : Env) (s : State) (m : MethodId) (args : Array Value) (below : List Frame) (meth : Method) (c : Code), Cx p s m args meth c cc nL ret y.cls D cA ad L → Go p l e rm s m args below meth c D cA ad L nL 0 0 (QL D cA ad L below args s mc ms post) S 0 (lv_args 0 av) []) : MetL l y cc nL ret rm D cA ad L av S post mc ms := by
  intro sz
  refine Met.ofW (cc := cc) (maxL := nL) (ret := ret) hy rfl ?_
  intro p e s m args below meth c s₁ B hml hv
  obtain ⟨rfl, hsz, hP, hE⟩ := hv
  have hts := atoms_spec (ws := Cond.code y cc nL ret :: T0) B.pre
  have hC : Cx p s m av.toArray meth c cc nL ret y.cls D cA ad L := ⟨B.exec, B.bytes, hml, B.returns, B.notSynchronized, findClass_of_methodNamed B.named, fun w hw => hts w (List.mem_cons_of_mem _ hw), hE⟩
  subst hsz
  have hl := lv_entry av (n := nL) hn
  rw [lg_entry_eq]
  exact body p e s m av.toArray below meth c hC s.heap [] _ hP va_S.rf hl
theorem MetV.of {l : Launch} {y : MethodName} {cc : ByteArray} {nL : Nat} {ret : Option FieldType} {rm : Room} {D : va_G} {cA : Nat → ClassId} {ad : Nat → Nat} {L : List Lay} {av : List Value} {S : St} {post : St → Prop} {mc ms : Nat} (hy : plainName y.cls = true) (hn : (lg_sl av).length ≤ nL)
    (body : ∀ (p : Program) (e : Env) (s : State) (m : MethodId) (args : Array Value) (below : List Frame) (meth : Method) (c : Code), Cx p s m args meth c cc nL ret y.cls D cA ad L → Go p l e rm s m args below meth c D cA ad L nL 0 0 (QV D cA ad L below args s mc ms post) S 0 (lv_args 0 av) []) : MetV l y cc nL ret rm D cA ad L av S post mc ms := by
  intro sz
  refine Met.ofW (cc := cc) (maxL := nL) (ret := ret) hy rfl ?_
  intro p e s m args below meth c s₁ B hml hv
  obtain ⟨rfl, hsz, hP, hE⟩ := hv
  have hts := atoms_spec (ws := Cond.code y cc nL ret :: T0) B.pre
  have hC : Cx p s m av.toArray meth c cc nL ret y.cls D cA ad L := ⟨B.exec, B.bytes, hml, B.returns, B.notSynchronized, findClass_of_methodNamed B.named, fun w hw => hts w (List.mem_cons_of_mem _ hw), hE⟩
  subst hsz
  have hl := lv_entry av (n := nL) hn
  rw [lg_entry_eq]
  exact body p e s m av.toArray below meth c hC s.heap [] _ hP va_S.rf hl
end
section
/-! the one layout: class, then reference, then the rows of the grids -/
def LU : List Lay := [.inr (5, [3, 4, 5, 6, 7, 8, 9]), .inr (4, [0, 10, 11, 12, 13, 14, 15]), .inr (3, [0, 0, 16]), .inr (1, [17, 1, 18, 19, 20]), .inr (2, [21, 1, 22]), .inr (0, [0, 0, 23, 24, 25, 26]), .inl (0, 8, 0), .inl (0, 8, 0), .inl (0, 6, 0), .inl (0, 6, 0), .inl (3, 6, 43), .inl (3, 6, 49), .inl (0, 8, 0), .inl (0, 256, 0), .inl (0, 8, 0), .inl (1, 6, 0), .inl (4, 6, 55), .inl (1, 6, 0), .inl (1, 64, 0), .inl (1, 8, 0), .inl (1, 8, 0), .inl (0, 8, 0), .inl (0, 400, 0), .inl (0, 400, 0), .inl (0, 400, 0), .inr (6, [0, 28, 29, 30, 31, 32, 33, 34, 0, 0, 0, 0, 35, 36, 37, 38, 39, 40, 41, 0, 1, 42, 1, 43, 0, 44]), .inl (0, 6, 0), .inl (0, 6, 0), .inl (0, 48, 0), .inl (0, 36, 0), .inl (0, 8, 0), .inl (0, 8, 0), .inl (2, 8, 0), .inl (0, 400, 0), .inl (0, 400, 0), .inl (0, 400, 0), .inl (0, 6, 0), .inl (1, 36, 0), .inl (1, 6, 0), .inl (1, 6, 0), .inl (1, 8, 0), .inl (0, 256, 0), .inl (0, 8, 0), .inl (0, 8, 0), .inl (0, 8, 0), .inl (0, 8, 0), .inl (0, 8, 0), .inl (0, 8, 0), .inl (0, 8, 0), .inl (0, 6, 0), .inl (0, 6, 0), .inl (0, 6, 0), .inl (0, 6, 0), .inl (0, 6, 0), .inl (0, 6, 0), .inl (1, 6, 0), .inl (1, 6, 0), .inl (1, 6, 0), .inl (1, 6, 0), .inl (1, 6, 0), .inl (1, 6, 0)]
theorem lu0 (ex : List Lay) : (LU ++ ex)[0]? = some (.inr (5, [3, 4, 5, 6, 7, 8, 9])) := rfl
theorem lu1 (ex : List Lay) : (LU ++ ex)[1]? = some (.inr (4, [0, 10, 11, 12, 13, 14, 15])) := rfl
theorem lu2 (ex : List Lay) : (LU ++ ex)[2]? = some (.inr (3, [0, 0, 16])) := rfl
theorem lu3 (ex : List Lay) : (LU ++ ex)[3]? = some (.inr (1, [17, 1, 18, 19, 20])) := rfl
theorem lu4 (ex : List Lay) : (LU ++ ex)[4]? = some (.inr (2, [21, 1, 22])) := rfl
theorem lu5 (ex : List Lay) : (LU ++ ex)[5]? = some (.inr (0, [0, 0, 23, 24, 25, 26])) := rfl
theorem lu6 (ex : List Lay) : (LU ++ ex)[6]? = some (.inl (0, 8, 0)) := rfl
theorem lu7 (ex : List Lay) : (LU ++ ex)[7]? = some (.inl (0, 8, 0)) := rfl
theorem lu8 (ex : List Lay) : (LU ++ ex)[8]? = some (.inl (0, 6, 0)) := rfl
theorem lu9 (ex : List Lay) : (LU ++ ex)[9]? = some (.inl (0, 6, 0)) := rfl
theorem lu10 (ex : List Lay) : (LU ++ ex)[10]? = some (.inl (3, 6, 43)) := rfl
theorem lu11 (ex : List Lay) : (LU ++ ex)[11]? = some (.inl (3, 6, 49)) := rfl
theorem lu12 (ex : List Lay) : (LU ++ ex)[12]? = some (.inl (0, 8, 0)) := rfl
theorem lu13 (ex : List Lay) : (LU ++ ex)[13]? = some (.inl (0, 256, 0)) := rfl
theorem lu14 (ex : List Lay) : (LU ++ ex)[14]? = some (.inl (0, 8, 0)) := rfl
theorem lu15 (ex : List Lay) : (LU ++ ex)[15]? = some (.inl (1, 6, 0)) := rfl
theorem lu16 (ex : List Lay) : (LU ++ ex)[16]? = some (.inl (4, 6, 55)) := rfl
theorem lu17 (ex : List Lay) : (LU ++ ex)[17]? = some (.inl (1, 6, 0)) := rfl
theorem lu18 (ex : List Lay) : (LU ++ ex)[18]? = some (.inl (1, 64, 0)) := rfl
theorem lu19 (ex : List Lay) : (LU ++ ex)[19]? = some (.inl (1, 8, 0)) := rfl
theorem lu20 (ex : List Lay) : (LU ++ ex)[20]? = some (.inl (1, 8, 0)) := rfl
theorem lu21 (ex : List Lay) : (LU ++ ex)[21]? = some (.inl (0, 8, 0)) := rfl
theorem lu22 (ex : List Lay) : (LU ++ ex)[22]? = some (.inl (0, 400, 0)) := rfl
theorem lu23 (ex : List Lay) : (LU ++ ex)[23]? = some (.inl (0, 400, 0)) := rfl
theorem lu24 (ex : List Lay) : (LU ++ ex)[24]? = some (.inl (0, 400, 0)) := rfl
theorem lu25 (ex : List Lay) : (LU ++ ex)[25]? = some (.inr (6, [0, 28, 29, 30, 31, 32, 33, 34, 0, 0, 0, 0, 35, 36, 37, 38, 39, 40, 41, 0, 1, 42, 1, 43, 0, 44])) := rfl
theorem lu26 (ex : List Lay) : (LU ++ ex)[26]? = some (.inl (0, 6, 0)) := rfl
theorem lu27 (ex : List Lay) : (LU ++ ex)[27]? = some (.inl (0, 6, 0)) := rfl
theorem lu28 (ex : List Lay) : (LU ++ ex)[28]? = some (.inl (0, 48, 0)) := rfl
theorem lu29 (ex : List Lay) : (LU ++ ex)[29]? = some (.inl (0, 36, 0)) := rfl
theorem lu30 (ex : List Lay) : (LU ++ ex)[30]? = some (.inl (0, 8, 0)) := rfl
theorem lu31 (ex : List Lay) : (LU ++ ex)[31]? = some (.inl (0, 8, 0)) := rfl
theorem lu32 (ex : List Lay) : (LU ++ ex)[32]? = some (.inl (2, 8, 0)) := rfl
theorem lu33 (ex : List Lay) : (LU ++ ex)[33]? = some (.inl (0, 400, 0)) := rfl
theorem lu34 (ex : List Lay) : (LU ++ ex)[34]? = some (.inl (0, 400, 0)) := rfl
theorem lu35 (ex : List Lay) : (LU ++ ex)[35]? = some (.inl (0, 400, 0)) := rfl
theorem lu36 (ex : List Lay) : (LU ++ ex)[36]? = some (.inl (0, 6, 0)) := rfl
theorem lu37 (ex : List Lay) : (LU ++ ex)[37]? = some (.inl (1, 36, 0)) := rfl
theorem lu38 (ex : List Lay) : (LU ++ ex)[38]? = some (.inl (1, 6, 0)) := rfl
theorem lu39 (ex : List Lay) : (LU ++ ex)[39]? = some (.inl (1, 6, 0)) := rfl
theorem lu40 (ex : List Lay) : (LU ++ ex)[40]? = some (.inl (1, 8, 0)) := rfl
theorem lu41 (ex : List Lay) : (LU ++ ex)[41]? = some (.inl (0, 256, 0)) := rfl
theorem lu42 (ex : List Lay) : (LU ++ ex)[42]? = some (.inl (0, 8, 0)) := rfl
theorem lu43 (ex : List Lay) : (LU ++ ex)[43]? = some (.inl (0, 8, 0)) := rfl
theorem lu44 (ex : List Lay) : (LU ++ ex)[44]? = some (.inl (0, 8, 0)) := rfl
theorem lu45 (ex : List Lay) : (LU ++ ex)[45]? = some (.inl (0, 8, 0)) := rfl
theorem lu46 (ex : List Lay) : (LU ++ ex)[46]? = some (.inl (0, 8, 0)) := rfl
theorem lu47 (ex : List Lay) : (LU ++ ex)[47]? = some (.inl (0, 8, 0)) := rfl
theorem lu48 (ex : List Lay) : (LU ++ ex)[48]? = some (.inl (0, 8, 0)) := rfl
theorem lu49 (ex : List Lay) : (LU ++ ex)[49]? = some (.inl (0, 6, 0)) := rfl
theorem lu50 (ex : List Lay) : (LU ++ ex)[50]? = some (.inl (0, 6, 0)) := rfl
theorem lu51 (ex : List Lay) : (LU ++ ex)[51]? = some (.inl (0, 6, 0)) := rfl
theorem lu52 (ex : List Lay) : (LU ++ ex)[52]? = some (.inl (0, 6, 0)) := rfl
theorem lu53 (ex : List Lay) : (LU ++ ex)[53]? = some (.inl (0, 6, 0)) := rfl
theorem lu54 (ex : List Lay) : (LU ++ ex)[54]? = some (.inl (0, 6, 0)) := rfl
theorem lu55 (ex : List Lay) : (LU ++ ex)[55]? = some (.inl (1, 6, 0)) := rfl
theorem lu56 (ex : List Lay) : (LU ++ ex)[56]? = some (.inl (1, 6, 0)) := rfl
theorem lu57 (ex : List Lay) : (LU ++ ex)[57]? = some (.inl (1, 6, 0)) := rfl
theorem lu58 (ex : List Lay) : (LU ++ ex)[58]? = some (.inl (1, 6, 0)) := rfl
theorem lu59 (ex : List Lay) : (LU ++ ex)[59]? = some (.inl (1, 6, 0)) := rfl
theorem lu60 (ex : List Lay) : (LU ++ ex)[60]? = some (.inl (1, 6, 0)) := rfl
theorem lg43 (ex : List Lay) {i : Nat} (h : i < 6) : (LU ++ ex)[43 + i]? = some (.inl (0, 8, 0)) := by
  match i, h with
  | 0, _ => rfl
  | 1, _ => rfl
  | 2, _ => rfl
  | 3, _ => rfl
  | 4, _ => rfl
  | 5, _ => rfl
  | n + 6, h => exact absurd h (by omega)
theorem lg49 (ex : List Lay) {i : Nat} (h : i < 6) : (LU ++ ex)[49 + i]? = some (.inl (0, 6, 0)) := by
  match i, h with
  | 0, _ => rfl
  | 1, _ => rfl
  | 2, _ => rfl
  | 3, _ => rfl
  | 4, _ => rfl
  | 5, _ => rfl
  | n + 6, h => exact absurd h (by omega)
theorem lg55 (ex : List Lay) {i : Nat} (h : i < 6) : (LU ++ ex)[55 + i]? = some (.inl (1, 6, 0)) := by
  match i, h with
  | 0, _ => rfl
  | 1, _ => rfl
  | 2, _ => rfl
  | 3, _ => rfl
  | 4, _ => rfl
  | 5, _ => rfl
  | n + 6, h => exact absurd h (by omega)
theorem vi_lt {i : Int32} {n : Nat} (h : vp_in i n) : i.toNatClampNeg < n := Nat.not_le.mp fun q => h (Or.inr q)
theorem iw0 : ∀ w ∈ u_ws RX0 TX0 6, w ∈ T0 := by
  intro w hw
  have h1 : w ∈ lw_tbl ∧ goodWord w = true := by
    revert w
    decide +kernel
  exact List.mem_filter.mpr h1
theorem iw1 : ∀ w ∈ u_ws RX1 TX1 5, w ∈ T0 := by
  intro w hw
  have h1 : w ∈ lw_tbl ∧ goodWord w = true := by
    revert w
    decide +kernel
  exact List.mem_filter.mpr h1
theorem iw2 : ∀ w ∈ u_ws RX2 TX2 3, w ∈ T0 := by
  intro w hw
  have h1 : w ∈ lw_tbl ∧ goodWord w = true := by
    revert w
    decide +kernel
  exact List.mem_filter.mpr h1
theorem iw3 : ∀ w ∈ u_ws RX3 TX3 3, w ∈ T0 := by
  intro w hw
  have h1 : w ∈ lw_tbl ∧ goodWord w = true := by
    revert w
    decide +kernel
  exact List.mem_filter.mpr h1
theorem iw4 : ∀ w ∈ u_ws RX4 TX4 7, w ∈ T0 := by
  intro w hw
  have h1 : w ∈ lw_tbl ∧ goodWord w = true := by
    revert w
    decide +kernel
  exact List.mem_filter.mpr h1
theorem iw5 : ∀ w ∈ u_ws RX5 TX5 7, w ∈ T0 := by
  intro w hw
  have h1 : w ∈ lw_tbl ∧ goodWord w = true := by
    revert w
    decide +kernel
  exact List.mem_filter.mpr h1
theorem iw6 : ∀ w ∈ u_ws RX6 TX6 26, w ∈ T0 := by
  intro w hw
  have h1 : w ∈ lw_tbl ∧ goodWord w = true := by
    revert w
    decide +kernel
  exact List.mem_filter.mpr h1
section GN
variable {p : Program} {l : Launch} {e : Env} {R : Room} {s : State} {m : MethodId} {args : Array Value} {below : List Frame} {meth : Method} {c : Code} {D : va_G} {cA : Nat → ClassId} {ad : Nat → Nat} {L : List Lay} {nL cells slots pc : Nat} {Q : State → Prop} {S : St} {lv : List (Nat × Value)} {st : List Value}
theorem go_topi {x : Int32} (k : ∀ y : Int32, y = x → Go p l e R s m args below meth c D cA ad L nL cells slots Q S pc lv (.int y :: st)) : Go p l e R s m args below meth c D cA ad L nL cells slots Q S pc lv (.int x :: st) := k x rfl
theorem go_topl {x : Int64} (k : ∀ y : Int64, y = x → Go p l e R s m args below meth c D cA ad L nL cells slots Q S pc lv (.long y :: st)) : Go p l e R s m args below meth c D cA ad L nL cells slots Q S pc lv (.long x :: st) := k x rfl
theorem go_nm (k : ∀ S2 : St, S2 = S → Go p l e R s m args below meth c D cA ad L nL cells slots Q S2 pc lv st) : Go p l e R s m args below meth c D cA ad L nL cells slots Q S pc lv st := k S rfl
end GN
end
section
/-! ===== BEGIN new T[n][m]: the outer array a place, the inner ones among the pooled ===== -/
/-- f, but v at every address of l -/
def vr_up {α : Type} (f : Nat → α) (l : List Nat) (v : α) : Nat → α := fun a => if a ∈ l then v else f a
theorem vr_up_in {α : Type} {f : Nat → α} {l : List Nat} {v : α} {a : Nat} (h : a ∈ l) : vr_up f l v a = v := if_pos h
theorem vr_up_ne {α : Type} {f : Nat → α} {l : List Nat} {v : α} {a : Nat} (h : a ∉ l) : vr_up f l v a = f a := if_neg h
theorem vr_rows {L l : List Nat} {f : Nat → va_E} {e : va_E} (h : ∀ a, a ∈ l → a ∉ L) : va_pl L f ++ l.map (fun a => (a, e)) = va_pl (L ++ l) (vr_up f l e) := by
  unfold va_pl
  rw [List.map_append]
  congr 1
  · apply List.map_congr_left
    intro a ha
    rw [vr_up_ne (fun q => h a q ha)]
  · apply List.map_congr_left
    intro a ha
    rw [vr_up_in ha]
theorem vr_lay {X rows : va_W} {x : Nat × va_E} {pl : va_W} {D : va_G} {cl : List vw_C} {H : Heap} (hP : va_P D cl (((X ++ pl) ++ [x]) ++ rows) H) : va_P D cl ((X ++ [x]) ++ (pl ++ rows)) H := by
  rw [List.append_assoc (X ++ pl)] at hP
  have h := va_P.swap hP
  rw [← List.append_assoc X] at h
  have h2 := va_P.swap h
  rw [List.append_assoc (X ++ [x])] at h2
  exact h2
theorem vr_layD {X rows : va_W} {x : Nat × va_E} {pl : va_W} {A : Nat → Prop} (hD : va_D A (((X ++ pl) ++ [x]) ++ rows)) : va_D A ((X ++ [x]) ++ (pl ++ rows)) := by
  rw [List.append_assoc (X ++ pl)] at hD
  have h := va_D.swap hD
  rw [← List.append_assoc X] at h
  have h2 := va_D.swap h
  rw [List.append_assoc (X ++ [x])] at h2
  exact h2
theorem vr_outer (c : ClassId) (N h0 : Nat) : ∀ i : Nat, Jvm.Free.Multi.outerC c N h0 i = arrV c N (fun j => va_rf (if j < i then some (h0 + 1 + j) else none))
  | 0 => by
    show ({ cls := c, slots := Array.replicate N .null, vm := .none } : Cell) = _
    rw [arrV_new]
    refine congrArg (arrV c N) (funext fun j => ?_)
    simp [va_rf]
  | i + 1 => by
    show (Jvm.Free.Multi.outerC c N h0 i).setSlot i (.ref (h0 + 1 + i)) = _
    rw [vr_outer c N h0 i, arrV_store]
    refine congrArg (arrV c N) (funext fun j => ?_)
    by_cases e : j = i
    · subst e
      simp [updV, va_rf]
    · by_cases h : j < i
      · simp [updV, e, h, Nat.lt_succ_of_lt h]
      · simp [updV, e, h, show ¬ j < i + 1 by omega]
section VGM
variable {p : Program} {l : Launch} {e : Env} {R : Room} {s : State} {m : MethodId} {args : Array Value} {below : List Frame} {meth : Method} {c : Code} {H : Heap} {locs : List Loc} {cells slots : Nat} {Q : State → Prop}
variable {cc : ByteArray} {pc : Nat} {ls : Array Slot} {rest : List Value} {D : va_G} {cl : List vw_C} {A : Nat → Prop} {a : Nat} {tys : List (ClassId × FieldType)} {ws : va_W} {H0 : Heap}
theorem va_mna {X : va_W} {L : List Nat} {f : Nat → va_E} {cc : ByteArray} (hexec : p.tables.exec = Jvm.exec) (hb : c.code = cc) {own : String} {index : Nat} {ty : FieldType} {cy : ClassId} (hown : s.vm.findClass own = some m.cls) (hclink : (Cond.classLink own index ("[" ++ (FieldType.array ty).toString)).before args s = true) (hover : (Cond.arrayOver (.array ty)).before args s = true) (harr : (Cond.arrayClass ty).before args s = true) (hcy : s.vm.findClass (FieldType.array ty).toString = some cy)
    (hK : va_K D cl tys s) (hP : va_P D cl (X ++ va_pl L f) H) (hD : va_D A (X ++ va_pl L f)) (hS : va_S A H0 H locs) (hA : ∀ q, H0.size ≤ q → A q) {n k : Int32} {N' K' : Nat} {z : vp_A} (hn : ¬ n < 0) (hk : ¬ k < 0) (hN : n.toNatClampNeg = N') (hM : k.toNatClampNeg = K')
    (hb1 : N' * 4 ≤ 536870912) (hb2 : K' * componentBytes ty ≤ 536870912) (hb3 : K' ≤ 536870912) (hdf : fits ty (defaultValue ty) = true) (hdd : (defaultValue ty).isDefault = true) (hcells : cells + (1 + N') ≤ R.cells) (hslots : slots + (N' + N' * K') ≤ R.slots) (hz : ∀ c : ClassId, Jvm.Free.Multi.innerC c K' (defaultValue ty) = vp_cell c z) (hdg : decode cc pc = .ok (.multianewarray index 2, 4))
    (kk : ∀ (q : Nat) (r : Nat → Nat) (cA : ClassId) (H1 : Heap), (∀ i j : Nat, i < N' → j < N' → r i = r j → i = j) → (∀ i : Nat, i < N' → r i ∉ L) → va_K D cl (tys ++ [(cA, .array ty)]) s →
      va_P D cl ((X ++ [(q, .inl (cA, N', .inr (.inr (.inr (.inr (fun i => if i < N' then some (r i) else none))))))]) ++ va_pl (L ++ (List.range N').map r) (vr_up f ((List.range N').map r) (.inl (cy, z)))) H1 → va_D A ((X ++ [(q, .inl (cA, N', .inr (.inr (.inr (.inr (fun i => if i < N' then some (r i) else none))))))]) ++ va_pl (L ++ (List.range N').map r) (vr_up f ((List.range N').map r) (.inl (cy, z)))) → va_S A H0 H1 locs →
      W p l e R s m args below meth c H1 locs (cells + 1 + N') (slots + N' + N' * K') Q (F0 m (pc + 4) ls (.ref q :: rest))) : W p l e R s m args below meth c H locs cells slots Q (F0 m pc ls (.int k :: .int n :: rest)) := by
  subst hN
  subst hM
  intro T hT Xs
  obtain ⟨vm₁, cA, comp, -, fA, fC, hO, -, X', step⟩ := Xs.multianewarray2F hexec hown hclink hover harr (g := F0 m pc ls (.int k :: .int n :: rest)) rfl (by rw [hb]; exact hdg) rfl hn hk hb1 hb2 hb3 hdf hdd hcells hslots
  have ec : some cy = some comp := hcy.symm.trans fC
  cases ec
  generalize hF : Jvm.Free.Multi.fill (T.setVm vm₁) cA cy n.toNatClampNeg k.toNatClampNeg (defaultValue ty) n.toNatClampNeg = F at X' step
  have hTh : (T.setVm vm₁).heap = H := hT
  obtain ⟨f1, f2, -, -⟩ := Jvm.Free.Multi.fill_facts (T.setVm vm₁) cA cy n.toNatClampNeg k.toNatClampNeg (defaultValue ty) n.toNatClampNeg
  rw [hF, hTh] at f1 f2
  have hold : ∀ x : Nat, x < H.size → F.heap[x]? = H[x]? := fun x hx => by
    have := Jvm.Free.Multi.fill_old (T.setVm vm₁) cA cy n.toNatClampNeg k.toNatClampNeg (defaultValue ty) (a := x) (by rw [hTh]; exact hx) n.toNatClampNeg
    rw [hF, hTh] at this
    exact this
  have hrow : ∀ j : Nat, j < n.toNatClampNeg → F.heap[H.size + 1 + j]? = some (vp_cell cy z) := fun j hj => by
    have := Jvm.Free.Multi.fill_inner (T.setVm vm₁) cA cy n.toNatClampNeg k.toNatClampNeg (defaultValue ty) n.toNatClampNeg j hj
    rw [hF, hTh, hz] at this
    exact this
  have hout : Jvm.Free.Multi.outerC cA n.toNatClampNeg H.size n.toNatClampNeg = vp_cell cA (n.toNatClampNeg, .inr (.inr (.inr (.inr (fun i => if i < n.toNatClampNeg then some (H.size + 1 + i) else none))))) := by
    rw [vp_cell_q]
    exact vr_outer cA n.toNatClampNeg H.size n.toNatClampNeg
  rw [hout] at f2
  have hlt : ∀ a, a ∈ L → a < H.size := fun a ha => by
    obtain ⟨k9, hk9⟩ := va_pl_get (X := X) (f := f) ha
    exact (hP k9 _ hk9).lt
  have hnl : ∀ i : Nat, i < n.toNatClampNeg → H.size + 1 + i ∉ L := fun i _ h => by
    have := hlt _ h
    omega
  have hnm : ∀ a, a ∈ (List.range n.toNatClampNeg).map (fun i => H.size + 1 + i) → a ∉ L := fun a ha h => by
    obtain ⟨i, -, rfl⟩ := List.mem_map.mp ha
    have := hlt _ h
    omega
  have hP0 : va_P D cl (X ++ va_pl L f) F.heap := hP.kept (fun k9 x hx => hold x.1 ((hP k9 x hx).lt))
  have hP1 : va_P D cl ((X ++ va_pl L f) ++ [(H.size, .inl (cA, n.toNatClampNeg, .inr (.inr (.inr (.inr (fun i => if i < n.toNatClampNeg then some (H.size + 1 + i) else none))))))]) F.heap := hP0.app (fun k9 x hx => by
    have h0 : k9 < 1 := (List.getElem?_eq_some_iff.mp hx).1
    rw [show k9 = 0 by omega] at hx
    cases hx
    exact f2)
  have hP2 : va_P D cl (((X ++ va_pl L f) ++ [(H.size, .inl (cA, n.toNatClampNeg, .inr (.inr (.inr (.inr (fun i => if i < n.toNatClampNeg then some (H.size + 1 + i) else none))))))]) ++ ((List.range n.toNatClampNeg).map (fun i => H.size + 1 + i)).map (fun a => (a, .inl (cy, z)))) F.heap := hP1.app (fun k9 x hx => by
    obtain ⟨a, ha, rfl⟩ := List.mem_map.mp (List.mem_of_getElem? hx)
    obtain ⟨i, hi, rfl⟩ := List.mem_map.mp ha
    exact hrow i (List.mem_range.mp hi))
  have hD2 : va_D A (((X ++ va_pl L f) ++ [(H.size, .inl (cA, n.toNatClampNeg, .inr (.inr (.inr (.inr (fun i => if i < n.toNatClampNeg then some (H.size + 1 + i) else none))))))]) ++ ((List.range n.toNatClampNeg).map (fun i => H.size + 1 + i)).map (fun a => (a, .inl (cy, z)))) := by
    have hD1 := hD.push (e := .inl (cA, n.toNatClampNeg, .inr (.inr (.inr (.inr (fun i => if i < n.toNatClampNeg then some (H.size + 1 + i) else none)))))) hP rfl (hA _ hS.1)
    generalize hW1 : (X ++ va_pl L f) ++ [(H.size, .inl (cA, n.toNatClampNeg, .inr (.inr (.inr (.inr (fun i => if i < n.toNatClampNeg then some (H.size + 1 + i) else none))))))] = W1 at hD1 hP1 ⊢
    have hle : ∀ (k9 : Nat) (x : Nat × va_E), W1[k9]? = some x → x.1 ≤ H.size := fun k9 x hx => by
      rw [← hW1] at hx
      by_cases hl : k9 < (X ++ va_pl L f).length
      · rw [List.getElem?_append_left hl] at hx
        exact Nat.le_of_lt ((hP k9 x hx).lt)
      · rw [List.getElem?_append_right (by omega)] at hx
        have h0 : k9 - (X ++ va_pl L f).length < 1 := (List.getElem?_eq_some_iff.mp hx).1
        rw [show k9 - (X ++ va_pl L f).length = 0 by omega] at hx
        cases hx
        exact Nat.le_refl _
    have hr : ∀ (k9 : Nat) (x : Nat × va_E), (((List.range n.toNatClampNeg).map (fun i => H.size + 1 + i)).map (fun a => ((a, .inl (cy, z)) : Nat × va_E)))[k9]? = some x → x.1 = H.size + 1 + k9 := fun k9 x hx => by
      rw [List.getElem?_map, List.getElem?_map] at hx
      by_cases h9 : k9 < n.toNatClampNeg
      · rw [List.getElem?_range h9] at hx
        cases hx
        rfl
      · have hn0 : (List.range n.toNatClampNeg)[k9]? = none := List.getElem?_eq_none (by rw [List.length_range]; omega)
        rw [hn0] at hx
        cases hx
    refine ⟨fun i j x y hi hj hxy => ?_, fun k9 x hx => ?_⟩
    · by_cases h1 : i < W1.length <;> by_cases h2 : j < W1.length
      · rw [List.getElem?_append_left h1] at hi
        rw [List.getElem?_append_left h2] at hj
        exact hD1.1 i j x y hi hj hxy
      · rw [List.getElem?_append_left h1] at hi
        rw [List.getElem?_append_right (by omega)] at hj
        have := hle _ _ hi
        have := hr _ _ hj
        omega
      · rw [List.getElem?_append_right (by omega)] at hi
        rw [List.getElem?_append_left h2] at hj
        have := hle _ _ hj
        have := hr _ _ hi
        omega
      · rw [List.getElem?_append_right (by omega)] at hi hj
        have := hr _ _ hi
        have := hr _ _ hj
        omega
    · by_cases h1 : k9 < W1.length
      · rw [List.getElem?_append_left h1] at hx
        exact hD1.2 k9 x hx
      · rw [List.getElem?_append_right (by omega)] at hx
        have := hr _ _ hx
        exact hA _ (by have := hS.1; omega)
  have hAr : ArrOfT s cA (.array ty) := fun N9 z9 => by
    obtain ⟨-, k9, hk9, cm9, hkk9⟩ := (hO 0 0 0).1
    exact ⟨(fun q hq => by cases hq), k9, hk9, cm9, hkk9⟩
  have hK2 : va_K D cl (tys ++ [(cA, .array ty)]) s := ⟨hK.1, fun k9 x hx => by
    by_cases hl : k9 < tys.length
    · rw [List.getElem?_append_left hl] at hx
      exact hK.2 k9 x hx
    · rw [List.getElem?_append_right (by omega)] at hx
      have h0 : k9 - tys.length < 1 := (List.getElem?_eq_some_iff.mp hx).1
      rw [show k9 - tys.length = 0 by omega] at hx
      cases hx
      exact ⟨hAr, fA⟩⟩
  obtain ⟨t, a1, b1⟩ := kk H.size (fun i => H.size + 1 + i) cA F.heap (fun i j _ _ h => by have h9 : H.size + 1 + i = H.size + 1 + j := h; omega) hnl hK2 (by rw [← vr_rows hnm]; exact vr_lay hP2) (by rw [← vr_rows hnm]; exact vr_layD hD2) ⟨by rw [f1]; have := hS.1; omega, fun x h1 h2 => (hold x (Nat.lt_of_lt_of_le h1 hS.1)).trans (hS.2.1 x h1 h2), hS.2.2⟩ F rfl X'
  refine ⟨t, step t ?_, b1⟩
  have e : T.heap.size = H.size := by rw [hT]
  rw [e]
  exact a1
end VGM

def AOs (U : State) : Prop := (Cond.arrayOver (.array .int)).before #[] U = true ∧ (Cond.arrayOver (.array .long)).before #[] U = true
theorem AO_warm {ty : FieldType} {s U : State} (hvm : s.vm.Alike U.vm) (h : (Cond.arrayOver ty).before #[] s = true) : (Cond.arrayOver ty).before #[] U = true := by
  have e : (Cond.arrayOver ty).before #[] U = (Cond.arrayOver ty).before #[] (s.setVm U.vm) := rfl
  rw [e, Cond.arrayOver_setVmC hvm]
  exact h
theorem AOs.warm {s U : State} (hvm : s.vm.Alike U.vm) (h : AOs s) : AOs U := ⟨AO_warm hvm h.1, AO_warm hvm h.2⟩
def Ec (D : va_G) (cA : Nat → ClassId) (w0 : va_W) (U : State) : Prop := va_K D vwCl (tysA cA) U ∧ (∀ w ∈ N0, va_Nw w U) ∧ Tz (va_A w0 U.heap.size) U U.heap ∧ AOs U
theorem Ec.blind {D : va_G} {cA : Nat → ClassId} {w0 : va_W} {U V : State} (h : Ec D cA w0 U) (hv : U.vm = V.vm) (hh : V.heap = U.heap) : Ec D cA w0 V := by
  obtain ⟨h1, h2, h4, h5⟩ := h
  have ha : U.vm.Alike V.vm := by rw [hv]; exact Vm.Alike.refl _
  refine ⟨va_K.moved ha h1, fun w hw => va_Nw.same (N0_tab (List.mem_filter.mp hw).2) hv (h2 w hw), ?_, h5.warm ha⟩
  rw [hh]
  exact h4.moved ha
theorem Ec.warm {D : va_G} {cA : Nat → ClassId} {w0 wc : va_W} {s U : State} {H : Heap} {locs : List Loc} (h : Ec D cA w0 s) (hW : s.WarmedH U.vm) (hU : U.heap = H) (hS : va_S (va_A w0 s.heap.size) s.heap H locs) (hsub : ∀ q, va_A wc H.size q → va_A w0 s.heap.size q) : Ec D cA wc U := by
  obtain ⟨h1, h2, h4, h5⟩ := h
  refine ⟨va_K.moved hW.alike h1, fun w hw => N0_warm hW (List.mem_filter.mp hw).2 (h2 w hw), ?_, h5.warm hW.alike⟩
  rw [hU]
  exact ((h4.kept hS.2.1).moved hW.alike).narrow hsub
def PreC (D : va_G) (cA : Nat → ClassId) (h0 : Nat) (c0 : va_E) (sz : Nat) (U : State) : Prop := U.heap.size = sz ∧ va_P D vwCl [(h0, c0)] U.heap ∧ Ec D cA [(h0, c0)] U
theorem PreC.blind {D : va_G} {cA : Nat → ClassId} {h0 : Nat} {c0 : va_E} {sz : Nat} {av : List Value} : FrameBlind (va_Pc av (PreC D cA h0 c0 sz)) := by
  intro a U g mk q
  obtain ⟨q0, q1, q2, q3⟩ := q
  exact ⟨q0, q1, q2, q3.blind rfl rfl⟩
def MetC (l : Launch) (y : MethodName) (cc : ByteArray) (nL : Nat) (rm : Room) (D : va_G) (cA : Nat → ClassId) (h0 : Nat) (c0 : va_E) (mk : (Nat → Nat) → va_W) (mc ms : Nat) : Prop :=
  ∀ sz : Nat, Met l y (Cond.code y cc nL none :: T0) rm (va_Pc [.ref h0] (PreC D cA h0 c0 sz)) (va_Qv (fun _ : Nat → Nat => True) (fun a t => va_P D vwCl (mk a) t.heap ∧ va_D (va_A [(h0, c0)] sz) (mk a)) (va_A [(h0, c0)] sz)) mc ms (va_A [(h0, c0)] sz)
section NW
variable {p : Program} {l : Launch} {e : Env} {R : Room} {s : State} {m : MethodId} {args : Array Value} {below : List Frame} {meth : Method} {c : Code} {H : Heap} {locs : List Loc} {cells slots : Nat} {Q : State → Prop}
variable {cc : ByteArray} {pc : Nat} {ls : Array Slot} {rest : List Value} {D : va_G} {A : Nat → Prop} {ws : va_W} {H0 : Heap} {cA : Nat → ClassId}
theorem nw_arr (hx : p.tables.exec = Jvm.exec) (hb : c.code = cc) {atype : ArrayType} {ty : FieldType} (t : Nat) (hts : ∀ w ∈ T0, w.before args s = true) (hArr : Cond.arrayClass ty ∈ T0) (hty : newarray.typeOf atype = ty) (ht : (tysA cA)[t]? = some (cA t, ty)) (hra : ∀ (U : State) (x : ClassId), va_RA U x ty → U.vm.findClass ("[" ++ ty.toString) = some x) (hK : va_K D vwCl (tysA cA) s) (hP : va_P D vwCl ws H) (hD : va_D A ws) (hS : va_S A H0 H locs) (hA : ∀ q, H0.size ≤ q → A q)
    {n : Int32} {N' : Nat} {a0 : vp_A} (ha : ∀ cA : ClassId, vp_cell cA a0 = arrV cA N' (fun _ => defaultValue ty)) (hn : ¬ n < 0) (hN : n.toNatClampNeg = N') (hbytes : N' * componentBytes ty ≤ 536870912) (hcells : cells + 1 ≤ R.cells) (hslots : slots + N' ≤ R.slots) (hdg : decode cc pc = .ok (.newarray atype, 2))
    (kk : ∀ (q : Nat) (H1 : Heap), va_P D vwCl (ws ++ [(q, .inl (cA t, a0))]) H1 → va_D A (ws ++ [(q, .inl (cA t, a0))]) → va_S A H0 H1 locs → W p l e R s m args below meth c H1 locs (cells + 1) (slots + N') Q (F0 m (pc + 2) ls (.ref q :: rest))) : W p l e R s m args below meth c H locs cells slots Q (F0 m pc ls (.int n :: rest)) := by
  refine va_newa (ty := ty) hx hb (by rw [hty]; exact hts _ hArr) hty hK hP hD hS hA ha hn hN hbytes hcells hslots hdg (fun q cB H1 hK1 hP1 hD1 hS1 => ?_)
  have ecB : cB = cA t := by
    have h1 := hra _ _ (hK1.2 5 (cB, ty) rfl).2
    have h2 := hra _ _ (hK.2 t (cA t, ty) ht).2
    exact Option.some.inj (h1.symm.trans h2)
  subst ecB
  exact kk q H1 hP1 hD1 hS1
theorem nw_grid (hx : p.tables.exec = Jvm.exec) (hb : c.code = cc) {own : String} {ix : Nat} {ty : FieldType} (t0 t1 : Nat) (hts : ∀ w ∈ T0, w.before args s = true) (hown : s.vm.findClass own = some m.cls) (hcl : Cond.classLink own ix ("[" ++ (FieldType.array ty).toString) ∈ T0) (hover : (Cond.arrayOver (.array ty)).before #[] s = true) (hArr : Cond.arrayClass ty ∈ T0) (ht0 : (tysA cA)[t0]? = some (cA t0, ty)) (ht1 : (tysA cA)[t1]? = some (cA t1, .array ty)) (hra0 : ∀ (U : State) (x : ClassId), va_RA U x ty → U.vm.findClass (FieldType.array ty).toString = some x) (hra1 : ∀ (U : State) (x : ClassId), va_RA U x (.array ty) → U.vm.findClass ("[" ++ (FieldType.array ty).toString) = some x)
    (hK : va_K D vwCl (tysA cA) s) (hP : va_P D vwCl ws H) (hD : va_D A ws) (hS : va_S A H0 H locs) (hA : ∀ q, H0.size ≤ q → A q) {k : Int32} {K' : Nat} {z : vp_A} (hk : ¬ k < 0) (hM : k.toNatClampNeg = K') (hb2 : K' * componentBytes ty ≤ 536870912) (hb3 : K' ≤ 536870912) (hdf : fits ty (defaultValue ty) = true) (hdd : (defaultValue ty).isDefault = true) (hcells : cells + (1 + 6) ≤ R.cells) (hslots : slots + (6 + 6 * K') ≤ R.slots) (hz : ∀ c : ClassId, Jvm.Free.Multi.innerC c K' (defaultValue ty) = vp_cell c z) (hdg : decode cc pc = .ok (.multianewarray ix 2, 4))
    (kk : ∀ (q : Nat) (r : Nat → Nat) (H1 : Heap), va_P D vwCl (ws ++ ((q, .inl (cA t1, 6, .inr (.inr (.inr (.inr (fun i => if i < 6 then some (r i) else none)))))) :: [(r 0, .inl (cA t0, z)), (r 1, .inl (cA t0, z)), (r 2, .inl (cA t0, z)), (r 3, .inl (cA t0, z)), (r 4, .inl (cA t0, z)), (r 5, .inl (cA t0, z))])) H1 → va_D A (ws ++ ((q, .inl (cA t1, 6, .inr (.inr (.inr (.inr (fun i => if i < 6 then some (r i) else none)))))) :: [(r 0, .inl (cA t0, z)), (r 1, .inl (cA t0, z)), (r 2, .inl (cA t0, z)), (r 3, .inl (cA t0, z)), (r 4, .inl (cA t0, z)), (r 5, .inl (cA t0, z))])) → va_S A H0 H1 locs →
      W p l e R s m args below meth c H1 locs (cells + 7) (slots + (6 + 6 * K')) Q (F0 m (pc + 4) ls (.ref q :: rest))) : W p l e R s m args below meth c H locs cells slots Q (F0 m pc ls (.int k :: .int 6 :: rest)) := by
  refine va_mna (X := ws) (L := []) (f := fun _ => .inr (0, [])) (n := 6) (N' := 6) (z := z) (cy := cA t0) hx hb hown (hts _ hcl) hover (hts _ hArr) (hra0 _ _ (hK.2 t0 _ ht0).2) hK (by rw [show va_pl [] (fun _ => Sum.inr (0, [])) = [] from rfl, List.append_nil]; exact hP) (by rw [show va_pl [] (fun _ => Sum.inr (0, [])) = [] from rfl, List.append_nil]; exact hD) hS hA (by decide) hk (by decide) hM (by decide) hb2 hb3 hdf hdd hcells (by omega) hz hdg (fun q r cB H1 hinj hnl hK1 hP1 hD1 hS1 => ?_)
  have ecB : cB = cA t1 := by
    have h1 := hra1 _ _ (hK1.2 5 (cB, .array ty) rfl).2
    have h2 := hra1 _ _ (hK.2 t1 (cA t1, .array ty) ht1).2
    exact Option.some.inj (h1.symm.trans h2)
  subst ecB
  have hl : ([] : List Nat) ++ (List.range 6).map r = [r 0, r 1, r 2, r 3, r 4, r 5] := rfl
  have hm : ∀ a ∈ [r 0, r 1, r 2, r 3, r 4, r 5], vr_up (fun _ => (Sum.inr (0, []) : va_E)) ((List.range 6).map r) (.inl (cA t0, z)) a = .inl (cA t0, z) := fun a ha => vr_up_in ha
  have hp : va_pl [r 0, r 1, r 2, r 3, r 4, r 5] (vr_up (fun _ => (Sum.inr (0, []) : va_E)) ((List.range 6).map r) (.inl (cA t0, z))) = [(r 0, .inl (cA t0, z)), (r 1, .inl (cA t0, z)), (r 2, .inl (cA t0, z)), (r 3, .inl (cA t0, z)), (r 4, .inl (cA t0, z)), (r 5, .inl (cA t0, z))] := by
    unfold va_pl
    rw [List.map_congr_left (g := fun a => (a, (.inl (cA t0, z) : va_E))) (fun a ha => by rw [hm a ha])]
    rfl
  rw [hl, hp, List.append_assoc] at hP1 hD1
  refine W.widen (k := cells + 7) (n := slots + (6 + 6 * K')) (by omega) (by omega) ?_
  exact kk q r H1 hP1 hD1 hS1
end NW
end
