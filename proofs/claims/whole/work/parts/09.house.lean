theorem k202_ : Cond.fieldLink RX5 10 RX5 "works" "LBillHouse$Works;" ∈ T0 := in_T0 202 (by decide +kernel) (by decide +kernel)
theorem k203_ : Cond.fieldLink RX5 19 RX5 "users" "LBillHouse$Users;" ∈ T0 := in_T0 203 (by decide +kernel) (by decide +kernel)
theorem n114_ : Cond.fieldLinkNest RX5 99 RX3 "thereSet" "I" "BillHouse" ∈ N0 := in_N0 114 (by decide +kernel) (by decide +kernel)
theorem k339_ : Cond.methodLink RX5 202 yX5_isIn ∈ T0 := in_T0 339 (by decide +kernel) (by decide +kernel)
theorem n319_ : Cond.methodLinkNest RX5 102 yX4_neededBy "BillHouse" ∈ N0 := in_N0 319 (by decide +kernel) (by decide +kernel)
theorem n255_ : Cond.methodLinkNest RX5 67 yX4_has "BillHouse" ∈ N0 := in_N0 255 (by decide +kernel) (by decide +kernel)
theorem k258_ : Cond.code yX4_has cX4_has 2 (some .boolean) ∈ T0 := in_T0 258 (by decide +kernel) (by decide +kernel)
theorem k257_ : Cond.instanceMethod yX4_has ∈ T0 := in_T0 257 (by decide +kernel) (by decide +kernel)
theorem k4_ : Cond.selects RX4 yX4_has yX4_has ∈ T0 := in_T0 4 (by decide +kernel) (by decide +kernel)
theorem k406_ : Cond.methodLink RX5 219 Lib.MathLoose.abs_long.x ∈ T0 := in_T0 406 (by decide +kernel) (by decide +kernel)
theorem k407_ : Cond.static Lib.MathLoose.abs_long.x ∈ T0 := in_T0 407 (by decide +kernel) (by decide +kernel)
theorem k59_ : Cond.initialized "java/lang/Math" ∈ T0 := in_T0 59 (by decide +kernel) (by decide +kernel)
theorem k408_ : Cond.code Lib.MathLoose.abs_long.x Lib.MathLoose.abs_long.code 2 (some .long) ∈ T0 := in_T0 408 (by decide +kernel) (by decide +kernel)
theorem k369_ : Cond.constantLong RX5 125 (-1000000000000) ∈ T0 := in_T0 369 (by decide +kernel) (by decide +kernel)
theorem k409_ : Cond.methodLink RX5 222 yX5_commonDivisor ∈ T0 := in_T0 409 (by decide +kernel) (by decide +kernel)
theorem k411_ : Cond.code yX5_commonDivisor cX5_commonDivisor 7 (some .long) ∈ T0 := in_T0 411 (by decide +kernel) (by decide +kernel)
theorem k410_ : Cond.static yX5_commonDivisor ∈ T0 := in_T0 410 (by decide +kernel) (by decide +kernel)
theorem k205_ : Cond.fieldLink RX5 33 RX5 "shares" "LBillHouse$Shares;" ∈ T0 := in_T0 205 (by decide +kernel) (by decide +kernel)
theorem n433_ : Cond.methodLinkNest RX5 212 yX2_partByOrders "BillHouse" ∈ N0 := in_N0 433 (by decide +kernel) (by decide +kernel)
theorem k436_ : Cond.code yX2_partByOrders cX2_partByOrders 10 none ∈ T0 := in_T0 436 (by decide +kernel) (by decide +kernel)
theorem k435_ : Cond.instanceMethod yX2_partByOrders ∈ T0 := in_T0 435 (by decide +kernel) (by decide +kernel)
theorem k27_ : Cond.selects RX2 yX2_partByOrders yX2_partByOrders ∈ T0 := in_T0 27 (by decide +kernel) (by decide +kernel)
theorem n428_ : Cond.methodLinkNest RX5 209 yX2_partByAlone "BillHouse" ∈ N0 := in_N0 428 (by decide +kernel) (by decide +kernel)
theorem k431_ : Cond.code yX2_partByAlone cX2_partByAlone 10 none ∈ T0 := in_T0 431 (by decide +kernel) (by decide +kernel)
theorem k430_ : Cond.instanceMethod yX2_partByAlone ∈ T0 := in_T0 430 (by decide +kernel) (by decide +kernel)
theorem k26_ : Cond.selects RX2 yX2_partByAlone yX2_partByAlone ∈ T0 := in_T0 26 (by decide +kernel) (by decide +kernel)
theorem k204_ : Cond.fieldLink RX5 26 RX5 "prices" "LBillHouse$Prices;" ∈ T0 := in_T0 204 (by decide +kernel) (by decide +kernel)
theorem n423_ : Cond.methodLinkNest RX5 205 yX2_partByUse "BillHouse" ∈ N0 := in_N0 423 (by decide +kernel) (by decide +kernel)
theorem k426_ : Cond.code yX2_partByUse cX2_partByUse 8 none ∈ T0 := in_T0 426 (by decide +kernel) (by decide +kernel)
theorem k425_ : Cond.instanceMethod yX2_partByUse ∈ T0 := in_T0 425 (by decide +kernel) (by decide +kernel)
theorem k25_ : Cond.selects RX2 yX2_partByUse yX2_partByUse ∈ T0 := in_T0 25 (by decide +kernel) (by decide +kernel)
theorem n370_ : Cond.methodLinkNest RX5 127 yX1_solve "BillHouse" ∈ N0 := in_N0 370 (by decide +kernel) (by decide +kernel)
theorem k373_ : Cond.code yX1_solve cX1_solve 5 none ∈ T0 := in_T0 373 (by decide +kernel) (by decide +kernel)
theorem k372_ : Cond.instanceMethod yX1_solve ∈ T0 := in_T0 372 (by decide +kernel) (by decide +kernel)
theorem k19_ : Cond.selects RX1 yX1_solve yX1_solve ∈ T0 := in_T0 19 (by decide +kernel) (by decide +kernel)
theorem n116_ : Cond.fieldLinkNest RX5 92 RX3 "marked" "[I" "BillHouse" ∈ N0 := in_N0 116 (by decide +kernel) (by decide +kernel)
theorem n302_ : Cond.methodLinkNest RX5 85 yX3_isThere "BillHouse" ∈ N0 := in_N0 302 (by decide +kernel) (by decide +kernel)
theorem n453_ : Cond.methodLinkNest RX5 215 yX2_cutInto "BillHouse" ∈ N0 := in_N0 453 (by decide +kernel) (by decide +kernel)
theorem k456_ : Cond.code yX2_cutInto cX2_cutInto 7 none ∈ T0 := in_T0 456 (by decide +kernel) (by decide +kernel)
theorem k455_ : Cond.instanceMethod yX2_cutInto ∈ T0 := in_T0 455 (by decide +kernel) (by decide +kernel)
theorem k29_ : Cond.selects RX2 yX2_cutInto yX2_cutInto ∈ T0 := in_T0 29 (by decide +kernel) (by decide +kernel)
theorem n352_ : Cond.methodLinkNest RX5 119 yX4_costOf "BillHouse" ∈ N0 := in_N0 352 (by decide +kernel) (by decide +kernel)
theorem k419_ : Cond.methodLink RX5 146 yX5_shareOut ∈ T0 := in_T0 419 (by decide +kernel) (by decide +kernel)
theorem k422_ : Cond.code yX5_shareOut cX5_shareOut 2 none ∈ T0 := in_T0 422 (by decide +kernel) (by decide +kernel)
theorem k421_ : Cond.instanceMethod yX5_shareOut ∈ T0 := in_T0 421 (by decide +kernel) (by decide +kernel)
theorem k24_ : Cond.selects RX5 yX5_shareOut yX5_shareOut ∈ T0 := in_T0 24 (by decide +kernel) (by decide +kernel)
theorem n79_ : Cond.fieldLinkNest RX5 51 RX4 "made" "I" "BillHouse" ∈ N0 := in_N0 79 (by decide +kernel) (by decide +kernel)
theorem n231_ : Cond.methodLinkNest RX5 59 yX4_add "BillHouse" ∈ N0 := in_N0 231 (by decide +kernel) (by decide +kernel)
theorem k234_ : Cond.code yX4_add cX4_add 4 (some .int) ∈ T0 := in_T0 234 (by decide +kernel) (by decide +kernel)
theorem k233_ : Cond.instanceMethod yX4_add ∈ T0 := in_T0 233 (by decide +kernel) (by decide +kernel)
theorem k0_ : Cond.selects RX4 yX4_add yX4_add ∈ T0 := in_T0 0 (by decide +kernel) (by decide +kernel)
theorem k228_ : Cond.methodLink RX5 55 yX5_areCosts ∈ T0 := in_T0 228 (by decide +kernel) (by decide +kernel)
theorem k230_ : Cond.code yX5_areCosts cX5_areCosts 2 (some .boolean) ∈ T0 := in_T0 230 (by decide +kernel) (by decide +kernel)
theorem k229_ : Cond.static yX5_areCosts ∈ T0 := in_T0 229 (by decide +kernel) (by decide +kernel)
theorem n112_ : Cond.fieldLinkNest RX5 63 RX3 "made" "I" "BillHouse" ∈ N0 := in_N0 112 (by decide +kernel) (by decide +kernel)
theorem n243_ : Cond.methodLinkNest RX5 64 yX3_add "BillHouse" ∈ N0 := in_N0 243 (by decide +kernel) (by decide +kernel)
theorem k246_ : Cond.code yX3_add cX3_add 2 (some .int) ∈ T0 := in_T0 246 (by decide +kernel) (by decide +kernel)
theorem k245_ : Cond.instanceMethod yX3_add ∈ T0 := in_T0 245 (by decide +kernel) (by decide +kernel)
theorem k2_ : Cond.selects RX3 yX3_add yX3_add ∈ T0 := in_T0 2 (by decide +kernel) (by decide +kernel)
theorem n259_ : Cond.methodLinkNest RX5 71 yX4_putCosts "BillHouse" ∈ N0 := in_N0 259 (by decide +kernel) (by decide +kernel)
theorem n271_ : Cond.methodLinkNest RX5 79 yX4_putUnitsByUser "BillHouse" ∈ N0 := in_N0 271 (by decide +kernel) (by decide +kernel)
theorem k274_ : Cond.code yX4_putUnitsByUser cX4_putUnitsByUser 4 none ∈ T0 := in_T0 274 (by decide +kernel) (by decide +kernel)
theorem k273_ : Cond.instanceMethod yX4_putUnitsByUser ∈ T0 := in_T0 273 (by decide +kernel) (by decide +kernel)
theorem k6_ : Cond.selects RX4 yX4_putUnitsByUser yX4_putUnitsByUser ∈ T0 := in_T0 6 (by decide +kernel) (by decide +kernel)
theorem k268_ : Cond.methodLink RX5 76 yX5_areUnits ∈ T0 := in_T0 268 (by decide +kernel) (by decide +kernel)
theorem k270_ : Cond.code yX5_areUnits cX5_areUnits 1 (some .boolean) ∈ T0 := in_T0 270 (by decide +kernel) (by decide +kernel)
theorem k269_ : Cond.static yX5_areUnits ∈ T0 := in_T0 269 (by decide +kernel) (by decide +kernel)
theorem n264_ : Cond.methodLinkNest RX5 75 yX3_has "BillHouse" ∈ N0 := in_N0 264 (by decide +kernel) (by decide +kernel)
theorem n294_ : Cond.methodLinkNest RX5 82 yX4_putUnitsByWork "BillHouse" ∈ N0 := in_N0 294 (by decide +kernel) (by decide +kernel)
theorem k297_ : Cond.code yX4_putUnitsByWork cX4_putUnitsByWork 4 none ∈ T0 := in_T0 297 (by decide +kernel) (by decide +kernel)
theorem k296_ : Cond.instanceMethod yX4_putUnitsByWork ∈ T0 := in_T0 296 (by decide +kernel) (by decide +kernel)
theorem k10_ : Cond.selects RX4 yX4_putUnitsByWork yX4_putUnitsByWork ∈ T0 := in_T0 10 (by decide +kernel) (by decide +kernel)
theorem n308_ : Cond.methodLinkNest RX5 88 yX3_turn "BillHouse" ∈ N0 := in_N0 308 (by decide +kernel) (by decide +kernel)
theorem k313_ : Cond.constantLong RX5 95 (-10000) ∈ T0 := in_T0 313 (by decide +kernel) (by decide +kernel)
theorem k314_ : Cond.constantLong RX5 97 (10000) ∈ T0 := in_T0 314 (by decide +kernel) (by decide +kernel)
theorem n327_ : Cond.methodLinkNest RX5 106 yX4_onRings "BillHouse" ∈ N0 := in_N0 327 (by decide +kernel) (by decide +kernel)
theorem k330_ : Cond.code yX4_onRings cX4_onRings 3 (some .int) ∈ T0 := in_T0 330 (by decide +kernel) (by decide +kernel)
theorem k329_ : Cond.instanceMethod yX4_onRings ∈ T0 := in_T0 329 (by decide +kernel) (by decide +kernel)
theorem k13_ : Cond.selects RX4 yX4_onRings yX4_onRings ∈ T0 := in_T0 13 (by decide +kernel) (by decide +kernel)
theorem n340_ : Cond.methodLinkNest RX5 112 yX4_unitsOf "BillHouse" ∈ N0 := in_N0 340 (by decide +kernel) (by decide +kernel)
theorem k335_ : Cond.methodLink RX5 109 yX5_isNeededNow ∈ T0 := in_T0 335 (by decide +kernel) (by decide +kernel)
theorem k338_ : Cond.code yX5_isNeededNow cX5_isNeededNow 2 (some .boolean) ∈ T0 := in_T0 338 (by decide +kernel) (by decide +kernel)
theorem k337_ : Cond.instanceMethod yX5_isNeededNow ∈ T0 := in_T0 337 (by decide +kernel) (by decide +kernel)
theorem k14_ : Cond.selects RX5 yX5_isNeededNow yX5_isNeededNow ∈ T0 := in_T0 14 (by decide +kernel) (by decide +kernel)
theorem n348_ : Cond.methodLinkNest RX5 116 yX3_all "BillHouse" ∈ N0 := in_N0 348 (by decide +kernel) (by decide +kernel)
theorem k351_ : Cond.code yX3_all cX3_all 1 (some .int) ∈ T0 := in_T0 351 (by decide +kernel) (by decide +kernel)
theorem k350_ : Cond.instanceMethod yX3_all ∈ T0 := in_T0 350 (by decide +kernel) (by decide +kernel)
theorem k16_ : Cond.selects RX3 yX3_all yX3_all ∈ T0 := in_T0 16 (by decide +kernel) (by decide +kernel)
theorem n134_ : Cond.fieldLinkNest RX5 131 RX1 "numerators" "[J" "BillHouse" ∈ N0 := in_N0 134 (by decide +kernel) (by decide +kernel)
theorem n137_ : Cond.fieldLinkNest RX5 135 RX1 "denominator" "J" "BillHouse" ∈ N0 := in_N0 137 (by decide +kernel) (by decide +kernel)
theorem k403_ : Cond.methodLink RX5 139 yX5_partOfFraction ∈ T0 := in_T0 403 (by decide +kernel) (by decide +kernel)
theorem k405_ : Cond.code yX5_partOfFraction cX5_partOfFraction 7 (some .long) ∈ T0 := in_T0 405 (by decide +kernel) (by decide +kernel)
theorem k404_ : Cond.static yX5_partOfFraction ∈ T0 := in_T0 404 (by decide +kernel) (by decide +kernel)
theorem k366_ : Cond.methodLink RX5 122 yX5_isPart ∈ T0 := in_T0 366 (by decide +kernel) (by decide +kernel)
theorem k368_ : Cond.code yX5_isPart cX5_isPart 1 (some .boolean) ∈ T0 := in_T0 368 (by decide +kernel) (by decide +kernel)
theorem k367_ : Cond.static yX5_isPart ∈ T0 := in_T0 367 (by decide +kernel) (by decide +kernel)
theorem n162_ : Cond.fieldLinkNest RX5 149 RX2 "denominator" "J" "BillHouse" ∈ N0 := in_N0 162 (by decide +kernel) (by decide +kernel)
theorem n160_ : Cond.fieldLinkNest RX5 150 RX2 "numerators" "[J" "BillHouse" ∈ N0 := in_N0 160 (by decide +kernel) (by decide +kernel)
theorem k416_ : Cond.methodLink RX5 143 yX5_isRule ∈ T0 := in_T0 416 (by decide +kernel) (by decide +kernel)
theorem k418_ : Cond.code yX5_isRule cX5_isRule 1 (some .boolean) ∈ T0 := in_T0 418 (by decide +kernel) (by decide +kernel)
theorem k417_ : Cond.static yX5_isRule ∈ T0 := in_T0 417 (by decide +kernel) (by decide +kernel)
theorem k448_ : Cond.constant RX5 151 (-1000000) ∈ T0 := in_T0 448 (by decide +kernel) (by decide +kernel)
theorem k207_ : Cond.fieldLink RX5 44 RX5 "coinRow" "[I" ∈ T0 := in_T0 207 (by decide +kernel) (by decide +kernel)
theorem k449_ : Cond.methodLink RX5 152 yX5_fillCoins ∈ T0 := in_T0 449 (by decide +kernel) (by decide +kernel)
theorem k452_ : Cond.code yX5_fillCoins cX5_fillCoins 4 none ∈ T0 := in_T0 452 (by decide +kernel) (by decide +kernel)
theorem k451_ : Cond.instanceMethod yX5_fillCoins ∈ T0 := in_T0 451 (by decide +kernel) (by decide +kernel)
theorem k28_ : Cond.selects RX5 yX5_fillCoins yX5_fillCoins ∈ T0 := in_T0 28 (by decide +kernel) (by decide +kernel)
theorem n466_ : Cond.methodLinkNest RX5 156 yX2_numeratorOf "BillHouse" ∈ N0 := in_N0 466 (by decide +kernel) (by decide +kernel)
theorem k469_ : Cond.code yX2_numeratorOf cX2_numeratorOf 5 (some .long) ∈ T0 := in_T0 469 (by decide +kernel) (by decide +kernel)
theorem k468_ : Cond.instanceMethod yX2_numeratorOf ∈ T0 := in_T0 468 (by decide +kernel) (by decide +kernel)
theorem k31_ : Cond.selects RX2 yX2_numeratorOf yX2_numeratorOf ∈ T0 := in_T0 31 (by decide +kernel) (by decide +kernel)
theorem k208_ : Cond.fieldLink RX5 48 RX5 "otherCoinRow" "[I" ∈ T0 := in_T0 208 (by decide +kernel) (by decide +kernel)
theorem k478_ : Cond.methodLink RX5 160 Lib.Math.abs.name ∈ T0 := in_T0 478 (by decide +kernel) (by decide +kernel)
theorem k479_ : Cond.static Lib.Math.abs.name ∈ T0 := in_T0 479 (by decide +kernel) (by decide +kernel)
theorem k480_ : Cond.code Lib.Math.abs.name Lib.Math.abs.code 1 (some .int) ∈ T0 := in_T0 480 (by decide +kernel) (by decide +kernel)
theorem k206_ : Cond.fieldLink RX5 40 RX5 "ledger" "LBillHouse$Ledger;" ∈ T0 := in_T0 206 (by decide +kernel) (by decide +kernel)
theorem n180_ : Cond.fieldLinkNest RX5 169 RX0 "lines" "I" "BillHouse" ∈ N0 := in_N0 180 (by decide +kernel) (by decide +kernel)
theorem n489_ : Cond.methodLinkNest RX5 172 yX0_enter "BillHouse" ∈ N0 := in_N0 489 (by decide +kernel) (by decide +kernel)
theorem k492_ : Cond.code yX0_enter cX0_enter 3 none ∈ T0 := in_T0 492 (by decide +kernel) (by decide +kernel)
theorem k56_ : Cond.initialized RX0 ∈ T0 := in_T0 56 (by decide +kernel) (by decide +kernel)
theorem k491_ : Cond.instanceMethod yX0_enter ∈ T0 := in_T0 491 (by decide +kernel) (by decide +kernel)
theorem k33_ : Cond.selects RX0 yX0_enter yX0_enter ∈ T0 := in_T0 33 (by decide +kernel) (by decide +kernel)
theorem n485_ : Cond.methodLinkNest RX5 165 yX0_differencesTo "BillHouse" ∈ N0 := in_N0 485 (by decide +kernel) (by decide +kernel)
theorem k488_ : Cond.code yX0_differencesTo cX0_differencesTo 4 (some .int) ∈ T0 := in_T0 488 (by decide +kernel) (by decide +kernel)
theorem k487_ : Cond.instanceMethod yX0_differencesTo ∈ T0 := in_T0 487 (by decide +kernel) (by decide +kernel)
theorem k32_ : Cond.selects RX0 yX0_differencesTo yX0_differencesTo ∈ T0 := in_T0 32 (by decide +kernel) (by decide +kernel)
theorem n182_ : Cond.fieldLinkNest RX5 176 RX0 "coinsSoFar" "[I" "BillHouse" ∈ N0 := in_N0 182 (by decide +kernel) (by decide +kernel)
theorem n184_ : Cond.fieldLinkNest RX5 179 RX0 "lineBookings" "[I" "BillHouse" ∈ N0 := in_N0 184 (by decide +kernel) (by decide +kernel)
theorem n186_ : Cond.fieldLinkNest RX5 182 RX0 "lineUsers" "[I" "BillHouse" ∈ N0 := in_N0 186 (by decide +kernel) (by decide +kernel)
theorem n188_ : Cond.fieldLinkNest RX5 185 RX0 "lineCoins" "[I" "BillHouse" ∈ N0 := in_N0 188 (by decide +kernel) (by decide +kernel)
theorem k505_ : Cond.methodLink RX5 188 yJ6_bitCount_0f7a4 ∈ T0 := in_T0 505 (by decide +kernel) (by decide +kernel)
theorem n178_ : Cond.fieldLinkNest RX5 193 RX0 "bookings" "I" "BillHouse" ∈ N0 := in_N0 178 (by decide +kernel) (by decide +kernel)
theorem n506_ : Cond.methodLinkNest RX5 196 yX3_markedOfThoseThere "BillHouse" ∈ N0 := in_N0 506 (by decide +kernel) (by decide +kernel)
theorem k509_ : Cond.code yX3_markedOfThoseThere cX3_markedOfThoseThere 3 (some .int) ∈ T0 := in_T0 509 (by decide +kernel) (by decide +kernel)
theorem k508_ : Cond.instanceMethod yX3_markedOfThoseThere ∈ T0 := in_T0 508 (by decide +kernel) (by decide +kernel)
theorem k34_ : Cond.selects RX3 yX3_markedOfThoseThere yX3_markedOfThoseThere ∈ T0 := in_T0 34 (by decide +kernel) (by decide +kernel)
theorem n511_ : Cond.methodLinkNest RX5 199 yX0_coinsInAll "BillHouse" ∈ N0 := in_N0 511 (by decide +kernel) (by decide +kernel)
theorem k514_ : Cond.code yX0_coinsInAll cX0_coinsInAll 3 (some .int) ∈ T0 := in_T0 514 (by decide +kernel) (by decide +kernel)
theorem k513_ : Cond.instanceMethod yX0_coinsInAll ∈ T0 := in_T0 513 (by decide +kernel) (by decide +kernel)
theorem k35_ : Cond.selects RX0 yX0_coinsInAll yX0_coinsInAll ∈ T0 := in_T0 35 (by decide +kernel) (by decide +kernel)
-- BillHouse.areCosts(II)Z
theorem qX5_areCosts : (parseMethodDescriptor yX5_areCosts.desc).map (fun d => d.parameters.length) = some 2 := by decide +kernel
theorem mhX5_areCosts : yX5_areCosts.cls ≠ "java/lang/invoke/MethodHandle" ∧ yX5_areCosts.cls ≠ "java/lang/invoke/VarHandle" := by decide +kernel
def rX5_areCosts : Room := { frames := 0, cells := 0, slots := 0, locals := 0 }
def wp_X5_areCosts (S : St) (a1 : Int32) (a2 : Int32) (post : Int32 → St → Prop) : Prop :=
  (a1 < 0 → post (0 : Int32) S) ∧ (¬ (a1 < 0) → ((10000 : Int32) < a1 → post (0 : Int32) S) ∧ (¬ ((10000 : Int32) < a1) → (a2 < 0 → post (0 : Int32) S) ∧ (¬ (a2 < 0) → ((100 : Int32) < a2 → post (0 : Int32) S) ∧ (¬ ((100 : Int32) < a2) → post (1 : Int32) S))))
set_option maxHeartbeats 4000000 in
set_option maxRecDepth 100000 in
theorem c_X5_areCosts {l : Launch} {D : va_G} {cA : Nat → ClassId} {ad : Nat → Nat} {ex : List Lay} (S : St) (a1 : Int32) (a2 : Int32)  {post : Int32 → St → Prop} (h : wp_X5_areCosts S a1 a2 post) : MetI l yX5_areCosts cX5_areCosts 2 (some .boolean) rX5_areCosts D cA ad (LU ++ ex) [.int a1, .int a2] S post 0 0 := by
  refine MetI.of (by decide) (Nat.le_of_ble_eq_true rfl) ?_
  intro p e s m args below meth c C
  unfold wp_X5_areCosts at h
  show Go p l e rX5_areCosts s m args below meth c D cA ad (LU ++ ex) 2 0 0 _ S 0 [(0, .int a1), (1, .int a2)] []
  replace C : Cx p s m args meth c cX5_areCosts 2 (some .boolean) RX5 D cA ad (LU ++ ex) := C
  refine go_iload_n C 0 1 0 0 dX5_areCosts_0 rfl rfl rfl ?_
  refine go_if_lt C 1 4 25 dX5_areCosts_1 (by decide) rfl (fun hc => ?_) (fun hc => ?_)
  · have h := h.1 hc
    refine go_iconst C 25 26 (0) dX5_areCosts_25 (by decide) rfl ?_
    exact go_zret C 26 (by decide) rfl dX5_areCosts_26 h
  · have h := h.2 hc
    refine go_iload_n C 4 5 0 0 dX5_areCosts_4 rfl rfl rfl ?_
    refine go_sipush C 5 8 (10000) dX5_areCosts_5 (by decide) rfl ?_
    refine go_icmp_gt C 8 11 25 dX5_areCosts_8 (by decide) rfl (fun hc => ?_) (fun hc => ?_)
    · have h := h.1 hc
      refine go_iconst C 25 26 (0) dX5_areCosts_25 (by decide) rfl ?_
      exact go_zret C 26 (by decide) rfl dX5_areCosts_26 h
    · have h := h.2 hc
      refine go_iload_n C 11 12 1 1 dX5_areCosts_11 rfl rfl rfl ?_
      refine go_if_lt C 12 15 25 dX5_areCosts_12 (by decide) rfl (fun hc => ?_) (fun hc => ?_)
      · have h := h.1 hc
        refine go_iconst C 25 26 (0) dX5_areCosts_25 (by decide) rfl ?_
        exact go_zret C 26 (by decide) rfl dX5_areCosts_26 h
      · have h := h.2 hc
        refine go_iload_n C 15 16 1 1 dX5_areCosts_15 rfl rfl rfl ?_
        refine go_bipush C 16 18 (100) dX5_areCosts_16 (by decide) rfl ?_
        refine go_icmp_gt C 18 21 25 dX5_areCosts_18 (by decide) rfl (fun hc => ?_) (fun hc => ?_)
        · have h := h.1 hc
          refine go_iconst C 25 26 (0) dX5_areCosts_25 (by decide) rfl ?_
          exact go_zret C 26 (by decide) rfl dX5_areCosts_26 h
        · have h := h.2 hc
          refine go_iconst C 21 22 (1) dX5_areCosts_21 (by decide) rfl ?_
          refine go_goto C 22 26 dX5_areCosts_22 (by decide) ?_
          exact go_zret C 26 (by decide) rfl dX5_areCosts_26 h
-- BillHouse.areUnits(I)Z
theorem qX5_areUnits : (parseMethodDescriptor yX5_areUnits.desc).map (fun d => d.parameters.length) = some 1 := by decide +kernel
theorem mhX5_areUnits : yX5_areUnits.cls ≠ "java/lang/invoke/MethodHandle" ∧ yX5_areUnits.cls ≠ "java/lang/invoke/VarHandle" := by decide +kernel
def rX5_areUnits : Room := { frames := 0, cells := 0, slots := 0, locals := 0 }
def wp_X5_areUnits (S : St) (a1 : Int32) (post : Int32 → St → Prop) : Prop :=
  (a1 < 0 → post (0 : Int32) S) ∧ (¬ (a1 < 0) → ((9 : Int32) < a1 → post (0 : Int32) S) ∧ (¬ ((9 : Int32) < a1) → post (1 : Int32) S))
set_option maxHeartbeats 4000000 in
set_option maxRecDepth 100000 in
theorem c_X5_areUnits {l : Launch} {D : va_G} {cA : Nat → ClassId} {ad : Nat → Nat} {ex : List Lay} (S : St) (a1 : Int32)  {post : Int32 → St → Prop} (h : wp_X5_areUnits S a1 post) : MetI l yX5_areUnits cX5_areUnits 1 (some .boolean) rX5_areUnits D cA ad (LU ++ ex) [.int a1] S post 0 0 := by
  refine MetI.of (by decide) (Nat.le_of_ble_eq_true rfl) ?_
  intro p e s m args below meth c C
  unfold wp_X5_areUnits at h
  show Go p l e rX5_areUnits s m args below meth c D cA ad (LU ++ ex) 1 0 0 _ S 0 [(0, .int a1)] []
  replace C : Cx p s m args meth c cX5_areUnits 1 (some .boolean) RX5 D cA ad (LU ++ ex) := C
  refine go_iload_n C 0 1 0 0 dX5_areUnits_0 rfl rfl rfl ?_
  refine go_if_lt C 1 4 14 dX5_areUnits_1 (by decide) rfl (fun hc => ?_) (fun hc => ?_)
  · have h := h.1 hc
    refine go_iconst C 14 15 (0) dX5_areUnits_14 (by decide) rfl ?_
    exact go_zret C 15 (by decide) rfl dX5_areUnits_15 h
  · have h := h.2 hc
    refine go_iload_n C 4 5 0 0 dX5_areUnits_4 rfl rfl rfl ?_
    refine go_bipush C 5 7 (9) dX5_areUnits_5 (by decide) rfl ?_
    refine go_icmp_gt C 7 10 14 dX5_areUnits_7 (by decide) rfl (fun hc => ?_) (fun hc => ?_)
    · have h := h.1 hc
      refine go_iconst C 14 15 (0) dX5_areUnits_14 (by decide) rfl ?_
      exact go_zret C 15 (by decide) rfl dX5_areUnits_15 h
    · have h := h.2 hc
      refine go_iconst C 10 11 (1) dX5_areUnits_10 (by decide) rfl ?_
      refine go_goto C 11 15 dX5_areUnits_11 (by decide) ?_
      exact go_zret C 15 (by decide) rfl dX5_areUnits_15 h
-- BillHouse.isRule(I)Z
theorem qX5_isRule : (parseMethodDescriptor yX5_isRule.desc).map (fun d => d.parameters.length) = some 1 := by decide +kernel
theorem mhX5_isRule : yX5_isRule.cls ≠ "java/lang/invoke/MethodHandle" ∧ yX5_isRule.cls ≠ "java/lang/invoke/VarHandle" := by decide +kernel
def rX5_isRule : Room := { frames := 0, cells := 0, slots := 0, locals := 0 }
def wp_X5_isRule (S : St) (a1 : Int32) (post : Int32 → St → Prop) : Prop :=
  (a1 < 0 → post (0 : Int32) S) ∧ (¬ (a1 < 0) → ((2 : Int32) < a1 → post (0 : Int32) S) ∧ (¬ ((2 : Int32) < a1) → post (1 : Int32) S))
set_option maxHeartbeats 4000000 in
set_option maxRecDepth 100000 in
theorem c_X5_isRule {l : Launch} {D : va_G} {cA : Nat → ClassId} {ad : Nat → Nat} {ex : List Lay} (S : St) (a1 : Int32)  {post : Int32 → St → Prop} (h : wp_X5_isRule S a1 post) : MetI l yX5_isRule cX5_isRule 1 (some .boolean) rX5_isRule D cA ad (LU ++ ex) [.int a1] S post 0 0 := by
  refine MetI.of (by decide) (Nat.le_of_ble_eq_true rfl) ?_
  intro p e s m args below meth c C
  unfold wp_X5_isRule at h
  show Go p l e rX5_isRule s m args below meth c D cA ad (LU ++ ex) 1 0 0 _ S 0 [(0, .int a1)] []
  replace C : Cx p s m args meth c cX5_isRule 1 (some .boolean) RX5 D cA ad (LU ++ ex) := C
  refine go_iload_n C 0 1 0 0 dX5_isRule_0 rfl rfl rfl ?_
  refine go_if_lt C 1 4 13 dX5_isRule_1 (by decide) rfl (fun hc => ?_) (fun hc => ?_)
  · have h := h.1 hc
    refine go_iconst C 13 14 (0) dX5_isRule_13 (by decide) rfl ?_
    exact go_zret C 14 (by decide) rfl dX5_isRule_14 h
  · have h := h.2 hc
    refine go_iload_n C 4 5 0 0 dX5_isRule_4 rfl rfl rfl ?_
    refine go_iconst C 5 6 (2) dX5_isRule_5 (by decide) rfl ?_
    refine go_icmp_gt C 6 9 13 dX5_isRule_6 (by decide) rfl (fun hc => ?_) (fun hc => ?_)
    · have h := h.1 hc
      refine go_iconst C 13 14 (0) dX5_isRule_13 (by decide) rfl ?_
      exact go_zret C 14 (by decide) rfl dX5_isRule_14 h
    · have h := h.2 hc
      refine go_iconst C 9 10 (1) dX5_isRule_9 (by decide) rfl ?_
      refine go_goto C 10 14 dX5_isRule_10 (by decide) ?_
      exact go_zret C 14 (by decide) rfl dX5_isRule_14 h
-- BillHouse.isPart(I)Z
theorem qX5_isPart : (parseMethodDescriptor yX5_isPart.desc).map (fun d => d.parameters.length) = some 1 := by decide +kernel
theorem mhX5_isPart : yX5_isPart.cls ≠ "java/lang/invoke/MethodHandle" ∧ yX5_isPart.cls ≠ "java/lang/invoke/VarHandle" := by decide +kernel
def rX5_isPart : Room := { frames := 0, cells := 0, slots := 0, locals := 0 }
def wp_X5_isPart (S : St) (a1 : Int32) (post : Int32 → St → Prop) : Prop :=
  (a1 = 0 → post (1 : Int32) S) ∧ (¬ (a1 = 0) → (¬ a1 = (1 : Int32) → post (0 : Int32) S) ∧ (a1 = (1 : Int32) → post (1 : Int32) S))
set_option maxHeartbeats 4000000 in
set_option maxRecDepth 100000 in
theorem c_X5_isPart {l : Launch} {D : va_G} {cA : Nat → ClassId} {ad : Nat → Nat} {ex : List Lay} (S : St) (a1 : Int32)  {post : Int32 → St → Prop} (h : wp_X5_isPart S a1 post) : MetI l yX5_isPart cX5_isPart 1 (some .boolean) rX5_isPart D cA ad (LU ++ ex) [.int a1] S post 0 0 := by
  refine MetI.of (by decide) (Nat.le_of_ble_eq_true rfl) ?_
  intro p e s m args below meth c C
  unfold wp_X5_isPart at h
  show Go p l e rX5_isPart s m args below meth c D cA ad (LU ++ ex) 1 0 0 _ S 0 [(0, .int a1)] []
  replace C : Cx p s m args meth c cX5_isPart 1 (some .boolean) RX5 D cA ad (LU ++ ex) := C
  refine go_iload_n C 0 1 0 0 dX5_isPart_0 rfl rfl rfl ?_
  refine go_if_eq C 1 4 9 dX5_isPart_1 (by decide) rfl (fun hc => ?_) (fun hc => ?_)
  · have h := h.1 hc
    refine go_iconst C 9 10 (1) dX5_isPart_9 (by decide) rfl ?_
    refine go_goto C 10 14 dX5_isPart_10 (by decide) ?_
    exact go_zret C 14 (by decide) rfl dX5_isPart_14 h
  · have h := h.2 hc
    refine go_iload_n C 4 5 0 0 dX5_isPart_4 rfl rfl rfl ?_
    refine go_iconst C 5 6 (1) dX5_isPart_5 (by decide) rfl ?_
    refine go_icmp_ne C 6 9 13 dX5_isPart_6 (by decide) rfl (fun hc => ?_) (fun hc => ?_)
    · have h := h.1 hc
      refine go_iconst C 13 14 (0) dX5_isPart_13 (by decide) rfl ?_
      exact go_zret C 14 (by decide) rfl dX5_isPart_14 h
    · have h := h.2 hc
      refine go_iconst C 9 10 (1) dX5_isPart_9 (by decide) rfl ?_
      refine go_goto C 10 14 dX5_isPart_10 (by decide) ?_
      exact go_zret C 14 (by decide) rfl dX5_isPart_14 h
-- BillHouse.isNeededNow(I)Z
theorem qX5_isNeededNow : (parseMethodDescriptor yX5_isNeededNow.desc).map (fun d => d.parameters.length) = some 1 := by decide +kernel
theorem mhX5_isNeededNow : yX5_isNeededNow.cls ≠ "java/lang/invoke/MethodHandle" ∧ yX5_isNeededNow.cls ≠ "java/lang/invoke/VarHandle" := by decide +kernel
def rX5_isNeededNow : Room := { frames := 2, cells := 0, slots := 0, locals := 44 }
def wp_X5_isNeededNow (S : St) (a1 : Int32) (post : Int32 → St → Prop) : Prop :=
  wp_X4_has S a1 (fun (r2 : Int32) (S1 : St) => (r2 = 0 → post (0 : Int32) S1) ∧ (¬ (r2 = 0) → wp_X4_neededBy S1 (S1.1 2 1) (fun (r4 : Int32) (S3 : St) => wp_X5_isIn S3 r4 a1 (fun (r6 : Int32) (S5 : St) => (r6 = 0 → post (0 : Int32) S5) ∧ (¬ (r6 = 0) → post (1 : Int32) S5)))))
set_option maxHeartbeats 4000000 in
set_option maxRecDepth 100000 in
theorem c_X5_isNeededNow {l : Launch} {D : va_G} {cA : Nat → ClassId} {ad : Nat → Nat} {ex : List Lay} (S : St) (a1 : Int32)  {post : Int32 → St → Prop} (h : wp_X5_isNeededNow S a1 post) : MetI l yX5_isNeededNow cX5_isNeededNow 2 (some .boolean) rX5_isNeededNow D cA ad (LU ++ ex) [.ref (ad 0), .int a1] S post 0 0 := by
  refine MetI.of (by decide) (Nat.le_of_ble_eq_true rfl) ?_
  intro p e s m args below meth c C
  unfold wp_X5_isNeededNow at h
  show Go p l e rX5_isNeededNow s m args below meth c D cA ad (LU ++ ex) 2 0 0 _ S 0 [(0, .ref (ad 0)), (1, .int a1)] []
  replace C : Cx p s m args meth c cX5_isNeededNow 2 (some .boolean) RX5 D cA ad (LU ++ ex) := C
  refine go_aload_n C 0 1 0 0 dX5_isNeededNow_0 rfl rfl rfl ?_
  refine go_getR C 1 4 iw5 0 (lu0 ex) rfl 0 (by decide) k202_ rfl rfl dX5_isNeededNow_1 rfl ?_
  refine go_iload_n C 4 5 1 1 dX5_isNeededNow_4 rfl rfl rfl ?_
  refine go_viN C 5 8 0 0 [.int a1] 1 (lu1 ex) rfl (c_X4_has _ _  h) n255_ k258_ k51_ k257_ k4_ qX4_has mhX4_has (by decide) (by decide) rfl rfl rfl rfl (Nat.le_of_ble_eq_true rfl) rfl rfl dX5_isNeededNow_5 (fun r2 S1 h => ?_)
  refine go_if_eq C 8 11 36 dX5_isNeededNow_8 (by decide) rfl (fun hc => ?_) (fun hc => ?_)
  · have h := h.1 hc
    refine go_iconst C 36 37 (0) dX5_isNeededNow_36 (by decide) rfl ?_
    exact go_zret C 37 (by decide) rfl dX5_isNeededNow_37 h
  · have h := h.2 hc
    refine go_aload_n C 11 12 0 0 dX5_isNeededNow_11 rfl rfl rfl ?_
    refine go_getR C 12 15 iw5 0 (lu0 ex) rfl 0 (by decide) k202_ rfl rfl dX5_isNeededNow_12 rfl ?_
    refine go_aload_n C 15 16 0 0 dX5_isNeededNow_15 rfl rfl rfl ?_
    refine go_getR C 16 19 iw5 0 (lu0 ex) rfl 1 (by decide) k203_ rfl rfl dX5_isNeededNow_16 rfl ?_
    refine go_getIN C 19 22 iw3 2 (lu2 ex) rfl 1 (by decide) n114_ rfl rfl dX5_isNeededNow_19 rfl ?_
    refine go_viN C 22 25 0 0 [.int (S1.1 2 1)] 1 (lu1 ex) rfl (c_X4_neededBy _ _  h) n319_ k322_ k51_ k321_ k12_ qX4_neededBy mhX4_neededBy (by decide) (by decide) rfl rfl rfl rfl (Nat.le_of_ble_eq_true rfl) rfl rfl dX5_isNeededNow_22 (fun r4 S3 h => ?_)
    refine go_iload_n C 25 26 1 1 dX5_isNeededNow_25 rfl rfl rfl ?_
    refine go_si C 26 29 0 0 [.int r4, .int a1] (c_X5_isIn _ _ _  h) k339_ k289_ k50_ k288_ qX5_isIn mhX5_isIn (by decide) (by decide) rfl rfl rfl rfl (Nat.le_of_ble_eq_true rfl) rfl rfl dX5_isNeededNow_26 (fun r6 S5 h => ?_)
    refine go_if_eq C 29 32 36 dX5_isNeededNow_29 (by decide) rfl (fun hc => ?_) (fun hc => ?_)
    · have h := h.1 hc
      refine go_iconst C 36 37 (0) dX5_isNeededNow_36 (by decide) rfl ?_
      exact go_zret C 37 (by decide) rfl dX5_isNeededNow_37 h
    · have h := h.2 hc
      refine go_iconst C 32 33 (1) dX5_isNeededNow_32 (by decide) rfl ?_
      refine go_goto C 33 37 dX5_isNeededNow_33 (by decide) ?_
      exact go_zret C 37 (by decide) rfl dX5_isNeededNow_37 h
-- BillHouse.commonDivisor(JJ)J
theorem qX5_commonDivisor : (parseMethodDescriptor yX5_commonDivisor.desc).map (fun d => d.parameters.length) = some 2 := by decide +kernel
theorem mhX5_commonDivisor : yX5_commonDivisor.cls ≠ "java/lang/invoke/MethodHandle" ∧ yX5_commonDivisor.cls ≠ "java/lang/invoke/VarHandle" := by decide +kernel
def rX5_commonDivisor : Room := { frames := 0, cells := 0, slots := 0, locals := 0 }
def wB_X5_commonDivisor_3 (k rec : Int64 → Int64 → Int32 → St → Prop) (v0 : Int64) (v2 : Int64) (v4 : Int32) (S : St) : Prop :=
  ((100 : Int32) ≤ v4 → k v0 v2 v4 S) ∧ (¬ ((100 : Int32) ≤ v4) → (v2 = (0 : Int64) → k v0 v2 v4 S) ∧ (¬ (v2 = (0 : Int64)) → (¬ v2 = 0) ∧ (∀ x2 : Int64, x2 = (v0 - v0 / v2 * v2) → rec v2 x2 (v4 + 1) S)))
def wL_X5_commonDivisor_3 (k : Int64 → Int64 → Int32 → St → Prop) : Nat → Int64 → Int64 → Int32 → St → Prop
  | 0, _, _, _, _ => False
  | n + 1, v0, v2, v4, S => wB_X5_commonDivisor_3 k (wL_X5_commonDivisor_3 k n) v0 v2 v4 S
set_option maxHeartbeats 4000000 in
set_option maxRecDepth 100000 in
theorem L_X5_commonDivisor_3 {p : Program} {l : Launch} {e : Env} {s : State} {m : MethodId} {args : Array Value} {below : List Frame} {meth : Method} {c : Code} {D : va_G} {cA : Nat → ClassId} {ad : Nat → Nat} {ex : List Lay} {Q : State → Prop} (C : Cx p s m args meth c cX5_commonDivisor 7 (some .long) RX5 D cA ad (LU ++ ex))   {k : Int64 → Int64 → Int32 → St → Prop} (hk : ∀ (v0 : Int64) (v2 : Int64) (v4 : Int32) (S : St), k v0 v2 v4 S → Go p l e rX5_commonDivisor s m args below meth c D cA ad (LU ++ ex) 7 0 0 Q S 32 [(0, .long v0)] []) : ∀ (n : Nat) (v0 : Int64) (v2 : Int64) (v4 : Int32) (S : St), wL_X5_commonDivisor_3 k n v0 v2 v4 S → Go p l e rX5_commonDivisor s m args below meth c D cA ad (LU ++ ex) 7 0 0 Q S 3 [(0, .long v0), (2, .long v2), (4, .int v4)] [] := by
  intro n
  induction n with
  | zero => intro v0 v2 v4 S h; exact h.elim
  | succ n ih =>
    intro v0 v2 v4 S h
    replace h : wB_X5_commonDivisor_3 k (wL_X5_commonDivisor_3 k n) v0 v2 v4 S := h
    unfold wB_X5_commonDivisor_3 at h
    refine go_iload C 3 5 4 2 dX5_commonDivisor_3 rfl rfl ?_
    refine go_bipush C 5 7 (100) dX5_commonDivisor_5 (by decide) rfl ?_
    refine go_icmp_ge C 7 10 32 dX5_commonDivisor_7 (by decide) rfl (fun hc => ?_) (fun hc => ?_)
    · have h := h.1 hc
      exact go_perm [0] rfl (hk _ _ _ _ h)
    · have h := h.2 hc
      refine go_lload_n C 10 11 2 1 dX5_commonDivisor_10 rfl rfl rfl ?_
      refine go_lconst C 11 12 0 dX5_commonDivisor_11 rfl rfl ?_
      refine go_lcmp_eq C 12 16 32 dX5_commonDivisor_12 dX5_commonDivisor_13 (by decide) rfl (fun hc => ?_) (fun hc => ?_)
      · have h := h.1 hc
        exact go_perm [0] rfl (hk _ _ _ _ h)
      · have h := h.2 hc
        refine go_lload_n C 16 17 0 0 dX5_commonDivisor_16 rfl rfl rfl ?_
        refine go_lload_n C 17 18 2 1 dX5_commonDivisor_17 rfl rfl rfl ?_
        obtain ⟨hi1, h⟩ := h
        refine go_lrem C 18 19 hi1 dX5_commonDivisor_18 rfl ?_
        refine go_topl (fun x2 hx2 => ?_)
        replace h := h x2 hx2
        refine go_lstore C 19 21 5 [(5, .long _), (0, .long _), (2, .long _), (4, .int _)] dX5_commonDivisor_19 (by decide) rfl rfl ?_
        refine go_lload_n C 21 22 2 2 dX5_commonDivisor_21 rfl rfl rfl ?_
        refine go_lstore_n C 22 23 0 [(0, .long _), (5, .long _), (2, .long _), (4, .int _)] dX5_commonDivisor_22 rfl (by decide) rfl rfl ?_
        refine go_lload C 23 25 5 1 dX5_commonDivisor_23 rfl rfl ?_
        refine go_lstore_n C 25 26 2 [(2, .long _), (0, .long _), (5, .long _), (4, .int _)] dX5_commonDivisor_25 rfl (by decide) rfl rfl ?_
        refine go_iinc C 26 29 4 3 (v4 + 1) [(4, .int _), (2, .long _), (0, .long _), (5, .long _)] dX5_commonDivisor_26 rfl rfl (by decide) rfl rfl ?_
        refine go_goto C 29 3 dX5_commonDivisor_29 (by decide) ?_
        exact go_perm [2, 1, 0] rfl (ih _ _ _ _ h)
def wp_X5_commonDivisor (S : St) (a1 : Int64) (a2 : Int64) (post : Int64 → St → Prop) : Prop :=
  ∃ fu5, wL_X5_commonDivisor_3 (fun (z2 : Int64) (z3 : Int64) (z4 : Int32) (S1 : St) => post z2 S1) fu5 a1 a2 (0 : Int32) S
set_option maxHeartbeats 4000000 in
set_option maxRecDepth 100000 in
theorem c_X5_commonDivisor {l : Launch} {D : va_G} {cA : Nat → ClassId} {ad : Nat → Nat} {ex : List Lay} (S : St) (a1 : Int64) (a2 : Int64)  {post : Int64 → St → Prop} (h : wp_X5_commonDivisor S a1 a2 post) : MetL l yX5_commonDivisor cX5_commonDivisor 7 (some .long) rX5_commonDivisor D cA ad (LU ++ ex) [.long a1, .long a2] S post 0 0 := by
  refine MetL.of (by decide) (Nat.le_of_ble_eq_true rfl) ?_
  intro p e s m args below meth c C
  unfold wp_X5_commonDivisor at h
  show Go p l e rX5_commonDivisor s m args below meth c D cA ad (LU ++ ex) 7 0 0 _ S 0 [(0, .long a1), (2, .long a2)] []
  replace C : Cx p s m args meth c cX5_commonDivisor 7 (some .long) RX5 D cA ad (LU ++ ex) := C
  refine go_iconst C 0 1 (0) dX5_commonDivisor_0 (by decide) rfl ?_
  refine go_istore C 1 3 4 [(4, .int _), (0, .long _), (2, .long _)] dX5_commonDivisor_1 (by decide) rfl rfl ?_
  obtain ⟨fu5, h⟩ := h
  refine go_perm [1, 2, 0] rfl (L_X5_commonDivisor_3 C   (fun z2 z3 z4 S1 h => ?_) _ _ _ _ _ h)
  refine go_lload_n C 32 33 0 0 dX5_commonDivisor_32 rfl rfl rfl ?_
  exact go_lret C 33 rfl dX5_commonDivisor_33 h
-- BillHouse.partOfFraction(JJI)J
theorem qX5_partOfFraction : (parseMethodDescriptor yX5_partOfFraction.desc).map (fun d => d.parameters.length) = some 3 := by decide +kernel
theorem mhX5_partOfFraction : yX5_partOfFraction.cls ≠ "java/lang/invoke/MethodHandle" ∧ yX5_partOfFraction.cls ≠ "java/lang/invoke/VarHandle" := by decide +kernel
def rX5_partOfFraction : Room := { frames := 1, cells := 0, slots := 0, locals := 26 }
def wp_X5_partOfFraction (S : St) (a1 : Int64) (a2 : Int64) (a3 : Int32) (post : Int64 → St → Prop) : Prop :=
  wp_X5_commonDivisor S (if 0 < a1 then a1 else -a1) a2 (fun (r2 : Int64) (S1 : St) => (¬ r2 = (0 : Int64) → (¬ a3 = 0 → (¬ r2 = 0) ∧ (post (a2 / r2) S1)) ∧ (a3 = 0 → (¬ r2 = 0) ∧ (post (a1 / r2) S1))) ∧ (r2 = (0 : Int64) → post (-1000000000000 : Int64) S1))
set_option maxHeartbeats 4000000 in
set_option maxRecDepth 100000 in
theorem c_X5_partOfFraction {l : Launch} {D : va_G} {cA : Nat → ClassId} {ad : Nat → Nat} {ex : List Lay} (S : St) (a1 : Int64) (a2 : Int64) (a3 : Int32)  {post : Int64 → St → Prop} (h : wp_X5_partOfFraction S a1 a2 a3 post) : MetL l yX5_partOfFraction cX5_partOfFraction 7 (some .long) rX5_partOfFraction D cA ad (LU ++ ex) [.long a1, .long a2, .int a3] S post 0 0 := by
  refine MetL.of (by decide) (Nat.le_of_ble_eq_true rfl) ?_
  intro p e s m args below meth c C
  unfold wp_X5_partOfFraction at h
  show Go p l e rX5_partOfFraction s m args below meth c D cA ad (LU ++ ex) 7 0 0 _ S 0 [(0, .long a1), (2, .long a2), (4, .int a3)] []
  replace C : Cx p s m args meth c cX5_partOfFraction 7 (some .long) RX5 D cA ad (LU ++ ex) := C
  refine go_lload_n C 0 1 0 0 dX5_partOfFraction_0 rfl rfl rfl ?_
  refine go_absL C 1 4 k406_ k407_ k59_ k408_ (by decide) (Nat.le_of_ble_eq_true rfl) (by decide) (by decide) dX5_partOfFraction_1 rfl ?_
  refine go_lload_n C 4 5 2 1 dX5_partOfFraction_4 rfl rfl rfl ?_
  refine go_sl C 5 8 0 0 [.long (if 0 < a1 then a1 else -a1), .long a2] (c_X5_commonDivisor _ _ _  h) k409_ k411_ k50_ k410_ qX5_commonDivisor mhX5_commonDivisor (by decide) (by decide) rfl rfl rfl rfl (Nat.le_of_ble_eq_true rfl) rfl rfl dX5_partOfFraction_5 (fun r2 S1 h => ?_)
  refine go_lstore C 8 10 5 [(5, .long _), (0, .long _), (2, .long _), (4, .int _)] dX5_partOfFraction_8 (by decide) rfl rfl ?_
  refine go_lload C 10 12 5 0 dX5_partOfFraction_10 rfl rfl ?_
  refine go_lconst C 12 13 0 dX5_partOfFraction_12 rfl rfl ?_
  refine go_lcmp_ne C 13 17 21 dX5_partOfFraction_13 dX5_partOfFraction_14 (by decide) rfl (fun hc => ?_) (fun hc => ?_)
  · have h := h.1 hc
    refine go_iload C 21 23 4 3 dX5_partOfFraction_21 rfl rfl ?_
    refine go_if_ne C 23 26 30 dX5_partOfFraction_23 (by decide) rfl (fun hc => ?_) (fun hc => ?_)
    · have h := h.1 hc
      refine go_lload_n C 30 31 2 2 dX5_partOfFraction_30 rfl rfl rfl ?_
      refine go_lload C 31 33 5 0 dX5_partOfFraction_31 rfl rfl ?_
      obtain ⟨hi3, h⟩ := h
      refine go_ldiv C 33 34 hi3 dX5_partOfFraction_33 rfl ?_
      exact go_lret C 34 rfl dX5_partOfFraction_34 h
    · have h := h.2 hc
      refine go_lload_n C 26 27 0 1 dX5_partOfFraction_26 rfl rfl rfl ?_
      refine go_goto C 27 31 dX5_partOfFraction_27 (by decide) ?_
      refine go_lload C 31 33 5 0 dX5_partOfFraction_31 rfl rfl ?_
      obtain ⟨hi4, h⟩ := h
      refine go_ldiv C 33 34 hi4 dX5_partOfFraction_33 rfl ?_
      exact go_lret C 34 rfl dX5_partOfFraction_34 h
  · have h := h.2 hc
    refine go_ldc2 C 17 20 k369_ dX5_partOfFraction_17 rfl ?_
    exact go_lret C 20 rfl dX5_partOfFraction_20 h
-- BillHouse.shareOut(I)V
theorem qX5_shareOut : (parseMethodDescriptor yX5_shareOut.desc).map (fun d => d.parameters.length) = some 1 := by decide +kernel
theorem mhX5_shareOut : yX5_shareOut.cls ≠ "java/lang/invoke/MethodHandle" ∧ yX5_shareOut.cls ≠ "java/lang/invoke/VarHandle" := by decide +kernel
def rX5_shareOut : Room := { frames := 4, cells := 0, slots := 0, locals := 99 }
def wp_X5_shareOut (S : St) (a1 : Int32) (post : St → Prop) : Prop :=
  (¬ a1 = 0 → (¬ a1 = (1 : Int32) → wp_X2_partByOrders S (S.1 2 1) (fun (S1 : St) => post S1)) ∧ (a1 = (1 : Int32) → wp_X2_partByAlone S (S.1 2 1) (fun (S3 : St) => post S3))) ∧ (a1 = 0 → wp_X1_solve S (S.1 2 1) (fun (S5 : St) => wp_X2_partByUse S5 (S5.1 2 1) (fun (S7 : St) => post S7)))
set_option maxHeartbeats 4000000 in
set_option maxRecDepth 100000 in
theorem c_X5_shareOut {l : Launch} {D : va_G} {cA : Nat → ClassId} {ad : Nat → Nat} {ex : List Lay} (S : St) (a1 : Int32)  {post : St → Prop} (h : wp_X5_shareOut S a1 post) : MetV l yX5_shareOut cX5_shareOut 2 none rX5_shareOut D cA ad (LU ++ ex) [.ref (ad 0), .int a1] S post 0 0 := by
  refine MetV.of (by decide) (Nat.le_of_ble_eq_true rfl) ?_
  intro p e s m args below meth c C
  unfold wp_X5_shareOut at h
  show Go p l e rX5_shareOut s m args below meth c D cA ad (LU ++ ex) 2 0 0 _ S 0 [(0, .ref (ad 0)), (1, .int a1)] []
  replace C : Cx p s m args meth c cX5_shareOut 2 none RX5 D cA ad (LU ++ ex) := C
  refine go_iload_n C 0 1 1 1 dX5_shareOut_0 rfl rfl rfl ?_
  refine go_if_ne C 1 4 47 dX5_shareOut_1 (by decide) rfl (fun hc => ?_) (fun hc => ?_)
  · have h := h.1 hc
    refine go_iload_n C 47 48 1 1 dX5_shareOut_47 rfl rfl rfl ?_
    refine go_iconst C 48 49 (1) dX5_shareOut_48 (by decide) rfl ?_
    refine go_icmp_ne C 49 52 73 dX5_shareOut_49 (by decide) rfl (fun hc => ?_) (fun hc => ?_)
    · have h := h.1 hc
      refine go_aload_n C 73 74 0 0 dX5_shareOut_73 rfl rfl rfl ?_
      refine go_getR C 74 77 iw5 0 (lu0 ex) rfl 3 (by decide) k205_ rfl rfl dX5_shareOut_74 rfl ?_
      refine go_aload_n C 77 78 0 0 dX5_shareOut_77 rfl rfl rfl ?_
      refine go_getR C 78 81 iw5 0 (lu0 ex) rfl 0 (by decide) k202_ rfl rfl dX5_shareOut_78 rfl ?_
      refine go_aload_n C 81 82 0 0 dX5_shareOut_81 rfl rfl rfl ?_
      refine go_getR C 82 85 iw5 0 (lu0 ex) rfl 1 (by decide) k203_ rfl rfl dX5_shareOut_82 rfl ?_
      refine go_getIN C 85 88 iw3 2 (lu2 ex) rfl 1 (by decide) n114_ rfl rfl dX5_shareOut_85 rfl ?_
      refine go_vvN C 88 91 0 0 [.ref (ad 1), .int (S.1 2 1)] 4 (lu4 ex) rfl (c_X2_partByOrders _ _  h) n433_ k436_ k55_ k435_ k27_ qX2_partByOrders mhX2_partByOrders (by decide) (by decide) rfl rfl rfl rfl (Nat.le_of_ble_eq_true rfl) rfl rfl dX5_shareOut_88 (fun S1 h => ?_)
      exact go_vret C 91 rfl dX5_shareOut_91 h
    · have h := h.2 hc
      refine go_aload_n C 52 53 0 0 dX5_shareOut_52 rfl rfl rfl ?_
      refine go_getR C 53 56 iw5 0 (lu0 ex) rfl 3 (by decide) k205_ rfl rfl dX5_shareOut_53 rfl ?_
      refine go_aload_n C 56 57 0 0 dX5_shareOut_56 rfl rfl rfl ?_
      refine go_getR C 57 60 iw5 0 (lu0 ex) rfl 0 (by decide) k202_ rfl rfl dX5_shareOut_57 rfl ?_
      refine go_aload_n C 60 61 0 0 dX5_shareOut_60 rfl rfl rfl ?_
      refine go_getR C 61 64 iw5 0 (lu0 ex) rfl 1 (by decide) k203_ rfl rfl dX5_shareOut_61 rfl ?_
      refine go_getIN C 64 67 iw3 2 (lu2 ex) rfl 1 (by decide) n114_ rfl rfl dX5_shareOut_64 rfl ?_
      refine go_vvN C 67 70 0 0 [.ref (ad 1), .int (S.1 2 1)] 4 (lu4 ex) rfl (c_X2_partByAlone _ _  h) n428_ k431_ k55_ k430_ k26_ qX2_partByAlone mhX2_partByAlone (by decide) (by decide) rfl rfl rfl rfl (Nat.le_of_ble_eq_true rfl) rfl rfl dX5_shareOut_67 (fun S3 h => ?_)
      refine go_goto C 70 91 dX5_shareOut_70 (by decide) ?_
      exact go_vret C 91 rfl dX5_shareOut_91 h
  · have h := h.2 hc
    refine go_aload_n C 4 5 0 0 dX5_shareOut_4 rfl rfl rfl ?_
    refine go_getR C 5 8 iw5 0 (lu0 ex) rfl 2 (by decide) k204_ rfl rfl dX5_shareOut_5 rfl ?_
    refine go_aload_n C 8 9 0 0 dX5_shareOut_8 rfl rfl rfl ?_
    refine go_getR C 9 12 iw5 0 (lu0 ex) rfl 0 (by decide) k202_ rfl rfl dX5_shareOut_9 rfl ?_
    refine go_aload_n C 12 13 0 0 dX5_shareOut_12 rfl rfl rfl ?_
    refine go_getR C 13 16 iw5 0 (lu0 ex) rfl 1 (by decide) k203_ rfl rfl dX5_shareOut_13 rfl ?_
    refine go_getIN C 16 19 iw3 2 (lu2 ex) rfl 1 (by decide) n114_ rfl rfl dX5_shareOut_16 rfl ?_
    refine go_vvN C 19 22 0 0 [.ref (ad 1), .int (S.1 2 1)] 3 (lu3 ex) rfl (c_X1_solve _ _  h) n370_ k373_ k54_ k372_ k19_ qX1_solve mhX1_solve (by decide) (by decide) rfl rfl rfl rfl (Nat.le_of_ble_eq_true rfl) rfl rfl dX5_shareOut_19 (fun S5 h => ?_)
    refine go_aload_n C 22 23 0 0 dX5_shareOut_22 rfl rfl rfl ?_
    refine go_getR C 23 26 iw5 0 (lu0 ex) rfl 3 (by decide) k205_ rfl rfl dX5_shareOut_23 rfl ?_
    refine go_aload_n C 26 27 0 0 dX5_shareOut_26 rfl rfl rfl ?_
    refine go_getR C 27 30 iw5 0 (lu0 ex) rfl 0 (by decide) k202_ rfl rfl dX5_shareOut_27 rfl ?_
    refine go_aload_n C 30 31 0 0 dX5_shareOut_30 rfl rfl rfl ?_
    refine go_getR C 31 34 iw5 0 (lu0 ex) rfl 2 (by decide) k204_ rfl rfl dX5_shareOut_31 rfl ?_
    refine go_aload_n C 34 35 0 0 dX5_shareOut_34 rfl rfl rfl ?_
    refine go_getR C 35 38 iw5 0 (lu0 ex) rfl 1 (by decide) k203_ rfl rfl dX5_shareOut_35 rfl ?_
    refine go_getIN C 38 41 iw3 2 (lu2 ex) rfl 1 (by decide) n114_ rfl rfl dX5_shareOut_38 rfl ?_
    refine go_vvN C 41 44 0 0 [.ref (ad 1), .ref (ad 3), .int (S5.1 2 1)] 4 (lu4 ex) rfl (c_X2_partByUse _ _  h) n423_ k426_ k55_ k425_ k25_ qX2_partByUse mhX2_partByUse (by decide) (by decide) rfl rfl rfl rfl (Nat.le_of_ble_eq_true rfl) rfl rfl dX5_shareOut_41 (fun S7 h => ?_)
    refine go_goto C 44 91 dX5_shareOut_44 (by decide) ?_
    exact go_vret C 91 rfl dX5_shareOut_91 h
-- BillHouse.fillCoins(I[I)V
theorem qX5_fillCoins : (parseMethodDescriptor yX5_fillCoins.desc).map (fun d => d.parameters.length) = some 2 := by decide +kernel
theorem mhX5_fillCoins : yX5_fillCoins.cls ≠ "java/lang/invoke/MethodHandle" ∧ yX5_fillCoins.cls ≠ "java/lang/invoke/VarHandle" := by decide +kernel
def rX5_fillCoins : Room := { frames := 5, cells := 0, slots := 0, locals := 120 }
def wB_X5_fillCoins_36 (k2 n2 : Nat) (k rec : Int32 → St → Prop) (v3 : Int32) (S : St) : Prop :=
  ((8 : Int32) ≤ v3 → k v3 S) ∧ (¬ ((8 : Int32) ≤ v3) → wp_X3_isThere S v3 (fun (r2 : Int32) (S1 : St) => (r2 = 0 → rec (v3 + 1) S1) ∧ (¬ (r2 = 0) → (vp_in v3 n2) ∧ ((vp_in v3 8) ∧ ((vp_in v3 n2) ∧ (∀ S6 : St, S6 = uI S1 k2 v3.toNatClampNeg ((S1.1 k2 v3.toNatClampNeg) + (S1.1 14 v3.toNatClampNeg)) → rec (v3 + 1) S6))))))
def wL_X5_fillCoins_36 (k2 n2 : Nat) (k : Int32 → St → Prop) : Nat → Int32 → St → Prop
  | 0, _, _ => False
  | n + 1, v3, S => wB_X5_fillCoins_36 k2 n2 k (wL_X5_fillCoins_36 k2 n2 k n) v3 S
set_option maxHeartbeats 4000000 in
set_option maxRecDepth 100000 in
theorem L_X5_fillCoins_36 {p : Program} {l : Launch} {e : Env} {s : State} {m : MethodId} {args : Array Value} {below : List Frame} {meth : Method} {c : Code} {D : va_G} {cA : Nat → ClassId} {ad : Nat → Nat} {ex : List Lay} {Q : State → Prop} (C : Cx p s m args meth c cX5_fillCoins 4 none RX5 D cA ad (LU ++ ex)) (k2 n2 : Nat) (hk2 : (LU ++ ex)[k2]? = some (.inl (0, n2, 0))) {k : Int32 → St → Prop} (hk : ∀ (v3 : Int32) (S : St), k v3 S → Go p l e rX5_fillCoins s m args below meth c D cA ad (LU ++ ex) 4 0 0 Q S 74 [] []) : ∀ (n : Nat) (v3 : Int32) (S : St), wL_X5_fillCoins_36 k2 n2 k n v3 S → Go p l e rX5_fillCoins s m args below meth c D cA ad (LU ++ ex) 4 0 0 Q S 36 [(0, .ref (ad 0)), (2, .ref (ad k2)), (3, .int v3)] [] := by
  intro n
  induction n with
  | zero => intro v3 S h; exact h.elim
  | succ n ih =>
    intro v3 S h
    replace h : wB_X5_fillCoins_36 k2 n2 k (wL_X5_fillCoins_36 k2 n2 k n) v3 S := h
    unfold wB_X5_fillCoins_36 at h
    refine go_iload_n C 36 37 3 2 dX5_fillCoins_36 rfl rfl rfl ?_
    refine go_bipush C 37 39 (8) dX5_fillCoins_37 (by decide) rfl ?_
    refine go_icmp_ge C 39 42 74 dX5_fillCoins_39 (by decide) rfl (fun hc => ?_) (fun hc => ?_)
    · have h := h.1 hc
      exact go_perm [] rfl (hk _ _ h)
    · have h := h.2 hc
      refine go_aload_n C 42 43 0 0 dX5_fillCoins_42 rfl rfl rfl ?_
      refine go_getR C 43 46 iw5 0 (lu0 ex) rfl 1 (by decide) k203_ rfl rfl dX5_fillCoins_43 rfl ?_
      refine go_iload_n C 46 47 3 2 dX5_fillCoins_46 rfl rfl rfl ?_
      refine go_viN C 47 50 0 0 [.int v3] 2 (lu2 ex) rfl (c_X3_isThere _ _  h) n302_ k305_ k53_ k304_ k11_ qX3_isThere mhX3_isThere (by decide) (by decide) rfl rfl rfl rfl (Nat.le_of_ble_eq_true rfl) rfl rfl dX5_fillCoins_47 (fun r2 S1 h => ?_)
      refine go_if_eq C 50 53 68 dX5_fillCoins_50 (by decide) rfl (fun hc => ?_) (fun hc => ?_)
      · have h := h.1 hc
        refine go_iinc C 68 71 3 2 (v3 + 1) [(3, .int _), (0, .ref _), (2, .ref _)] dX5_fillCoins_68 rfl rfl (by decide) rfl rfl ?_
        refine go_goto C 71 36 dX5_fillCoins_71 (by decide) ?_
        exact go_perm [1, 2, 0] rfl (ih _ _ h)
      · have h := h.2 hc
        refine go_aload_n C 53 54 2 1 dX5_fillCoins_53 rfl rfl rfl ?_
        refine go_iload_n C 54 55 3 2 dX5_fillCoins_54 rfl rfl rfl ?_
        refine go_dup2 C 55 56 rfl rfl dX5_fillCoins_55 rfl ?_
        obtain ⟨hi3, h⟩ := h
        refine go_iald C 56 57 k2 hk2 hi3 dX5_fillCoins_56 rfl ?_
        refine go_aload_n C 57 58 0 0 dX5_fillCoins_57 rfl rfl rfl ?_
        refine go_getR C 58 61 iw5 0 (lu0 ex) rfl 1 (by decide) k203_ rfl rfl dX5_fillCoins_58 rfl ?_
        refine go_getRN C 61 64 iw3 2 (lu2 ex) rfl 2 (by decide) n116_ rfl rfl dX5_fillCoins_61 rfl ?_
        refine go_iload_n C 64 65 3 2 dX5_fillCoins_64 rfl rfl rfl ?_
        obtain ⟨hi4, h⟩ := h
        refine go_iald C 65 66 14 (lu14 ex) hi4 dX5_fillCoins_65 rfl ?_
        refine go_iadd C 66 67 dX5_fillCoins_66 rfl ?_
        obtain ⟨hi5, h⟩ := h
        refine go_iast C 67 68 k2 hk2 hi5 dX5_fillCoins_67 rfl ?_
        refine go_nm (fun S6 hS6 => ?_)
        replace h := h S6 hS6
        refine go_iinc C 68 71 3 2 (v3 + 1) [(3, .int _), (0, .ref _), (2, .ref _)] dX5_fillCoins_68 rfl rfl (by decide) rfl rfl ?_
        refine go_goto C 71 36 dX5_fillCoins_71 (by decide) ?_
        exact go_perm [1, 2, 0] rfl (ih _ _ h)
def wp_X5_fillCoins (S : St) (a1 : Int32) (k2 n2 : Nat) (post : St → Prop) : Prop :=
  wp_X5_shareOut S a1 (fun (S1 : St) => wp_X4_costOf S1 (S1.1 2 1) (fun (r4 : Int32) (S3 : St) => wp_X2_cutInto S3 r4 (S3.1 2 1) k2 n2 (fun (S5 : St) => ∃ fu9, wL_X5_fillCoins_36 k2 n2 (fun (z8 : Int32) (S7 : St) => post S7) fu9 (0 : Int32) S5)))
set_option maxHeartbeats 4000000 in
set_option maxRecDepth 100000 in
theorem c_X5_fillCoins {l : Launch} {D : va_G} {cA : Nat → ClassId} {ad : Nat → Nat} {ex : List Lay} (S : St) (a1 : Int32) (k2 n2 : Nat) (hk2 : (LU ++ ex)[k2]? = some (.inl (0, n2, 0))) {post : St → Prop} (h : wp_X5_fillCoins S a1 k2 n2 post) : MetV l yX5_fillCoins cX5_fillCoins 4 none rX5_fillCoins D cA ad (LU ++ ex) [.ref (ad 0), .int a1, .ref (ad k2)] S post 0 0 := by
  refine MetV.of (by decide) (Nat.le_of_ble_eq_true rfl) ?_
  intro p e s m args below meth c C
  unfold wp_X5_fillCoins at h
  show Go p l e rX5_fillCoins s m args below meth c D cA ad (LU ++ ex) 4 0 0 _ S 0 [(0, .ref (ad 0)), (1, .int a1), (2, .ref (ad k2))] []
  replace C : Cx p s m args meth c cX5_fillCoins 4 none RX5 D cA ad (LU ++ ex) := C
  refine go_aload_n C 0 1 0 0 dX5_fillCoins_0 rfl rfl rfl ?_
  refine go_iload_n C 1 2 1 1 dX5_fillCoins_1 rfl rfl rfl ?_
  refine go_vv C 2 5 0 0 [.int a1] 0 (lu0 ex) rfl (c_X5_shareOut _ _  h) k419_ k422_ k50_ k421_ k24_ qX5_shareOut mhX5_shareOut (by decide) (by decide) rfl rfl rfl rfl (Nat.le_of_ble_eq_true rfl) rfl rfl dX5_fillCoins_2 (fun S1 h => ?_)
  refine go_aload_n C 5 6 0 0 dX5_fillCoins_5 rfl rfl rfl ?_
  refine go_getR C 6 9 iw5 0 (lu0 ex) rfl 3 (by decide) k205_ rfl rfl dX5_fillCoins_6 rfl ?_
  refine go_aload_n C 9 10 2 2 dX5_fillCoins_9 rfl rfl rfl ?_
  refine go_aload_n C 10 11 0 0 dX5_fillCoins_10 rfl rfl rfl ?_
  refine go_getR C 11 14 iw5 0 (lu0 ex) rfl 0 (by decide) k202_ rfl rfl dX5_fillCoins_11 rfl ?_
  refine go_aload_n C 14 15 0 0 dX5_fillCoins_14 rfl rfl rfl ?_
  refine go_getR C 15 18 iw5 0 (lu0 ex) rfl 1 (by decide) k203_ rfl rfl dX5_fillCoins_15 rfl ?_
  refine go_getIN C 18 21 iw3 2 (lu2 ex) rfl 1 (by decide) n114_ rfl rfl dX5_fillCoins_18 rfl ?_
  refine go_viN C 21 24 0 0 [.int (S1.1 2 1)] 1 (lu1 ex) rfl (c_X4_costOf _ _  h) n352_ k355_ k51_ k354_ k17_ qX4_costOf mhX4_costOf (by decide) (by decide) rfl rfl rfl rfl (Nat.le_of_ble_eq_true rfl) rfl rfl dX5_fillCoins_21 (fun r4 S3 h => ?_)
  refine go_aload_n C 24 25 0 0 dX5_fillCoins_24 rfl rfl rfl ?_
  refine go_getR C 25 28 iw5 0 (lu0 ex) rfl 1 (by decide) k203_ rfl rfl dX5_fillCoins_25 rfl ?_
  refine go_getIN C 28 31 iw3 2 (lu2 ex) rfl 1 (by decide) n114_ rfl rfl dX5_fillCoins_28 rfl ?_
  refine go_vvN C 31 34 0 0 [.ref (ad k2), .int r4, .int (S3.1 2 1)] 4 (lu4 ex) rfl (c_X2_cutInto _ _ _ k2 n2 hk2 h) n453_ k456_ k55_ k455_ k29_ qX2_cutInto mhX2_cutInto (by decide) (by decide) rfl rfl rfl rfl (Nat.le_of_ble_eq_true rfl) rfl rfl dX5_fillCoins_31 (fun S5 h => ?_)
  refine go_iconst C 34 35 (0) dX5_fillCoins_34 (by decide) rfl ?_
  refine go_istore_n C 35 36 3 [(3, .int _), (0, .ref _), (1, .int _), (2, .ref _)] dX5_fillCoins_35 rfl (by decide) rfl rfl ?_
  obtain ⟨fu9, h⟩ := h
  refine go_perm [1, 3, 0] rfl (L_X5_fillCoins_36 C k2 n2 hk2 (fun z8 S7 h => ?_) _ _ _ h)
  exact go_vret C 74 rfl dX5_fillCoins_74 h
-- BillHouse.work(II)I
theorem qX5_work : (parseMethodDescriptor yX5_work.desc).map (fun d => d.parameters.length) = some 2 := by decide +kernel
theorem mhX5_work : yX5_work.cls ≠ "java/lang/invoke/MethodHandle" ∧ yX5_work.cls ≠ "java/lang/invoke/VarHandle" := by decide +kernel
def rX5_work : Room := { frames := 3, cells := 0, slots := 0, locals := 69 }
def wp_X5_work (S : St) (a1 : Int32) (a2 : Int32) (post : Int32 → St → Prop) : Prop :=
  ((6 : Int32) ≤ (S.1 1 0) → post (-1 : Int32) S) ∧ (¬ ((6 : Int32) ≤ (S.1 1 0)) → wp_X5_areCosts S a1 a2 (fun (r2 : Int32) (S1 : St) => (¬ r2 = 0 → wp_X4_add S1 a1 a2 (fun (r4 : Int32) (S3 : St) => post r4 S3)) ∧ (r2 = 0 → post (-1 : Int32) S1)))
set_option maxHeartbeats 4000000 in
set_option maxRecDepth 100000 in
theorem c_X5_work {l : Launch} {D : va_G} {cA : Nat → ClassId} {ad : Nat → Nat} {ex : List Lay} (S : St) (a1 : Int32) (a2 : Int32)  {post : Int32 → St → Prop} (h : wp_X5_work S a1 a2 post) : MetI l yX5_work cX5_work 3 (some .int) rX5_work D cA ad (LU ++ ex) [.ref (ad 0), .int a1, .int a2] S post 0 0 := by
  refine MetI.of (by decide) (Nat.le_of_ble_eq_true rfl) ?_
  intro p e s m args below meth c C
  unfold wp_X5_work at h
  show Go p l e rX5_work s m args below meth c D cA ad (LU ++ ex) 3 0 0 _ S 0 [(0, .ref (ad 0)), (1, .int a1), (2, .int a2)] []
  replace C : Cx p s m args meth c cX5_work 3 (some .int) RX5 D cA ad (LU ++ ex) := C
  refine go_aload_n C 0 1 0 0 dX5_work_0 rfl rfl rfl ?_
  refine go_getR C 1 4 iw5 0 (lu0 ex) rfl 0 (by decide) k202_ rfl rfl dX5_work_1 rfl ?_
  refine go_getIN C 4 7 iw4 1 (lu1 ex) rfl 0 (by decide) n79_ rfl rfl dX5_work_4 rfl ?_
  refine go_bipush C 7 9 (6) dX5_work_7 (by decide) rfl ?_
  refine go_icmp_ge C 9 12 20 dX5_work_9 (by decide) rfl (fun hc => ?_) (fun hc => ?_)
  · have h := h.1 hc
    refine go_iconst C 20 21 (-1) dX5_work_20 (by decide) rfl ?_
    exact go_iret C 21 rfl dX5_work_21 h
  · have h := h.2 hc
    refine go_iload_n C 12 13 1 1 dX5_work_12 rfl rfl rfl ?_
    refine go_iload_n C 13 14 2 2 dX5_work_13 rfl rfl rfl ?_
    refine go_si C 14 17 0 0 [.int a1, .int a2] (c_X5_areCosts _ _ _  h) k228_ k230_ k50_ k229_ qX5_areCosts mhX5_areCosts (by decide) (by decide) rfl rfl rfl rfl (Nat.le_of_ble_eq_true rfl) rfl rfl dX5_work_14 (fun r2 S1 h => ?_)
    refine go_if_ne C 17 20 22 dX5_work_17 (by decide) rfl (fun hc => ?_) (fun hc => ?_)
    · have h := h.1 hc
      refine go_aload_n C 22 23 0 0 dX5_work_22 rfl rfl rfl ?_
      refine go_getR C 23 26 iw5 0 (lu0 ex) rfl 0 (by decide) k202_ rfl rfl dX5_work_23 rfl ?_
      refine go_iload_n C 26 27 1 1 dX5_work_26 rfl rfl rfl ?_
      refine go_iload_n C 27 28 2 2 dX5_work_27 rfl rfl rfl ?_
      refine go_viN C 28 31 0 0 [.int a1, .int a2] 1 (lu1 ex) rfl (c_X4_add _ _ _  h) n231_ k234_ k51_ k233_ k0_ qX4_add mhX4_add (by decide) (by decide) rfl rfl rfl rfl (Nat.le_of_ble_eq_true rfl) rfl rfl dX5_work_28 (fun r4 S3 h => ?_)
      exact go_iret C 31 rfl dX5_work_31 h
    · have h := h.2 hc
      refine go_iconst C 20 21 (-1) dX5_work_20 (by decide) rfl ?_
      exact go_iret C 21 rfl dX5_work_21 h
-- BillHouse.user()I
theorem qX5_user : (parseMethodDescriptor yX5_user.desc).map (fun d => d.parameters.length) = some 0 := by decide +kernel
theorem mhX5_user : yX5_user.cls ≠ "java/lang/invoke/MethodHandle" ∧ yX5_user.cls ≠ "java/lang/invoke/VarHandle" := by decide +kernel
def rX5_user : Room := { frames := 2, cells := 0, slots := 0, locals := 42 }
def wp_X5_user (S : St) (post : Int32 → St → Prop) : Prop :=
  ((S.1 2 0) < (8 : Int32) → wp_X3_add S (fun (r2 : Int32) (S1 : St) => post r2 S1)) ∧ (¬ ((S.1 2 0) < (8 : Int32)) → post (-1 : Int32) S)
set_option maxHeartbeats 4000000 in
set_option maxRecDepth 100000 in
theorem c_X5_user {l : Launch} {D : va_G} {cA : Nat → ClassId} {ad : Nat → Nat} {ex : List Lay} (S : St)  {post : Int32 → St → Prop} (h : wp_X5_user S post) : MetI l yX5_user cX5_user 1 (some .int) rX5_user D cA ad (LU ++ ex) [.ref (ad 0)] S post 0 0 := by
  refine MetI.of (by decide) (Nat.le_of_ble_eq_true rfl) ?_
  intro p e s m args below meth c C
  unfold wp_X5_user at h
  show Go p l e rX5_user s m args below meth c D cA ad (LU ++ ex) 1 0 0 _ S 0 [(0, .ref (ad 0))] []
  replace C : Cx p s m args meth c cX5_user 1 (some .int) RX5 D cA ad (LU ++ ex) := C
  refine go_aload_n C 0 1 0 0 dX5_user_0 rfl rfl rfl ?_
  refine go_getR C 1 4 iw5 0 (lu0 ex) rfl 1 (by decide) k203_ rfl rfl dX5_user_1 rfl ?_
  refine go_getIN C 4 7 iw3 2 (lu2 ex) rfl 0 (by decide) n112_ rfl rfl dX5_user_4 rfl ?_
  refine go_bipush C 7 9 (8) dX5_user_7 (by decide) rfl ?_
  refine go_icmp_lt C 9 12 14 dX5_user_9 (by decide) rfl (fun hc => ?_) (fun hc => ?_)
  · have h := h.1 hc
    refine go_aload_n C 14 15 0 0 dX5_user_14 rfl rfl rfl ?_
    refine go_getR C 15 18 iw5 0 (lu0 ex) rfl 1 (by decide) k203_ rfl rfl dX5_user_15 rfl ?_
    refine go_viN C 18 21 0 0 [] 2 (lu2 ex) rfl (c_X3_add _  h) n243_ k246_ k53_ k245_ k2_ qX3_add mhX3_add (by decide) (by decide) rfl rfl rfl rfl (Nat.le_of_ble_eq_true rfl) rfl rfl dX5_user_18 (fun r2 S1 h => ?_)
    exact go_iret C 21 rfl dX5_user_21 h
  · have h := h.2 hc
    refine go_iconst C 12 13 (-1) dX5_user_12 (by decide) rfl ?_
    exact go_iret C 13 rfl dX5_user_13 h
-- BillHouse.change(III)Z
theorem qX5_change : (parseMethodDescriptor yX5_change.desc).map (fun d => d.parameters.length) = some 3 := by decide +kernel
theorem mhX5_change : yX5_change.cls ≠ "java/lang/invoke/MethodHandle" ∧ yX5_change.cls ≠ "java/lang/invoke/VarHandle" := by decide +kernel
def rX5_change : Room := { frames := 2, cells := 0, slots := 0, locals := 46 }
def wp_X5_change (S : St) (a1 : Int32) (a2 : Int32) (a3 : Int32) (post : Int32 → St → Prop) : Prop :=
  wp_X4_has S a1 (fun (r2 : Int32) (S1 : St) => (r2 = 0 → post (0 : Int32) S1) ∧ (¬ (r2 = 0) → wp_X5_areCosts S1 a2 a3 (fun (r4 : Int32) (S3 : St) => (¬ r4 = 0 → wp_X4_putCosts S3 a1 a2 a3 (fun (S5 : St) => post (1 : Int32) S5)) ∧ (r4 = 0 → post (0 : Int32) S3))))
set_option maxHeartbeats 4000000 in
set_option maxRecDepth 100000 in
theorem c_X5_change {l : Launch} {D : va_G} {cA : Nat → ClassId} {ad : Nat → Nat} {ex : List Lay} (S : St) (a1 : Int32) (a2 : Int32) (a3 : Int32)  {post : Int32 → St → Prop} (h : wp_X5_change S a1 a2 a3 post) : MetI l yX5_change cX5_change 4 (some .boolean) rX5_change D cA ad (LU ++ ex) [.ref (ad 0), .int a1, .int a2, .int a3] S post 0 0 := by
  refine MetI.of (by decide) (Nat.le_of_ble_eq_true rfl) ?_
  intro p e s m args below meth c C
  unfold wp_X5_change at h
  show Go p l e rX5_change s m args below meth c D cA ad (LU ++ ex) 4 0 0 _ S 0 [(0, .ref (ad 0)), (1, .int a1), (2, .int a2), (3, .int a3)] []
  replace C : Cx p s m args meth c cX5_change 4 (some .boolean) RX5 D cA ad (LU ++ ex) := C
  refine go_aload_n C 0 1 0 0 dX5_change_0 rfl rfl rfl ?_
  refine go_getR C 1 4 iw5 0 (lu0 ex) rfl 0 (by decide) k202_ rfl rfl dX5_change_1 rfl ?_
  refine go_iload_n C 4 5 1 1 dX5_change_4 rfl rfl rfl ?_
  refine go_viN C 5 8 0 0 [.int a1] 1 (lu1 ex) rfl (c_X4_has _ _  h) n255_ k258_ k51_ k257_ k4_ qX4_has mhX4_has (by decide) (by decide) rfl rfl rfl rfl (Nat.le_of_ble_eq_true rfl) rfl rfl dX5_change_5 (fun r2 S1 h => ?_)
  refine go_if_eq C 8 11 19 dX5_change_8 (by decide) rfl (fun hc => ?_) (fun hc => ?_)
  · have h := h.1 hc
    refine go_iconst C 19 20 (0) dX5_change_19 (by decide) rfl ?_
    exact go_zret C 20 (by decide) rfl dX5_change_20 h
  · have h := h.2 hc
    refine go_iload_n C 11 12 2 2 dX5_change_11 rfl rfl rfl ?_
    refine go_iload_n C 12 13 3 3 dX5_change_12 rfl rfl rfl ?_
    refine go_si C 13 16 0 0 [.int a2, .int a3] (c_X5_areCosts _ _ _  h) k228_ k230_ k50_ k229_ qX5_areCosts mhX5_areCosts (by decide) (by decide) rfl rfl rfl rfl (Nat.le_of_ble_eq_true rfl) rfl rfl dX5_change_13 (fun r4 S3 h => ?_)
    refine go_if_ne C 16 19 21 dX5_change_16 (by decide) rfl (fun hc => ?_) (fun hc => ?_)
    · have h := h.1 hc
      refine go_aload_n C 21 22 0 0 dX5_change_21 rfl rfl rfl ?_
      refine go_getR C 22 25 iw5 0 (lu0 ex) rfl 0 (by decide) k202_ rfl rfl dX5_change_22 rfl ?_
      refine go_iload_n C 25 26 1 1 dX5_change_25 rfl rfl rfl ?_
      refine go_iload_n C 26 27 2 2 dX5_change_26 rfl rfl rfl ?_
      refine go_iload_n C 27 28 3 3 dX5_change_27 rfl rfl rfl ?_
      refine go_vvN C 28 31 0 0 [.int a1, .int a2, .int a3] 1 (lu1 ex) rfl (c_X4_putCosts _ _ _ _  h) n259_ k238_ k51_ k237_ k1_ qX4_putCosts mhX4_putCosts (by decide) (by decide) rfl rfl rfl rfl (Nat.le_of_ble_eq_true rfl) rfl rfl dX5_change_28 (fun S5 h => ?_)
      refine go_iconst C 31 32 (1) dX5_change_31 (by decide) rfl ?_
      exact go_zret C 32 (by decide) rfl dX5_change_32 h
    · have h := h.2 hc
      refine go_iconst C 19 20 (0) dX5_change_19 (by decide) rfl ?_
      exact go_zret C 20 (by decide) rfl dX5_change_20 h
-- BillHouse.use(III)Z
theorem qX5_use : (parseMethodDescriptor yX5_use.desc).map (fun d => d.parameters.length) = some 3 := by decide +kernel
theorem mhX5_use : yX5_use.cls ≠ "java/lang/invoke/MethodHandle" ∧ yX5_use.cls ≠ "java/lang/invoke/VarHandle" := by decide +kernel
def rX5_use : Room := { frames := 4, cells := 0, slots := 0, locals := 92 }
def wp_X5_use (S : St) (a1 : Int32) (a2 : Int32) (a3 : Int32) (post : Int32 → St → Prop) : Prop :=
  wp_X4_has S a1 (fun (r2 : Int32) (S1 : St) => (r2 = 0 → post (0 : Int32) S1) ∧ (¬ (r2 = 0) → wp_X3_has S1 a2 (fun (r4 : Int32) (S3 : St) => (r4 = 0 → post (0 : Int32) S3) ∧ (¬ (r4 = 0) → wp_X5_areUnits S3 a3 (fun (r6 : Int32) (S5 : St) => (¬ r6 = 0 → wp_X4_putUnitsByUser S5 a1 a2 a3 (fun (S7 : St) => post (1 : Int32) S7)) ∧ (r6 = 0 → post (0 : Int32) S5))))))
set_option maxHeartbeats 4000000 in
set_option maxRecDepth 100000 in
theorem c_X5_use {l : Launch} {D : va_G} {cA : Nat → ClassId} {ad : Nat → Nat} {ex : List Lay} (S : St) (a1 : Int32) (a2 : Int32) (a3 : Int32)  {post : Int32 → St → Prop} (h : wp_X5_use S a1 a2 a3 post) : MetI l yX5_use cX5_use 4 (some .boolean) rX5_use D cA ad (LU ++ ex) [.ref (ad 0), .int a1, .int a2, .int a3] S post 0 0 := by
  refine MetI.of (by decide) (Nat.le_of_ble_eq_true rfl) ?_
  intro p e s m args below meth c C
  unfold wp_X5_use at h
  show Go p l e rX5_use s m args below meth c D cA ad (LU ++ ex) 4 0 0 _ S 0 [(0, .ref (ad 0)), (1, .int a1), (2, .int a2), (3, .int a3)] []
  replace C : Cx p s m args meth c cX5_use 4 (some .boolean) RX5 D cA ad (LU ++ ex) := C
  refine go_aload_n C 0 1 0 0 dX5_use_0 rfl rfl rfl ?_
  refine go_getR C 1 4 iw5 0 (lu0 ex) rfl 0 (by decide) k202_ rfl rfl dX5_use_1 rfl ?_
  refine go_iload_n C 4 5 1 1 dX5_use_4 rfl rfl rfl ?_
  refine go_viN C 5 8 0 0 [.int a1] 1 (lu1 ex) rfl (c_X4_has _ _  h) n255_ k258_ k51_ k257_ k4_ qX4_has mhX4_has (by decide) (by decide) rfl rfl rfl rfl (Nat.le_of_ble_eq_true rfl) rfl rfl dX5_use_5 (fun r2 S1 h => ?_)
  refine go_if_eq C 8 11 29 dX5_use_8 (by decide) rfl (fun hc => ?_) (fun hc => ?_)
  · have h := h.1 hc
    refine go_iconst C 29 30 (0) dX5_use_29 (by decide) rfl ?_
    exact go_zret C 30 (by decide) rfl dX5_use_30 h
  · have h := h.2 hc
    refine go_aload_n C 11 12 0 0 dX5_use_11 rfl rfl rfl ?_
    refine go_getR C 12 15 iw5 0 (lu0 ex) rfl 1 (by decide) k203_ rfl rfl dX5_use_12 rfl ?_
    refine go_iload_n C 15 16 2 2 dX5_use_15 rfl rfl rfl ?_
    refine go_viN C 16 19 0 0 [.int a2] 2 (lu2 ex) rfl (c_X3_has _ _  h) n264_ k267_ k53_ k266_ k5_ qX3_has mhX3_has (by decide) (by decide) rfl rfl rfl rfl (Nat.le_of_ble_eq_true rfl) rfl rfl dX5_use_16 (fun r4 S3 h => ?_)
    refine go_if_eq C 19 22 29 dX5_use_19 (by decide) rfl (fun hc => ?_) (fun hc => ?_)
    · have h := h.1 hc
      refine go_iconst C 29 30 (0) dX5_use_29 (by decide) rfl ?_
      exact go_zret C 30 (by decide) rfl dX5_use_30 h
    · have h := h.2 hc
      refine go_iload_n C 22 23 3 3 dX5_use_22 rfl rfl rfl ?_
      refine go_si C 23 26 0 0 [.int a3] (c_X5_areUnits _ _  h) k268_ k270_ k50_ k269_ qX5_areUnits mhX5_areUnits (by decide) (by decide) rfl rfl rfl rfl (Nat.le_of_ble_eq_true rfl) rfl rfl dX5_use_23 (fun r6 S5 h => ?_)
      refine go_if_ne C 26 29 31 dX5_use_26 (by decide) rfl (fun hc => ?_) (fun hc => ?_)
      · have h := h.1 hc
        refine go_aload_n C 31 32 0 0 dX5_use_31 rfl rfl rfl ?_
        refine go_getR C 32 35 iw5 0 (lu0 ex) rfl 0 (by decide) k202_ rfl rfl dX5_use_32 rfl ?_
        refine go_iload_n C 35 36 1 1 dX5_use_35 rfl rfl rfl ?_
        refine go_iload_n C 36 37 2 2 dX5_use_36 rfl rfl rfl ?_
        refine go_iload_n C 37 38 3 3 dX5_use_37 rfl rfl rfl ?_
        refine go_vvN C 38 41 0 0 [.int a1, .int a2, .int a3] 1 (lu1 ex) rfl (c_X4_putUnitsByUser _ _ _ _  h) n271_ k274_ k51_ k273_ k6_ qX4_putUnitsByUser mhX4_putUnitsByUser (by decide) (by decide) rfl rfl rfl rfl (Nat.le_of_ble_eq_true rfl) rfl rfl dX5_use_38 (fun S7 h => ?_)
        refine go_iconst C 41 42 (1) dX5_use_41 (by decide) rfl ?_
        exact go_zret C 42 (by decide) rfl dX5_use_42 h
      · have h := h.2 hc
        refine go_iconst C 29 30 (0) dX5_use_29 (by decide) rfl ?_
        exact go_zret C 30 (by decide) rfl dX5_use_30 h
-- BillHouse.feed(III)Z
theorem qX5_feed : (parseMethodDescriptor yX5_feed.desc).map (fun d => d.parameters.length) = some 3 := by decide +kernel
theorem mhX5_feed : yX5_feed.cls ≠ "java/lang/invoke/MethodHandle" ∧ yX5_feed.cls ≠ "java/lang/invoke/VarHandle" := by decide +kernel
def rX5_feed : Room := { frames := 4, cells := 0, slots := 0, locals := 92 }
def wp_X5_feed (S : St) (a1 : Int32) (a2 : Int32) (a3 : Int32) (post : Int32 → St → Prop) : Prop :=
  wp_X4_has S a1 (fun (r2 : Int32) (S1 : St) => (r2 = 0 → post (0 : Int32) S1) ∧ (¬ (r2 = 0) → wp_X4_has S1 a2 (fun (r4 : Int32) (S3 : St) => (r4 = 0 → post (0 : Int32) S3) ∧ (¬ (r4 = 0) → (a1 = a2 → post (0 : Int32) S3) ∧ (¬ (a1 = a2) → wp_X5_areUnits S3 a3 (fun (r6 : Int32) (S5 : St) => (¬ r6 = 0 → wp_X4_putUnitsByWork S5 a1 a2 a3 (fun (S7 : St) => post (1 : Int32) S7)) ∧ (r6 = 0 → post (0 : Int32) S5)))))))
set_option maxHeartbeats 4000000 in
set_option maxRecDepth 100000 in
theorem c_X5_feed {l : Launch} {D : va_G} {cA : Nat → ClassId} {ad : Nat → Nat} {ex : List Lay} (S : St) (a1 : Int32) (a2 : Int32) (a3 : Int32)  {post : Int32 → St → Prop} (h : wp_X5_feed S a1 a2 a3 post) : MetI l yX5_feed cX5_feed 4 (some .boolean) rX5_feed D cA ad (LU ++ ex) [.ref (ad 0), .int a1, .int a2, .int a3] S post 0 0 := by
  refine MetI.of (by decide) (Nat.le_of_ble_eq_true rfl) ?_
  intro p e s m args below meth c C
  unfold wp_X5_feed at h
  show Go p l e rX5_feed s m args below meth c D cA ad (LU ++ ex) 4 0 0 _ S 0 [(0, .ref (ad 0)), (1, .int a1), (2, .int a2), (3, .int a3)] []
  replace C : Cx p s m args meth c cX5_feed 4 (some .boolean) RX5 D cA ad (LU ++ ex) := C
  refine go_aload_n C 0 1 0 0 dX5_feed_0 rfl rfl rfl ?_
  refine go_getR C 1 4 iw5 0 (lu0 ex) rfl 0 (by decide) k202_ rfl rfl dX5_feed_1 rfl ?_
  refine go_iload_n C 4 5 1 1 dX5_feed_4 rfl rfl rfl ?_
  refine go_viN C 5 8 0 0 [.int a1] 1 (lu1 ex) rfl (c_X4_has _ _  h) n255_ k258_ k51_ k257_ k4_ qX4_has mhX4_has (by decide) (by decide) rfl rfl rfl rfl (Nat.le_of_ble_eq_true rfl) rfl rfl dX5_feed_5 (fun r2 S1 h => ?_)
  refine go_if_eq C 8 11 34 dX5_feed_8 (by decide) rfl (fun hc => ?_) (fun hc => ?_)
  · have h := h.1 hc
    refine go_iconst C 34 35 (0) dX5_feed_34 (by decide) rfl ?_
    exact go_zret C 35 (by decide) rfl dX5_feed_35 h
  · have h := h.2 hc
    refine go_aload_n C 11 12 0 0 dX5_feed_11 rfl rfl rfl ?_
    refine go_getR C 12 15 iw5 0 (lu0 ex) rfl 0 (by decide) k202_ rfl rfl dX5_feed_12 rfl ?_
    refine go_iload_n C 15 16 2 2 dX5_feed_15 rfl rfl rfl ?_
    refine go_viN C 16 19 0 0 [.int a2] 1 (lu1 ex) rfl (c_X4_has _ _  h) n255_ k258_ k51_ k257_ k4_ qX4_has mhX4_has (by decide) (by decide) rfl rfl rfl rfl (Nat.le_of_ble_eq_true rfl) rfl rfl dX5_feed_16 (fun r4 S3 h => ?_)
    refine go_if_eq C 19 22 34 dX5_feed_19 (by decide) rfl (fun hc => ?_) (fun hc => ?_)
    · have h := h.1 hc
      refine go_iconst C 34 35 (0) dX5_feed_34 (by decide) rfl ?_
      exact go_zret C 35 (by decide) rfl dX5_feed_35 h
    · have h := h.2 hc
      refine go_iload_n C 22 23 1 1 dX5_feed_22 rfl rfl rfl ?_
      refine go_iload_n C 23 24 2 2 dX5_feed_23 rfl rfl rfl ?_
      refine go_icmp_eq C 24 27 34 dX5_feed_24 (by decide) rfl (fun hc => ?_) (fun hc => ?_)
      · have h := h.1 hc
        refine go_iconst C 34 35 (0) dX5_feed_34 (by decide) rfl ?_
        exact go_zret C 35 (by decide) rfl dX5_feed_35 h
      · have h := h.2 hc
        refine go_iload_n C 27 28 3 3 dX5_feed_27 rfl rfl rfl ?_
        refine go_si C 28 31 0 0 [.int a3] (c_X5_areUnits _ _  h) k268_ k270_ k50_ k269_ qX5_areUnits mhX5_areUnits (by decide) (by decide) rfl rfl rfl rfl (Nat.le_of_ble_eq_true rfl) rfl rfl dX5_feed_28 (fun r6 S5 h => ?_)
        refine go_if_ne C 31 34 36 dX5_feed_31 (by decide) rfl (fun hc => ?_) (fun hc => ?_)
        · have h := h.1 hc
          refine go_aload_n C 36 37 0 0 dX5_feed_36 rfl rfl rfl ?_
          refine go_getR C 37 40 iw5 0 (lu0 ex) rfl 0 (by decide) k202_ rfl rfl dX5_feed_37 rfl ?_
          refine go_iload_n C 40 41 1 1 dX5_feed_40 rfl rfl rfl ?_
          refine go_iload_n C 41 42 2 2 dX5_feed_41 rfl rfl rfl ?_
          refine go_iload_n C 42 43 3 3 dX5_feed_42 rfl rfl rfl ?_
          refine go_vvN C 43 46 0 0 [.int a1, .int a2, .int a3] 1 (lu1 ex) rfl (c_X4_putUnitsByWork _ _ _ _  h) n294_ k297_ k51_ k296_ k10_ qX4_putUnitsByWork mhX4_putUnitsByWork (by decide) (by decide) rfl rfl rfl rfl (Nat.le_of_ble_eq_true rfl) rfl rfl dX5_feed_43 (fun S7 h => ?_)
          refine go_iconst C 46 47 (1) dX5_feed_46 (by decide) rfl ?_
          exact go_zret C 47 (by decide) rfl dX5_feed_47 h
        · have h := h.2 hc
          refine go_iconst C 34 35 (0) dX5_feed_34 (by decide) rfl ?_
          exact go_zret C 35 (by decide) rfl dX5_feed_35 h
-- BillHouse.set(IZ)Z
theorem qX5_set : (parseMethodDescriptor yX5_set.desc).map (fun d => d.parameters.length) = some 2 := by decide +kernel
theorem mhX5_set : yX5_set.cls ≠ "java/lang/invoke/MethodHandle" ∧ yX5_set.cls ≠ "java/lang/invoke/VarHandle" := by decide +kernel
def rX5_set : Room := { frames := 2, cells := 0, slots := 0, locals := 42 }
def wp_X5_set (S : St) (a1 : Int32) (a2 : Int32) (post : Int32 → St → Prop) : Prop :=
  wp_X3_has S a1 (fun (r2 : Int32) (S1 : St) => (r2 = 0 → post (0 : Int32) S1) ∧ (¬ (r2 = 0) → wp_X3_isThere S1 a1 (fun (r4 : Int32) (S3 : St) => (¬ r4 = a2 → wp_X3_turn S3 a1 (fun (S5 : St) => post (1 : Int32) S5)) ∧ (r4 = a2 → post (0 : Int32) S3))))
set_option maxHeartbeats 4000000 in
set_option maxRecDepth 100000 in
theorem c_X5_set {l : Launch} {D : va_G} {cA : Nat → ClassId} {ad : Nat → Nat} {ex : List Lay} (S : St) (a1 : Int32) (a2 : Int32)  {post : Int32 → St → Prop} (h : wp_X5_set S a1 a2 post) : MetI l yX5_set cX5_set 3 (some .boolean) rX5_set D cA ad (LU ++ ex) [.ref (ad 0), .int a1, .int a2] S post 0 0 := by
  refine MetI.of (by decide) (Nat.le_of_ble_eq_true rfl) ?_
  intro p e s m args below meth c C
  unfold wp_X5_set at h
  show Go p l e rX5_set s m args below meth c D cA ad (LU ++ ex) 3 0 0 _ S 0 [(0, .ref (ad 0)), (1, .int a1), (2, .int a2)] []
  replace C : Cx p s m args meth c cX5_set 3 (some .boolean) RX5 D cA ad (LU ++ ex) := C
  refine go_aload_n C 0 1 0 0 dX5_set_0 rfl rfl rfl ?_
  refine go_getR C 1 4 iw5 0 (lu0 ex) rfl 1 (by decide) k203_ rfl rfl dX5_set_1 rfl ?_
  refine go_iload_n C 4 5 1 1 dX5_set_4 rfl rfl rfl ?_
  refine go_viN C 5 8 0 0 [.int a1] 2 (lu2 ex) rfl (c_X3_has _ _  h) n264_ k267_ k53_ k266_ k5_ qX3_has mhX3_has (by decide) (by decide) rfl rfl rfl rfl (Nat.le_of_ble_eq_true rfl) rfl rfl dX5_set_5 (fun r2 S1 h => ?_)
  refine go_if_eq C 8 11 23 dX5_set_8 (by decide) rfl (fun hc => ?_) (fun hc => ?_)
  · have h := h.1 hc
    refine go_iconst C 23 24 (0) dX5_set_23 (by decide) rfl ?_
    exact go_zret C 24 (by decide) rfl dX5_set_24 h
  · have h := h.2 hc
    refine go_aload_n C 11 12 0 0 dX5_set_11 rfl rfl rfl ?_
    refine go_getR C 12 15 iw5 0 (lu0 ex) rfl 1 (by decide) k203_ rfl rfl dX5_set_12 rfl ?_
    refine go_iload_n C 15 16 1 1 dX5_set_15 rfl rfl rfl ?_
    refine go_viN C 16 19 0 0 [.int a1] 2 (lu2 ex) rfl (c_X3_isThere _ _  h) n302_ k305_ k53_ k304_ k11_ qX3_isThere mhX3_isThere (by decide) (by decide) rfl rfl rfl rfl (Nat.le_of_ble_eq_true rfl) rfl rfl dX5_set_16 (fun r4 S3 h => ?_)
    refine go_iload_n C 19 20 2 2 dX5_set_19 rfl rfl rfl ?_
    refine go_icmp_ne C 20 23 25 dX5_set_20 (by decide) rfl (fun hc => ?_) (fun hc => ?_)
    · have h := h.1 hc
      refine go_aload_n C 25 26 0 0 dX5_set_25 rfl rfl rfl ?_
      refine go_getR C 26 29 iw5 0 (lu0 ex) rfl 1 (by decide) k203_ rfl rfl dX5_set_26 rfl ?_
      refine go_iload_n C 29 30 1 1 dX5_set_29 rfl rfl rfl ?_
      refine go_vvN C 30 33 0 0 [.int a1] 2 (lu2 ex) rfl (c_X3_turn _ _  h) n308_ k250_ k53_ k249_ k3_ qX3_turn mhX3_turn (by decide) (by decide) rfl rfl rfl rfl (Nat.le_of_ble_eq_true rfl) rfl rfl dX5_set_30 (fun S5 h => ?_)
      refine go_iconst C 33 34 (1) dX5_set_33 (by decide) rfl ?_
      exact go_zret C 34 (by decide) rfl dX5_set_34 h
    · have h := h.2 hc
      refine go_iconst C 23 24 (0) dX5_set_23 (by decide) rfl ?_
      exact go_zret C 24 (by decide) rfl dX5_set_24 h
-- BillHouse.mark(II)I
theorem qX5_mark : (parseMethodDescriptor yX5_mark.desc).map (fun d => d.parameters.length) = some 2 := by decide +kernel
theorem mhX5_mark : yX5_mark.cls ≠ "java/lang/invoke/MethodHandle" ∧ yX5_mark.cls ≠ "java/lang/invoke/VarHandle" := by decide +kernel
def rX5_mark : Room := { frames := 1, cells := 0, slots := 0, locals := 21 }
def wp_X5_mark (S : St) (a1 : Int32) (a2 : Int32) (post : Int32 → St → Prop) : Prop :=
  wp_X3_has S a1 (fun (r2 : Int32) (S1 : St) => (¬ r2 = 0 → (vp_in a1 8) ∧ (∀ x4 : Int64, x4 = (((S1.1 14 a1.toNatClampNeg).toInt64) + a2.toInt64) → (x4 < (-10000 : Int64) → post (-20000 : Int32) S1) ∧ (¬ (x4 < (-10000 : Int64)) → (x4 ≤ (10000 : Int64) → (vp_in a1 8) ∧ (∀ S6 : St, S6 = uI S1 14 a1.toNatClampNeg x4.toInt32 → (vp_in a1 8) ∧ (post (S6.1 14 a1.toNatClampNeg) S6))) ∧ (¬ (x4 ≤ (10000 : Int64)) → post (-20000 : Int32) S1)))) ∧ (r2 = 0 → post (-20000 : Int32) S1))
set_option maxHeartbeats 4000000 in
set_option maxRecDepth 100000 in
theorem c_X5_mark {l : Launch} {D : va_G} {cA : Nat → ClassId} {ad : Nat → Nat} {ex : List Lay} (S : St) (a1 : Int32) (a2 : Int32)  {post : Int32 → St → Prop} (h : wp_X5_mark S a1 a2 post) : MetI l yX5_mark cX5_mark 5 (some .int) rX5_mark D cA ad (LU ++ ex) [.ref (ad 0), .int a1, .int a2] S post 0 0 := by
  refine MetI.of (by decide) (Nat.le_of_ble_eq_true rfl) ?_
  intro p e s m args below meth c C
  unfold wp_X5_mark at h
  show Go p l e rX5_mark s m args below meth c D cA ad (LU ++ ex) 5 0 0 _ S 0 [(0, .ref (ad 0)), (1, .int a1), (2, .int a2)] []
  replace C : Cx p s m args meth c cX5_mark 5 (some .int) RX5 D cA ad (LU ++ ex) := C
  refine go_aload_n C 0 1 0 0 dX5_mark_0 rfl rfl rfl ?_
  refine go_getR C 1 4 iw5 0 (lu0 ex) rfl 1 (by decide) k203_ rfl rfl dX5_mark_1 rfl ?_
  refine go_iload_n C 4 5 1 1 dX5_mark_4 rfl rfl rfl ?_
  refine go_viN C 5 8 0 0 [.int a1] 2 (lu2 ex) rfl (c_X3_has _ _  h) n264_ k267_ k53_ k266_ k5_ qX3_has mhX3_has (by decide) (by decide) rfl rfl rfl rfl (Nat.le_of_ble_eq_true rfl) rfl rfl dX5_mark_5 (fun r2 S1 h => ?_)
  refine go_if_ne C 8 11 15 dX5_mark_8 (by decide) rfl (fun hc => ?_) (fun hc => ?_)
  · have h := h.1 hc
    refine go_aload_n C 15 16 0 0 dX5_mark_15 rfl rfl rfl ?_
    refine go_getR C 16 19 iw5 0 (lu0 ex) rfl 1 (by decide) k203_ rfl rfl dX5_mark_16 rfl ?_
    refine go_getRN C 19 22 iw3 2 (lu2 ex) rfl 2 (by decide) n116_ rfl rfl dX5_mark_19 rfl ?_
    refine go_iload_n C 22 23 1 1 dX5_mark_22 rfl rfl rfl ?_
    obtain ⟨hi3, h⟩ := h
    refine go_iald C 23 24 14 (lu14 ex) hi3 dX5_mark_23 rfl ?_
    refine go_i2l C 24 25 dX5_mark_24 rfl ?_
    refine go_iload_n C 25 26 2 2 dX5_mark_25 rfl rfl rfl ?_
    refine go_i2l C 26 27 dX5_mark_26 rfl ?_
    refine go_ladd C 27 28 dX5_mark_27 rfl ?_
    refine go_topl (fun x4 hx4 => ?_)
    replace h := h x4 hx4
    refine go_lstore_n C 28 29 3 [(3, .long _), (0, .ref _), (1, .int _), (2, .int _)] dX5_mark_28 rfl (by decide) rfl rfl ?_
    refine go_lload_n C 29 30 3 0 dX5_mark_29 rfl rfl rfl ?_
    refine go_ldc2 C 30 33 k313_ dX5_mark_30 rfl ?_
    refine go_lcmp_lt C 33 37 45 dX5_mark_33 dX5_mark_34 (by decide) rfl (fun hc => ?_) (fun hc => ?_)
    · have h := h.1 hc
      refine go_sipush C 45 48 (-20000) dX5_mark_45 (by decide) rfl ?_
      exact go_iret C 48 rfl dX5_mark_48 h
    · have h := h.2 hc
      refine go_lload_n C 37 38 3 0 dX5_mark_37 rfl rfl rfl ?_
      refine go_ldc2 C 38 41 k314_ dX5_mark_38 rfl ?_
      refine go_lcmp_le C 41 45 49 dX5_mark_41 dX5_mark_42 (by decide) rfl (fun hc => ?_) (fun hc => ?_)
      · have h := h.1 hc
        refine go_aload_n C 49 50 0 1 dX5_mark_49 rfl rfl rfl ?_
        refine go_getR C 50 53 iw5 0 (lu0 ex) rfl 1 (by decide) k203_ rfl rfl dX5_mark_50 rfl ?_
        refine go_getRN C 53 56 iw3 2 (lu2 ex) rfl 2 (by decide) n116_ rfl rfl dX5_mark_53 rfl ?_
        refine go_iload_n C 56 57 1 2 dX5_mark_56 rfl rfl rfl ?_
        refine go_lload_n C 57 58 3 0 dX5_mark_57 rfl rfl rfl ?_
        refine go_l2i C 58 59 dX5_mark_58 rfl ?_
        obtain ⟨hi5, h⟩ := h
        refine go_iast C 59 60 14 (lu14 ex) hi5 dX5_mark_59 rfl ?_
        refine go_nm (fun S6 hS6 => ?_)
        replace h := h S6 hS6
        refine go_aload_n C 60 61 0 1 dX5_mark_60 rfl rfl rfl ?_
        refine go_getR C 61 64 iw5 0 (lu0 ex) rfl 1 (by decide) k203_ rfl rfl dX5_mark_61 rfl ?_
        refine go_getRN C 64 67 iw3 2 (lu2 ex) rfl 2 (by decide) n116_ rfl rfl dX5_mark_64 rfl ?_
        refine go_iload_n C 67 68 1 2 dX5_mark_67 rfl rfl rfl ?_
        obtain ⟨hi7, h⟩ := h
        refine go_iald C 68 69 14 (lu14 ex) hi7 dX5_mark_68 rfl ?_
        exact go_iret C 69 rfl dX5_mark_69 h
      · have h := h.2 hc
        refine go_sipush C 45 48 (-20000) dX5_mark_45 (by decide) rfl ?_
        exact go_iret C 48 rfl dX5_mark_48 h
  · have h := h.2 hc
    refine go_sipush C 11 14 (-20000) dX5_mark_11 (by decide) rfl ?_
    exact go_iret C 14 rfl dX5_mark_14 h
-- BillHouse.needed()I
theorem qX5_needed : (parseMethodDescriptor yX5_needed.desc).map (fun d => d.parameters.length) = some 0 := by decide +kernel
theorem mhX5_needed : yX5_needed.cls ≠ "java/lang/invoke/MethodHandle" ∧ yX5_needed.cls ≠ "java/lang/invoke/VarHandle" := by decide +kernel
def rX5_needed : Room := { frames := 2, cells := 0, slots := 0, locals := 44 }
def wp_X5_needed (S : St) (post : Int32 → St → Prop) : Prop :=
  wp_X4_neededBy S (S.1 2 1) (fun (r2 : Int32) (S1 : St) => post r2 S1)
set_option maxHeartbeats 4000000 in
set_option maxRecDepth 100000 in
theorem c_X5_needed {l : Launch} {D : va_G} {cA : Nat → ClassId} {ad : Nat → Nat} {ex : List Lay} (S : St)  {post : Int32 → St → Prop} (h : wp_X5_needed S post) : MetI l yX5_needed cX5_needed 1 (some .int) rX5_needed D cA ad (LU ++ ex) [.ref (ad 0)] S post 0 0 := by
  refine MetI.of (by decide) (Nat.le_of_ble_eq_true rfl) ?_
  intro p e s m args below meth c C
  unfold wp_X5_needed at h
  show Go p l e rX5_needed s m args below meth c D cA ad (LU ++ ex) 1 0 0 _ S 0 [(0, .ref (ad 0))] []
  replace C : Cx p s m args meth c cX5_needed 1 (some .int) RX5 D cA ad (LU ++ ex) := C
  refine go_aload_n C 0 1 0 0 dX5_needed_0 rfl rfl rfl ?_
  refine go_getR C 1 4 iw5 0 (lu0 ex) rfl 0 (by decide) k202_ rfl rfl dX5_needed_1 rfl ?_
  refine go_aload_n C 4 5 0 0 dX5_needed_4 rfl rfl rfl ?_
  refine go_getR C 5 8 iw5 0 (lu0 ex) rfl 1 (by decide) k203_ rfl rfl dX5_needed_5 rfl ?_
  refine go_getIN C 8 11 iw3 2 (lu2 ex) rfl 1 (by decide) n114_ rfl rfl dX5_needed_8 rfl ?_
  refine go_viN C 11 14 0 0 [.int (S.1 2 1)] 1 (lu1 ex) rfl (c_X4_neededBy _ _  h) n319_ k322_ k51_ k321_ k12_ qX4_neededBy mhX4_neededBy (by decide) (by decide) rfl rfl rfl rfl (Nat.le_of_ble_eq_true rfl) rfl rfl dX5_needed_11 (fun r2 S1 h => ?_)
  exact go_iret C 14 rfl dX5_needed_14 h
-- BillHouse.idle()I
theorem qX5_idle : (parseMethodDescriptor yX5_idle.desc).map (fun d => d.parameters.length) = some 0 := by decide +kernel
theorem mhX5_idle : yX5_idle.cls ≠ "java/lang/invoke/MethodHandle" ∧ yX5_idle.cls ≠ "java/lang/invoke/VarHandle" := by decide +kernel
def rX5_idle : Room := { frames := 3, cells := 0, slots := 0, locals := 70 }
def wp_X5_idle (S : St) (post : Int32 → St → Prop) : Prop :=
  wp_X4_onRings S (fun (r2 : Int32) (S1 : St) => wp_X4_neededBy S1 (S1.1 2 1) (fun (r4 : Int32) (S3 : St) => post (r2 &&& (r4 ^^^ (-1 : Int32))) S3))
set_option maxHeartbeats 4000000 in
set_option maxRecDepth 100000 in
theorem c_X5_idle {l : Launch} {D : va_G} {cA : Nat → ClassId} {ad : Nat → Nat} {ex : List Lay} (S : St)  {post : Int32 → St → Prop} (h : wp_X5_idle S post) : MetI l yX5_idle cX5_idle 1 (some .int) rX5_idle D cA ad (LU ++ ex) [.ref (ad 0)] S post 0 0 := by
  refine MetI.of (by decide) (Nat.le_of_ble_eq_true rfl) ?_
  intro p e s m args below meth c C
  unfold wp_X5_idle at h
  show Go p l e rX5_idle s m args below meth c D cA ad (LU ++ ex) 1 0 0 _ S 0 [(0, .ref (ad 0))] []
  replace C : Cx p s m args meth c cX5_idle 1 (some .int) RX5 D cA ad (LU ++ ex) := C
  refine go_aload_n C 0 1 0 0 dX5_idle_0 rfl rfl rfl ?_
  refine go_getR C 1 4 iw5 0 (lu0 ex) rfl 0 (by decide) k202_ rfl rfl dX5_idle_1 rfl ?_
  refine go_viN C 4 7 0 0 [] 1 (lu1 ex) rfl (c_X4_onRings _  h) n327_ k330_ k51_ k329_ k13_ qX4_onRings mhX4_onRings (by decide) (by decide) rfl rfl rfl rfl (Nat.le_of_ble_eq_true rfl) rfl rfl dX5_idle_4 (fun r2 S1 h => ?_)
  refine go_aload_n C 7 8 0 0 dX5_idle_7 rfl rfl rfl ?_
  refine go_getR C 8 11 iw5 0 (lu0 ex) rfl 0 (by decide) k202_ rfl rfl dX5_idle_8 rfl ?_
  refine go_aload_n C 11 12 0 0 dX5_idle_11 rfl rfl rfl ?_
  refine go_getR C 12 15 iw5 0 (lu0 ex) rfl 1 (by decide) k203_ rfl rfl dX5_idle_12 rfl ?_
  refine go_getIN C 15 18 iw3 2 (lu2 ex) rfl 1 (by decide) n114_ rfl rfl dX5_idle_15 rfl ?_
  refine go_viN C 18 21 0 0 [.int (S1.1 2 1)] 1 (lu1 ex) rfl (c_X4_neededBy _ _  h) n319_ k322_ k51_ k321_ k12_ qX4_neededBy mhX4_neededBy (by decide) (by decide) rfl rfl rfl rfl (Nat.le_of_ble_eq_true rfl) rfl rfl dX5_idle_18 (fun r4 S3 h => ?_)
  refine go_iconst C 21 22 (-1) dX5_idle_21 (by decide) rfl ?_
  refine go_ixor C 22 23 dX5_idle_22 rfl ?_
  refine go_iand C 23 24 dX5_idle_23 rfl ?_
  exact go_iret C 24 rfl dX5_idle_24 h
-- BillHouse.total(I)I
theorem qX5_total : (parseMethodDescriptor yX5_total.desc).map (fun d => d.parameters.length) = some 1 := by decide +kernel
theorem mhX5_total : yX5_total.cls ≠ "java/lang/invoke/MethodHandle" ∧ yX5_total.cls ≠ "java/lang/invoke/VarHandle" := by decide +kernel
def rX5_total : Room := { frames := 3, cells := 0, slots := 0, locals := 65 }
def wp_X5_total (S : St) (a1 : Int32) (post : Int32 → St → Prop) : Prop :=
  wp_X5_isNeededNow S a1 (fun (r2 : Int32) (S1 : St) => (¬ r2 = 0 → wp_X4_neededBy S1 (S1.1 2 1) (fun (r4 : Int32) (S3 : St) => wp_X4_unitsOf S3 a1 (S1.1 2 1) r4 (fun (r6 : Int32) (S5 : St) => post r6 S5))) ∧ (r2 = 0 → post (-1 : Int32) S1))
set_option maxHeartbeats 4000000 in
set_option maxRecDepth 100000 in
theorem c_X5_total {l : Launch} {D : va_G} {cA : Nat → ClassId} {ad : Nat → Nat} {ex : List Lay} (S : St) (a1 : Int32)  {post : Int32 → St → Prop} (h : wp_X5_total S a1 post) : MetI l yX5_total cX5_total 2 (some .int) rX5_total D cA ad (LU ++ ex) [.ref (ad 0), .int a1] S post 0 0 := by
  refine MetI.of (by decide) (Nat.le_of_ble_eq_true rfl) ?_
  intro p e s m args below meth c C
  unfold wp_X5_total at h
  show Go p l e rX5_total s m args below meth c D cA ad (LU ++ ex) 2 0 0 _ S 0 [(0, .ref (ad 0)), (1, .int a1)] []
  replace C : Cx p s m args meth c cX5_total 2 (some .int) RX5 D cA ad (LU ++ ex) := C
  refine go_aload_n C 0 1 0 0 dX5_total_0 rfl rfl rfl ?_
  refine go_iload_n C 1 2 1 1 dX5_total_1 rfl rfl rfl ?_
  refine go_vi C 2 5 0 0 [.int a1] 0 (lu0 ex) rfl (c_X5_isNeededNow _ _  h) k335_ k338_ k50_ k337_ k14_ qX5_isNeededNow mhX5_isNeededNow (by decide) (by decide) rfl rfl rfl rfl (Nat.le_of_ble_eq_true rfl) rfl rfl dX5_total_2 (fun r2 S1 h => ?_)
  refine go_if_ne C 5 8 10 dX5_total_5 (by decide) rfl (fun hc => ?_) (fun hc => ?_)
  · have h := h.1 hc
    refine go_aload_n C 10 11 0 0 dX5_total_10 rfl rfl rfl ?_
    refine go_getR C 11 14 iw5 0 (lu0 ex) rfl 0 (by decide) k202_ rfl rfl dX5_total_11 rfl ?_
    refine go_iload_n C 14 15 1 1 dX5_total_14 rfl rfl rfl ?_
    refine go_aload_n C 15 16 0 0 dX5_total_15 rfl rfl rfl ?_
    refine go_getR C 16 19 iw5 0 (lu0 ex) rfl 1 (by decide) k203_ rfl rfl dX5_total_16 rfl ?_
    refine go_getIN C 19 22 iw3 2 (lu2 ex) rfl 1 (by decide) n114_ rfl rfl dX5_total_19 rfl ?_
    refine go_aload_n C 22 23 0 0 dX5_total_22 rfl rfl rfl ?_
    refine go_getR C 23 26 iw5 0 (lu0 ex) rfl 0 (by decide) k202_ rfl rfl dX5_total_23 rfl ?_
    refine go_aload_n C 26 27 0 0 dX5_total_26 rfl rfl rfl ?_
    refine go_getR C 27 30 iw5 0 (lu0 ex) rfl 1 (by decide) k203_ rfl rfl dX5_total_27 rfl ?_
    refine go_getIN C 30 33 iw3 2 (lu2 ex) rfl 1 (by decide) n114_ rfl rfl dX5_total_30 rfl ?_
    refine go_viN C 33 36 0 0 [.int (S1.1 2 1)] 1 (lu1 ex) rfl (c_X4_neededBy _ _  h) n319_ k322_ k51_ k321_ k12_ qX4_neededBy mhX4_neededBy (by decide) (by decide) rfl rfl rfl rfl (Nat.le_of_ble_eq_true rfl) rfl rfl dX5_total_33 (fun r4 S3 h => ?_)
    refine go_viN C 36 39 0 0 [.int a1, .int (S1.1 2 1), .int r4] 1 (lu1 ex) rfl (c_X4_unitsOf _ _ _ _  h) n340_ k343_ k51_ k342_ k15_ qX4_unitsOf mhX4_unitsOf (by decide) (by decide) rfl rfl rfl rfl (Nat.le_of_ble_eq_true rfl) rfl rfl dX5_total_36 (fun r6 S5 h => ?_)
    exact go_iret C 39 rfl dX5_total_39 h
  · have h := h.2 hc
    refine go_iconst C 8 9 (-1) dX5_total_8 (by decide) rfl ?_
    exact go_iret C 9 rfl dX5_total_9 h
-- BillHouse.cost(I)I
theorem qX5_cost : (parseMethodDescriptor yX5_cost.desc).map (fun d => d.parameters.length) = some 1 := by decide +kernel
theorem mhX5_cost : yX5_cost.cls ≠ "java/lang/invoke/MethodHandle" ∧ yX5_cost.cls ≠ "java/lang/invoke/VarHandle" := by decide +kernel
def rX5_cost : Room := { frames := 3, cells := 0, slots := 0, locals := 70 }
def wp_X5_cost (S : St) (a1 : Int32) (post : Int32 → St → Prop) : Prop :=
  wp_X3_all S (fun (r2 : Int32) (S1 : St) => ((a1 &&& (r2 ^^^ (-1 : Int32))) = 0 → wp_X4_costOf S1 a1 (fun (r4 : Int32) (S3 : St) => post r4 S3)) ∧ (¬ ((a1 &&& (r2 ^^^ (-1 : Int32))) = 0) → post (-1 : Int32) S1))
set_option maxHeartbeats 4000000 in
set_option maxRecDepth 100000 in
theorem c_X5_cost {l : Launch} {D : va_G} {cA : Nat → ClassId} {ad : Nat → Nat} {ex : List Lay} (S : St) (a1 : Int32)  {post : Int32 → St → Prop} (h : wp_X5_cost S a1 post) : MetI l yX5_cost cX5_cost 2 (some .int) rX5_cost D cA ad (LU ++ ex) [.ref (ad 0), .int a1] S post 0 0 := by
  refine MetI.of (by decide) (Nat.le_of_ble_eq_true rfl) ?_
  intro p e s m args below meth c C
  unfold wp_X5_cost at h
  show Go p l e rX5_cost s m args below meth c D cA ad (LU ++ ex) 2 0 0 _ S 0 [(0, .ref (ad 0)), (1, .int a1)] []
  replace C : Cx p s m args meth c cX5_cost 2 (some .int) RX5 D cA ad (LU ++ ex) := C
  refine go_iload_n C 0 1 1 1 dX5_cost_0 rfl rfl rfl ?_
  refine go_aload_n C 1 2 0 0 dX5_cost_1 rfl rfl rfl ?_
  refine go_getR C 2 5 iw5 0 (lu0 ex) rfl 1 (by decide) k203_ rfl rfl dX5_cost_2 rfl ?_
  refine go_viN C 5 8 0 0 [] 2 (lu2 ex) rfl (c_X3_all _  h) n348_ k351_ k53_ k350_ k16_ qX3_all mhX3_all (by decide) (by decide) rfl rfl rfl rfl (Nat.le_of_ble_eq_true rfl) rfl rfl dX5_cost_5 (fun r2 S1 h => ?_)
  refine go_iconst C 8 9 (-1) dX5_cost_8 (by decide) rfl ?_
  refine go_ixor C 9 10 dX5_cost_9 rfl ?_
  refine go_iand C 10 11 dX5_cost_10 rfl ?_
  refine go_if_eq C 11 14 16 dX5_cost_11 (by decide) rfl (fun hc => ?_) (fun hc => ?_)
  · have h := h.1 hc
    refine go_aload_n C 16 17 0 0 dX5_cost_16 rfl rfl rfl ?_
    refine go_getR C 17 20 iw5 0 (lu0 ex) rfl 0 (by decide) k202_ rfl rfl dX5_cost_17 rfl ?_
    refine go_iload_n C 20 21 1 1 dX5_cost_20 rfl rfl rfl ?_
    refine go_viN C 21 24 0 0 [.int a1] 1 (lu1 ex) rfl (c_X4_costOf _ _  h) n352_ k355_ k51_ k354_ k17_ qX4_costOf mhX4_costOf (by decide) (by decide) rfl rfl rfl rfl (Nat.le_of_ble_eq_true rfl) rfl rfl dX5_cost_21 (fun r4 S3 h => ?_)
    exact go_iret C 24 rfl dX5_cost_24 h
  · have h := h.2 hc
    refine go_iconst C 14 15 (-1) dX5_cost_14 (by decide) rfl ?_
    exact go_iret C 15 rfl dX5_cost_15 h
-- BillHouse.price(II)J
theorem qX5_price : (parseMethodDescriptor yX5_price.desc).map (fun d => d.parameters.length) = some 2 := by decide +kernel
theorem mhX5_price : yX5_price.cls ≠ "java/lang/invoke/MethodHandle" ∧ yX5_price.cls ≠ "java/lang/invoke/VarHandle" := by decide +kernel
def rX5_price : Room := { frames := 4, cells := 0, slots := 0, locals := 98 }
def wp_X5_price (S : St) (a1 : Int32) (a2 : Int32) (post : Int64 → St → Prop) : Prop :=
  wp_X5_isNeededNow S a1 (fun (r2 : Int32) (S1 : St) => (r2 = 0 → post (-1000000000000 : Int64) S1) ∧ (¬ (r2 = 0) → wp_X5_isPart S1 a2 (fun (r4 : Int32) (S3 : St) => (¬ r4 = 0 → wp_X1_solve S3 (S3.1 2 1) (fun (S5 : St) => (vp_in a1 6) ∧ (wp_X5_partOfFraction S5 (S5.2 15 a1.toNatClampNeg) (S5.2 3 1) a2 (fun (r9 : Int64) (S8 : St) => post r9 S8)))) ∧ (r4 = 0 → post (-1000000000000 : Int64) S3))))
set_option maxHeartbeats 4000000 in
set_option maxRecDepth 100000 in
theorem c_X5_price {l : Launch} {D : va_G} {cA : Nat → ClassId} {ad : Nat → Nat} {ex : List Lay} (S : St) (a1 : Int32) (a2 : Int32)  {post : Int64 → St → Prop} (h : wp_X5_price S a1 a2 post) : MetL l yX5_price cX5_price 3 (some .long) rX5_price D cA ad (LU ++ ex) [.ref (ad 0), .int a1, .int a2] S post 0 0 := by
  refine MetL.of (by decide) (Nat.le_of_ble_eq_true rfl) ?_
  intro p e s m args below meth c C
  unfold wp_X5_price at h
  show Go p l e rX5_price s m args below meth c D cA ad (LU ++ ex) 3 0 0 _ S 0 [(0, .ref (ad 0)), (1, .int a1), (2, .int a2)] []
  replace C : Cx p s m args meth c cX5_price 3 (some .long) RX5 D cA ad (LU ++ ex) := C
  refine go_aload_n C 0 1 0 0 dX5_price_0 rfl rfl rfl ?_
  refine go_iload_n C 1 2 1 1 dX5_price_1 rfl rfl rfl ?_
  refine go_vi C 2 5 0 0 [.int a1] 0 (lu0 ex) rfl (c_X5_isNeededNow _ _  h) k335_ k338_ k50_ k337_ k14_ qX5_isNeededNow mhX5_isNeededNow (by decide) (by decide) rfl rfl rfl rfl (Nat.le_of_ble_eq_true rfl) rfl rfl dX5_price_2 (fun r2 S1 h => ?_)
  refine go_if_eq C 5 8 15 dX5_price_5 (by decide) rfl (fun hc => ?_) (fun hc => ?_)
  · have h := h.1 hc
    refine go_ldc2 C 15 18 k369_ dX5_price_15 rfl ?_
    exact go_lret C 18 rfl dX5_price_18 h
  · have h := h.2 hc
    refine go_iload_n C 8 9 2 2 dX5_price_8 rfl rfl rfl ?_
    refine go_si C 9 12 0 0 [.int a2] (c_X5_isPart _ _  h) k366_ k368_ k50_ k367_ qX5_isPart mhX5_isPart (by decide) (by decide) rfl rfl rfl rfl (Nat.le_of_ble_eq_true rfl) rfl rfl dX5_price_9 (fun r4 S3 h => ?_)
    refine go_if_ne C 12 15 19 dX5_price_12 (by decide) rfl (fun hc => ?_) (fun hc => ?_)
    · have h := h.1 hc
      refine go_aload_n C 19 20 0 0 dX5_price_19 rfl rfl rfl ?_
      refine go_getR C 20 23 iw5 0 (lu0 ex) rfl 2 (by decide) k204_ rfl rfl dX5_price_20 rfl ?_
      refine go_aload_n C 23 24 0 0 dX5_price_23 rfl rfl rfl ?_
      refine go_getR C 24 27 iw5 0 (lu0 ex) rfl 0 (by decide) k202_ rfl rfl dX5_price_24 rfl ?_
      refine go_aload_n C 27 28 0 0 dX5_price_27 rfl rfl rfl ?_
      refine go_getR C 28 31 iw5 0 (lu0 ex) rfl 1 (by decide) k203_ rfl rfl dX5_price_28 rfl ?_
      refine go_getIN C 31 34 iw3 2 (lu2 ex) rfl 1 (by decide) n114_ rfl rfl dX5_price_31 rfl ?_
      refine go_vvN C 34 37 0 0 [.ref (ad 1), .int (S3.1 2 1)] 3 (lu3 ex) rfl (c_X1_solve _ _  h) n370_ k373_ k54_ k372_ k19_ qX1_solve mhX1_solve (by decide) (by decide) rfl rfl rfl rfl (Nat.le_of_ble_eq_true rfl) rfl rfl dX5_price_34 (fun S5 h => ?_)
      refine go_aload_n C 37 38 0 0 dX5_price_37 rfl rfl rfl ?_
      refine go_getR C 38 41 iw5 0 (lu0 ex) rfl 2 (by decide) k204_ rfl rfl dX5_price_38 rfl ?_
      refine go_getRN C 41 44 iw1 3 (lu3 ex) rfl 0 (by decide) n134_ rfl rfl dX5_price_41 rfl ?_
      refine go_iload_n C 44 45 1 1 dX5_price_44 rfl rfl rfl ?_
      obtain ⟨hi7, h⟩ := h
      refine go_lald C 45 46 15 (lu15 ex) hi7 dX5_price_45 rfl ?_
      refine go_aload_n C 46 47 0 0 dX5_price_46 rfl rfl rfl ?_
      refine go_getR C 47 50 iw5 0 (lu0 ex) rfl 2 (by decide) k204_ rfl rfl dX5_price_47 rfl ?_
      refine go_getJN C 50 53 iw1 3 (lu3 ex) rfl 1 (by decide) n137_ rfl rfl dX5_price_50 rfl ?_
      refine go_iload_n C 53 54 2 2 dX5_price_53 rfl rfl rfl ?_
      refine go_sl C 54 57 0 0 [.long (S5.2 15 a1.toNatClampNeg), .long (S5.2 3 1), .int a2] (c_X5_partOfFraction _ _ _ _  h) k403_ k405_ k50_ k404_ qX5_partOfFraction mhX5_partOfFraction (by decide) (by decide) rfl rfl rfl rfl (Nat.le_of_ble_eq_true rfl) rfl rfl dX5_price_54 (fun r9 S8 h => ?_)
      exact go_lret C 57 rfl dX5_price_57 h
    · have h := h.2 hc
      refine go_ldc2 C 15 18 k369_ dX5_price_15 rfl ?_
      exact go_lret C 18 rfl dX5_price_18 h
-- BillHouse.bill(III)J
theorem qX5_bill : (parseMethodDescriptor yX5_bill.desc).map (fun d => d.parameters.length) = some 3 := by decide +kernel
theorem mhX5_bill : yX5_bill.cls ≠ "java/lang/invoke/MethodHandle" ∧ yX5_bill.cls ≠ "java/lang/invoke/VarHandle" := by decide +kernel
def rX5_bill : Room := { frames := 5, cells := 0, slots := 0, locals := 120 }
def wp_X5_bill (S : St) (a1 : Int32) (a2 : Int32) (a3 : Int32) (post : Int64 → St → Prop) : Prop :=
  wp_X5_isRule S a1 (fun (r2 : Int32) (S1 : St) => (r2 = 0 → post (-1000000000000 : Int64) S1) ∧ (¬ (r2 = 0) → wp_X3_isThere S1 a2 (fun (r4 : Int32) (S3 : St) => (r4 = 0 → post (-1000000000000 : Int64) S3) ∧ (¬ (r4 = 0) → wp_X5_isPart S3 a3 (fun (r6 : Int32) (S5 : St) => (¬ r6 = 0 → wp_X5_shareOut S5 a1 (fun (S7 : St) => (vp_in a2 8) ∧ (∀ x10 : Int64, x10 = (((S7.1 14 a2.toNatClampNeg).toInt64) * (S7.2 4 1)) → (vp_in a2 8) ∧ (wp_X5_partOfFraction S7 ((S7.2 19 a2.toNatClampNeg) + x10) (S7.2 4 1) a3 (fun (r13 : Int64) (S12 : St) => post r13 S12))))) ∧ (r6 = 0 → post (-1000000000000 : Int64) S5))))))
set_option maxHeartbeats 4000000 in
set_option maxRecDepth 100000 in
theorem c_X5_bill {l : Launch} {D : va_G} {cA : Nat → ClassId} {ad : Nat → Nat} {ex : List Lay} (S : St) (a1 : Int32) (a2 : Int32) (a3 : Int32)  {post : Int64 → St → Prop} (h : wp_X5_bill S a1 a2 a3 post) : MetL l yX5_bill cX5_bill 6 (some .long) rX5_bill D cA ad (LU ++ ex) [.ref (ad 0), .int a1, .int a2, .int a3] S post 0 0 := by
  refine MetL.of (by decide) (Nat.le_of_ble_eq_true rfl) ?_
  intro p e s m args below meth c C
  unfold wp_X5_bill at h
  show Go p l e rX5_bill s m args below meth c D cA ad (LU ++ ex) 6 0 0 _ S 0 [(0, .ref (ad 0)), (1, .int a1), (2, .int a2), (3, .int a3)] []
  replace C : Cx p s m args meth c cX5_bill 6 (some .long) RX5 D cA ad (LU ++ ex) := C
  refine go_iload_n C 0 1 1 1 dX5_bill_0 rfl rfl rfl ?_
  refine go_si C 1 4 0 0 [.int a1] (c_X5_isRule _ _  h) k416_ k418_ k50_ k417_ qX5_isRule mhX5_isRule (by decide) (by decide) rfl rfl rfl rfl (Nat.le_of_ble_eq_true rfl) rfl rfl dX5_bill_1 (fun r2 S1 h => ?_)
  refine go_if_eq C 4 7 25 dX5_bill_4 (by decide) rfl (fun hc => ?_) (fun hc => ?_)
  · have h := h.1 hc
    refine go_ldc2 C 25 28 k369_ dX5_bill_25 rfl ?_
    exact go_lret C 28 rfl dX5_bill_28 h
  · have h := h.2 hc
    refine go_aload_n C 7 8 0 0 dX5_bill_7 rfl rfl rfl ?_
    refine go_getR C 8 11 iw5 0 (lu0 ex) rfl 1 (by decide) k203_ rfl rfl dX5_bill_8 rfl ?_
    refine go_iload_n C 11 12 2 2 dX5_bill_11 rfl rfl rfl ?_
    refine go_viN C 12 15 0 0 [.int a2] 2 (lu2 ex) rfl (c_X3_isThere _ _  h) n302_ k305_ k53_ k304_ k11_ qX3_isThere mhX3_isThere (by decide) (by decide) rfl rfl rfl rfl (Nat.le_of_ble_eq_true rfl) rfl rfl dX5_bill_12 (fun r4 S3 h => ?_)
    refine go_if_eq C 15 18 25 dX5_bill_15 (by decide) rfl (fun hc => ?_) (fun hc => ?_)
    · have h := h.1 hc
      refine go_ldc2 C 25 28 k369_ dX5_bill_25 rfl ?_
      exact go_lret C 28 rfl dX5_bill_28 h
    · have h := h.2 hc
      refine go_iload_n C 18 19 3 3 dX5_bill_18 rfl rfl rfl ?_
      refine go_si C 19 22 0 0 [.int a3] (c_X5_isPart _ _  h) k366_ k368_ k50_ k367_ qX5_isPart mhX5_isPart (by decide) (by decide) rfl rfl rfl rfl (Nat.le_of_ble_eq_true rfl) rfl rfl dX5_bill_19 (fun r6 S5 h => ?_)
      refine go_if_ne C 22 25 29 dX5_bill_22 (by decide) rfl (fun hc => ?_) (fun hc => ?_)
      · have h := h.1 hc
        refine go_aload_n C 29 30 0 0 dX5_bill_29 rfl rfl rfl ?_
        refine go_iload_n C 30 31 1 1 dX5_bill_30 rfl rfl rfl ?_
        refine go_vv C 31 34 0 0 [.int a1] 0 (lu0 ex) rfl (c_X5_shareOut _ _  h) k419_ k422_ k50_ k421_ k24_ qX5_shareOut mhX5_shareOut (by decide) (by decide) rfl rfl rfl rfl (Nat.le_of_ble_eq_true rfl) rfl rfl dX5_bill_31 (fun S7 h => ?_)
        refine go_aload_n C 34 35 0 0 dX5_bill_34 rfl rfl rfl ?_
        refine go_getR C 35 38 iw5 0 (lu0 ex) rfl 1 (by decide) k203_ rfl rfl dX5_bill_35 rfl ?_
        refine go_getRN C 38 41 iw3 2 (lu2 ex) rfl 2 (by decide) n116_ rfl rfl dX5_bill_38 rfl ?_
        refine go_iload_n C 41 42 2 2 dX5_bill_41 rfl rfl rfl ?_
        obtain ⟨hi9, h⟩ := h
        refine go_iald C 42 43 14 (lu14 ex) hi9 dX5_bill_42 rfl ?_
        refine go_i2l C 43 44 dX5_bill_43 rfl ?_
        refine go_aload_n C 44 45 0 0 dX5_bill_44 rfl rfl rfl ?_
        refine go_getR C 45 48 iw5 0 (lu0 ex) rfl 3 (by decide) k205_ rfl rfl dX5_bill_45 rfl ?_
        refine go_getJN C 48 51 iw2 4 (lu4 ex) rfl 1 (by decide) n162_ rfl rfl dX5_bill_48 rfl ?_
        refine go_lmul C 51 52 dX5_bill_51 rfl ?_
        refine go_topl (fun x10 hx10 => ?_)
        replace h := h x10 hx10
        refine go_lstore C 52 54 4 [(4, .long _), (0, .ref _), (1, .int _), (2, .int _), (3, .int _)] dX5_bill_52 (by decide) rfl rfl ?_
        refine go_aload_n C 54 55 0 1 dX5_bill_54 rfl rfl rfl ?_
        refine go_getR C 55 58 iw5 0 (lu0 ex) rfl 3 (by decide) k205_ rfl rfl dX5_bill_55 rfl ?_
        refine go_getRN C 58 61 iw2 4 (lu4 ex) rfl 0 (by decide) n160_ rfl rfl dX5_bill_58 rfl ?_
        refine go_iload_n C 61 62 2 3 dX5_bill_61 rfl rfl rfl ?_
        obtain ⟨hi11, h⟩ := h
        refine go_lald C 62 63 19 (lu19 ex) hi11 dX5_bill_62 rfl ?_
        refine go_lload C 63 65 4 0 dX5_bill_63 rfl rfl ?_
        refine go_ladd C 65 66 dX5_bill_65 rfl ?_
        refine go_aload_n C 66 67 0 1 dX5_bill_66 rfl rfl rfl ?_
        refine go_getR C 67 70 iw5 0 (lu0 ex) rfl 3 (by decide) k205_ rfl rfl dX5_bill_67 rfl ?_
        refine go_getJN C 70 73 iw2 4 (lu4 ex) rfl 1 (by decide) n162_ rfl rfl dX5_bill_70 rfl ?_
        refine go_iload_n C 73 74 3 4 dX5_bill_73 rfl rfl rfl ?_
        refine go_sl C 74 77 0 0 [.long ((S7.2 19 a2.toNatClampNeg) + x10), .long (S7.2 4 1), .int a3] (c_X5_partOfFraction _ _ _ _  h) k403_ k405_ k50_ k404_ qX5_partOfFraction mhX5_partOfFraction (by decide) (by decide) rfl rfl rfl rfl (Nat.le_of_ble_eq_true rfl) rfl rfl dX5_bill_74 (fun r13 S12 h => ?_)
        exact go_lret C 77 rfl dX5_bill_77 h
      · have h := h.2 hc
        refine go_ldc2 C 25 28 k369_ dX5_bill_25 rfl ?_
        exact go_lret C 28 rfl dX5_bill_28 h
-- BillHouse.coins(II)I
theorem qX5_coins : (parseMethodDescriptor yX5_coins.desc).map (fun d => d.parameters.length) = some 2 := by decide +kernel
theorem mhX5_coins : yX5_coins.cls ≠ "java/lang/invoke/MethodHandle" ∧ yX5_coins.cls ≠ "java/lang/invoke/VarHandle" := by decide +kernel
def rX5_coins : Room := { frames := 6, cells := 0, slots := 0, locals := 143 }
def wp_X5_coins (S : St) (a1 : Int32) (a2 : Int32) (post : Int32 → St → Prop) : Prop :=
  wp_X5_isRule S a1 (fun (r2 : Int32) (S1 : St) => (r2 = 0 → post (-1000000 : Int32) S1) ∧ (¬ (r2 = 0) → wp_X3_isThere S1 a2 (fun (r4 : Int32) (S3 : St) => (¬ r4 = 0 → wp_X5_fillCoins S3 a1 6 8 (fun (S5 : St) => (vp_in a2 8) ∧ (post (S5.1 6 a2.toNatClampNeg) S5))) ∧ (r4 = 0 → post (-1000000 : Int32) S3))))
set_option maxHeartbeats 4000000 in
set_option maxRecDepth 100000 in
theorem c_X5_coins {l : Launch} {D : va_G} {cA : Nat → ClassId} {ad : Nat → Nat} {ex : List Lay} (S : St) (a1 : Int32) (a2 : Int32)  {post : Int32 → St → Prop} (h : wp_X5_coins S a1 a2 post) : MetI l yX5_coins cX5_coins 3 (some .int) rX5_coins D cA ad (LU ++ ex) [.ref (ad 0), .int a1, .int a2] S post 0 0 := by
  refine MetI.of (by decide) (Nat.le_of_ble_eq_true rfl) ?_
  intro p e s m args below meth c C
  unfold wp_X5_coins at h
  show Go p l e rX5_coins s m args below meth c D cA ad (LU ++ ex) 3 0 0 _ S 0 [(0, .ref (ad 0)), (1, .int a1), (2, .int a2)] []
  replace C : Cx p s m args meth c cX5_coins 3 (some .int) RX5 D cA ad (LU ++ ex) := C
  refine go_iload_n C 0 1 1 1 dX5_coins_0 rfl rfl rfl ?_
  refine go_si C 1 4 0 0 [.int a1] (c_X5_isRule _ _  h) k416_ k418_ k50_ k417_ qX5_isRule mhX5_isRule (by decide) (by decide) rfl rfl rfl rfl (Nat.le_of_ble_eq_true rfl) rfl rfl dX5_coins_1 (fun r2 S1 h => ?_)
  refine go_if_eq C 4 7 18 dX5_coins_4 (by decide) rfl (fun hc => ?_) (fun hc => ?_)
  · have h := h.1 hc
    refine go_ldc C 18 20 k448_ dX5_coins_18 rfl ?_
    exact go_iret C 20 rfl dX5_coins_20 h
  · have h := h.2 hc
    refine go_aload_n C 7 8 0 0 dX5_coins_7 rfl rfl rfl ?_
    refine go_getR C 8 11 iw5 0 (lu0 ex) rfl 1 (by decide) k203_ rfl rfl dX5_coins_8 rfl ?_
    refine go_iload_n C 11 12 2 2 dX5_coins_11 rfl rfl rfl ?_
    refine go_viN C 12 15 0 0 [.int a2] 2 (lu2 ex) rfl (c_X3_isThere _ _  h) n302_ k305_ k53_ k304_ k11_ qX3_isThere mhX3_isThere (by decide) (by decide) rfl rfl rfl rfl (Nat.le_of_ble_eq_true rfl) rfl rfl dX5_coins_12 (fun r4 S3 h => ?_)
    refine go_if_ne C 15 18 21 dX5_coins_15 (by decide) rfl (fun hc => ?_) (fun hc => ?_)
    · have h := h.1 hc
      refine go_aload_n C 21 22 0 0 dX5_coins_21 rfl rfl rfl ?_
      refine go_iload_n C 22 23 1 1 dX5_coins_22 rfl rfl rfl ?_
      refine go_aload_n C 23 24 0 0 dX5_coins_23 rfl rfl rfl ?_
      refine go_getR C 24 27 iw5 0 (lu0 ex) rfl 5 (by decide) k207_ rfl rfl dX5_coins_24 rfl ?_
      refine go_vv C 27 30 0 0 [.int a1, .ref (ad 6)] 0 (lu0 ex) rfl (c_X5_fillCoins _ _ 6 8 (lu6 ex) h) k449_ k452_ k50_ k451_ k28_ qX5_fillCoins mhX5_fillCoins (by decide) (by decide) rfl rfl rfl rfl (Nat.le_of_ble_eq_true rfl) rfl rfl dX5_coins_27 (fun S5 h => ?_)
      refine go_aload_n C 30 31 0 0 dX5_coins_30 rfl rfl rfl ?_
      refine go_getR C 31 34 iw5 0 (lu0 ex) rfl 5 (by decide) k207_ rfl rfl dX5_coins_31 rfl ?_
      refine go_iload_n C 34 35 2 2 dX5_coins_34 rfl rfl rfl ?_
      obtain ⟨hi7, h⟩ := h
      refine go_iald C 35 36 6 (lu6 ex) hi7 dX5_coins_35 rfl ?_
      exact go_iret C 36 rfl dX5_coins_36 h
    · have h := h.2 hc
      refine go_ldc C 18 20 k448_ dX5_coins_18 rfl ?_
      exact go_iret C 20 rfl dX5_coins_20 h
-- BillHouse.leaving(I)I
theorem qX5_leaving : (parseMethodDescriptor yX5_leaving.desc).map (fun d => d.parameters.length) = some 1 := by decide +kernel
theorem mhX5_leaving : yX5_leaving.cls ≠ "java/lang/invoke/MethodHandle" ∧ yX5_leaving.cls ≠ "java/lang/invoke/VarHandle" := by decide +kernel
def rX5_leaving : Room := { frames := 5, cells := 0, slots := 0, locals := 120 }
def wB_X5_leaving_16 (post : Int32 → St → Prop) (k rec : Int32 → St → Prop) (v2 : Int32) (S : St) : Prop :=
  ((S.1 2 1) < v2 → k v2 S) ∧ (¬ ((S.1 2 1) < v2) → (¬ (v2 &&& ((S.1 2 1) ^^^ (-1 : Int32))) = 0 → rec (v2 + 1) S) ∧ ((v2 &&& ((S.1 2 1) ^^^ (-1 : Int32))) = 0 → wp_X2_numeratorOf S v2 (fun (r2 : Int64) (S1 : St) => wp_X4_costOf S1 v2 (fun (r4 : Int32) (S3 : St) => (r2 ≤ (r4.toInt64 * (S3.2 4 1)) → rec (v2 + 1) S3) ∧ (¬ (r2 ≤ (r4.toInt64 * (S3.2 4 1))) → post v2 S3)))))
def wL_X5_leaving_16 (post : Int32 → St → Prop) (k : Int32 → St → Prop) : Nat → Int32 → St → Prop
  | 0, _, _ => False
  | n + 1, v2, S => wB_X5_leaving_16 post k (wL_X5_leaving_16 post k n) v2 S
set_option maxHeartbeats 4000000 in
set_option maxRecDepth 100000 in
theorem L_X5_leaving_16 {p : Program} {l : Launch} {e : Env} {s : State} {m : MethodId} {args : Array Value} {below : List Frame} {meth : Method} {c : Code} {D : va_G} {cA : Nat → ClassId} {ad : Nat → Nat} {ex : List Lay} {post : Int32 → St → Prop} (C : Cx p s m args meth c cX5_leaving 4 (some .int) RX5 D cA ad (LU ++ ex))   {k : Int32 → St → Prop} (hk : ∀ (v2 : Int32) (S : St), k v2 S → Go p l e rX5_leaving s m args below meth c D cA ad (LU ++ ex) 4 0 0 (QI D cA ad (LU ++ ex) below args s 0 0 post) S 88 [] []) : ∀ (n : Nat) (v2 : Int32) (S : St), wL_X5_leaving_16 post k n v2 S → Go p l e rX5_leaving s m args below meth c D cA ad (LU ++ ex) 4 0 0 (QI D cA ad (LU ++ ex) below args s 0 0 post) S 16 [(0, .ref (ad 0)), (2, .int v2)] [] := by
  intro n
  induction n with
  | zero => intro v2 S h; exact h.elim
  | succ n ih =>
    intro v2 S h
    replace h : wB_X5_leaving_16 post k (wL_X5_leaving_16 post k n) v2 S := h
    unfold wB_X5_leaving_16 at h
    refine go_iload_n C 16 17 2 1 dX5_leaving_16 rfl rfl rfl ?_
    refine go_aload_n C 17 18 0 0 dX5_leaving_17 rfl rfl rfl ?_
    refine go_getR C 18 21 iw5 0 (lu0 ex) rfl 1 (by decide) k203_ rfl rfl dX5_leaving_18 rfl ?_
    refine go_getIN C 21 24 iw3 2 (lu2 ex) rfl 1 (by decide) n114_ rfl rfl dX5_leaving_21 rfl ?_
    refine go_icmp_gt C 24 27 88 dX5_leaving_24 (by decide) rfl (fun hc => ?_) (fun hc => ?_)
    · have h := h.1 hc
      exact go_perm [] rfl (hk _ _ h)
    · have h := h.2 hc
      refine go_iload_n C 27 28 2 1 dX5_leaving_27 rfl rfl rfl ?_
      refine go_aload_n C 28 29 0 0 dX5_leaving_28 rfl rfl rfl ?_
      refine go_getR C 29 32 iw5 0 (lu0 ex) rfl 1 (by decide) k203_ rfl rfl dX5_leaving_29 rfl ?_
      refine go_getIN C 32 35 iw3 2 (lu2 ex) rfl 1 (by decide) n114_ rfl rfl dX5_leaving_32 rfl ?_
      refine go_iconst C 35 36 (-1) dX5_leaving_35 (by decide) rfl ?_
      refine go_ixor C 36 37 dX5_leaving_36 rfl ?_
      refine go_iand C 37 38 dX5_leaving_37 rfl ?_
      refine go_if_ne C 38 41 45 dX5_leaving_38 (by decide) rfl (fun hc => ?_) (fun hc => ?_)
      · have h := h.1 hc
        refine go_iconst C 45 46 (0) dX5_leaving_45 (by decide) rfl ?_
        refine go_istore_n C 46 47 3 [(3, .int _), (0, .ref _), (2, .int _)] dX5_leaving_46 rfl (by decide) rfl rfl ?_
        refine go_iload_n C 47 48 3 0 dX5_leaving_47 rfl rfl rfl ?_
        refine go_if_eq C 48 51 82 dX5_leaving_48 (by decide) rfl (fun hc => ?_) (fun hc => absurd hc (by decide))
        refine go_iinc C 82 85 2 2 (v2 + 1) [(2, .int _), (3, .int _), (0, .ref _)] dX5_leaving_82 rfl rfl (by decide) rfl rfl ?_
        refine go_goto C 85 16 dX5_leaving_85 (by decide) ?_
        exact go_perm [2, 0] rfl (ih _ _ h)
      · have h := h.2 hc
        refine go_iconst C 41 42 (1) dX5_leaving_41 (by decide) rfl ?_
        refine go_goto C 42 46 dX5_leaving_42 (by decide) ?_
        refine go_istore_n C 46 47 3 [(3, .int _), (0, .ref _), (2, .int _)] dX5_leaving_46 rfl (by decide) rfl rfl ?_
        refine go_iload_n C 47 48 3 0 dX5_leaving_47 rfl rfl rfl ?_
        refine go_if_eq C 48 51 82 dX5_leaving_48 (by decide) rfl (fun hc => absurd hc (by decide)) (fun hc => ?_)
        refine go_aload_n C 51 52 0 1 dX5_leaving_51 rfl rfl rfl ?_
        refine go_getR C 52 55 iw5 0 (lu0 ex) rfl 3 (by decide) k205_ rfl rfl dX5_leaving_52 rfl ?_
        refine go_iload_n C 55 56 2 2 dX5_leaving_55 rfl rfl rfl ?_
        refine go_vlN C 56 59 0 0 [.int v2] 4 (lu4 ex) rfl (c_X2_numeratorOf _ _  h) n466_ k469_ k55_ k468_ k31_ qX2_numeratorOf mhX2_numeratorOf (by decide) (by decide) rfl rfl rfl rfl (Nat.le_of_ble_eq_true rfl) rfl rfl dX5_leaving_56 (fun r2 S1 h => ?_)
        refine go_aload_n C 59 60 0 1 dX5_leaving_59 rfl rfl rfl ?_
        refine go_getR C 60 63 iw5 0 (lu0 ex) rfl 0 (by decide) k202_ rfl rfl dX5_leaving_60 rfl ?_
        refine go_iload_n C 63 64 2 2 dX5_leaving_63 rfl rfl rfl ?_
        refine go_viN C 64 67 0 0 [.int v2] 1 (lu1 ex) rfl (c_X4_costOf _ _  h) n352_ k355_ k51_ k354_ k17_ qX4_costOf mhX4_costOf (by decide) (by decide) rfl rfl rfl rfl (Nat.le_of_ble_eq_true rfl) rfl rfl dX5_leaving_64 (fun r4 S3 h => ?_)
        refine go_i2l C 67 68 dX5_leaving_67 rfl ?_
        refine go_aload_n C 68 69 0 1 dX5_leaving_68 rfl rfl rfl ?_
        refine go_getR C 69 72 iw5 0 (lu0 ex) rfl 3 (by decide) k205_ rfl rfl dX5_leaving_69 rfl ?_
        refine go_getJN C 72 75 iw2 4 (lu4 ex) rfl 1 (by decide) n162_ rfl rfl dX5_leaving_72 rfl ?_
        refine go_lmul C 75 76 dX5_leaving_75 rfl ?_
        refine go_lcmp_le C 76 80 82 dX5_leaving_76 dX5_leaving_77 (by decide) rfl (fun hc => ?_) (fun hc => ?_)
        · have h := h.1 hc
          refine go_iinc C 82 85 2 2 (v2 + 1) [(2, .int _), (3, .int _), (0, .ref _)] dX5_leaving_82 rfl rfl (by decide) rfl rfl ?_
          refine go_goto C 85 16 dX5_leaving_85 (by decide) ?_
          exact go_perm [2, 0] rfl (ih _ _ h)
        · have h := h.2 hc
          refine go_iload_n C 80 81 2 2 dX5_leaving_80 rfl rfl rfl ?_
          exact go_iret C 81 rfl dX5_leaving_81 h
def wp_X5_leaving (S : St) (a1 : Int32) (post : Int32 → St → Prop) : Prop :=
  wp_X5_isRule S a1 (fun (r2 : Int32) (S1 : St) => (¬ r2 = 0 → wp_X5_shareOut S1 a1 (fun (S3 : St) => ∃ fu7, wL_X5_leaving_16 post (fun (z6 : Int32) (S5 : St) => post (0 : Int32) S5) fu7 (1 : Int32) S3)) ∧ (r2 = 0 → post (-1 : Int32) S1))
set_option maxHeartbeats 4000000 in
set_option maxRecDepth 100000 in
theorem c_X5_leaving {l : Launch} {D : va_G} {cA : Nat → ClassId} {ad : Nat → Nat} {ex : List Lay} (S : St) (a1 : Int32)  {post : Int32 → St → Prop} (h : wp_X5_leaving S a1 post) : MetI l yX5_leaving cX5_leaving 4 (some .int) rX5_leaving D cA ad (LU ++ ex) [.ref (ad 0), .int a1] S post 0 0 := by
  refine MetI.of (by decide) (Nat.le_of_ble_eq_true rfl) ?_
  intro p e s m args below meth c C
  unfold wp_X5_leaving at h
  show Go p l e rX5_leaving s m args below meth c D cA ad (LU ++ ex) 4 0 0 _ S 0 [(0, .ref (ad 0)), (1, .int a1)] []
  replace C : Cx p s m args meth c cX5_leaving 4 (some .int) RX5 D cA ad (LU ++ ex) := C
  refine go_iload_n C 0 1 1 1 dX5_leaving_0 rfl rfl rfl ?_
  refine go_si C 1 4 0 0 [.int a1] (c_X5_isRule _ _  h) k416_ k418_ k50_ k417_ qX5_isRule mhX5_isRule (by decide) (by decide) rfl rfl rfl rfl (Nat.le_of_ble_eq_true rfl) rfl rfl dX5_leaving_1 (fun r2 S1 h => ?_)
  refine go_if_ne C 4 7 9 dX5_leaving_4 (by decide) rfl (fun hc => ?_) (fun hc => ?_)
  · have h := h.1 hc
    refine go_aload_n C 9 10 0 0 dX5_leaving_9 rfl rfl rfl ?_
    refine go_iload_n C 10 11 1 1 dX5_leaving_10 rfl rfl rfl ?_
    refine go_vv C 11 14 0 0 [.int a1] 0 (lu0 ex) rfl (c_X5_shareOut _ _  h) k419_ k422_ k50_ k421_ k24_ qX5_shareOut mhX5_shareOut (by decide) (by decide) rfl rfl rfl rfl (Nat.le_of_ble_eq_true rfl) rfl rfl dX5_leaving_11 (fun S3 h => ?_)
    refine go_iconst C 14 15 (1) dX5_leaving_14 (by decide) rfl ?_
    refine go_istore_n C 15 16 2 [(2, .int _), (0, .ref _), (1, .int _)] dX5_leaving_15 rfl (by decide) rfl rfl ?_
    obtain ⟨fu7, h⟩ := h
    refine go_perm [1, 0] rfl (L_X5_leaving_16 C   (fun z6 S5 h => ?_) _ _ _ h)
    refine go_iconst C 88 89 (0) dX5_leaving_88 (by decide) rfl ?_
    exact go_iret C 89 rfl dX5_leaving_89 h
  · have h := h.2 hc
    refine go_iconst C 7 8 (-1) dX5_leaving_7 (by decide) rfl ?_
    exact go_iret C 8 rfl dX5_leaving_8 h
-- BillHouse.saved(I)I
theorem qX5_saved : (parseMethodDescriptor yX5_saved.desc).map (fun d => d.parameters.length) = some 1 := by decide +kernel
theorem mhX5_saved : yX5_saved.cls ≠ "java/lang/invoke/MethodHandle" ∧ yX5_saved.cls ≠ "java/lang/invoke/VarHandle" := by decide +kernel
def rX5_saved : Room := { frames := 3, cells := 0, slots := 0, locals := 70 }
def wp_X5_saved (S : St) (a1 : Int32) (post : Int32 → St → Prop) : Prop :=
  wp_X3_isThere S a1 (fun (r2 : Int32) (S1 : St) => (¬ r2 = 0 → wp_X4_costOf S1 (S1.1 2 1) (fun (r4 : Int32) (S3 : St) => wp_X4_costOf S3 ((S3.1 2 1) &&& (((1 : Int32) <<< (a1 &&& 31)) ^^^ (-1 : Int32))) (fun (r6 : Int32) (S5 : St) => post (r4 - r6) S5))) ∧ (r2 = 0 → post (-1 : Int32) S1))
set_option maxHeartbeats 4000000 in
set_option maxRecDepth 100000 in
theorem c_X5_saved {l : Launch} {D : va_G} {cA : Nat → ClassId} {ad : Nat → Nat} {ex : List Lay} (S : St) (a1 : Int32)  {post : Int32 → St → Prop} (h : wp_X5_saved S a1 post) : MetI l yX5_saved cX5_saved 2 (some .int) rX5_saved D cA ad (LU ++ ex) [.ref (ad 0), .int a1] S post 0 0 := by
  refine MetI.of (by decide) (Nat.le_of_ble_eq_true rfl) ?_
  intro p e s m args below meth c C
  unfold wp_X5_saved at h
  show Go p l e rX5_saved s m args below meth c D cA ad (LU ++ ex) 2 0 0 _ S 0 [(0, .ref (ad 0)), (1, .int a1)] []
  replace C : Cx p s m args meth c cX5_saved 2 (some .int) RX5 D cA ad (LU ++ ex) := C
  refine go_aload_n C 0 1 0 0 dX5_saved_0 rfl rfl rfl ?_
  refine go_getR C 1 4 iw5 0 (lu0 ex) rfl 1 (by decide) k203_ rfl rfl dX5_saved_1 rfl ?_
  refine go_iload_n C 4 5 1 1 dX5_saved_4 rfl rfl rfl ?_
  refine go_viN C 5 8 0 0 [.int a1] 2 (lu2 ex) rfl (c_X3_isThere _ _  h) n302_ k305_ k53_ k304_ k11_ qX3_isThere mhX3_isThere (by decide) (by decide) rfl rfl rfl rfl (Nat.le_of_ble_eq_true rfl) rfl rfl dX5_saved_5 (fun r2 S1 h => ?_)
  refine go_if_ne C 8 11 13 dX5_saved_8 (by decide) rfl (fun hc => ?_) (fun hc => ?_)
  · have h := h.1 hc
    refine go_aload_n C 13 14 0 0 dX5_saved_13 rfl rfl rfl ?_
    refine go_getR C 14 17 iw5 0 (lu0 ex) rfl 0 (by decide) k202_ rfl rfl dX5_saved_14 rfl ?_
    refine go_aload_n C 17 18 0 0 dX5_saved_17 rfl rfl rfl ?_
    refine go_getR C 18 21 iw5 0 (lu0 ex) rfl 1 (by decide) k203_ rfl rfl dX5_saved_18 rfl ?_
    refine go_getIN C 21 24 iw3 2 (lu2 ex) rfl 1 (by decide) n114_ rfl rfl dX5_saved_21 rfl ?_
    refine go_viN C 24 27 0 0 [.int (S1.1 2 1)] 1 (lu1 ex) rfl (c_X4_costOf _ _  h) n352_ k355_ k51_ k354_ k17_ qX4_costOf mhX4_costOf (by decide) (by decide) rfl rfl rfl rfl (Nat.le_of_ble_eq_true rfl) rfl rfl dX5_saved_24 (fun r4 S3 h => ?_)
    refine go_aload_n C 27 28 0 0 dX5_saved_27 rfl rfl rfl ?_
    refine go_getR C 28 31 iw5 0 (lu0 ex) rfl 0 (by decide) k202_ rfl rfl dX5_saved_28 rfl ?_
    refine go_aload_n C 31 32 0 0 dX5_saved_31 rfl rfl rfl ?_
    refine go_getR C 32 35 iw5 0 (lu0 ex) rfl 1 (by decide) k203_ rfl rfl dX5_saved_32 rfl ?_
    refine go_getIN C 35 38 iw3 2 (lu2 ex) rfl 1 (by decide) n114_ rfl rfl dX5_saved_35 rfl ?_
    refine go_iconst C 38 39 (1) dX5_saved_38 (by decide) rfl ?_
    refine go_iload_n C 39 40 1 1 dX5_saved_39 rfl rfl rfl ?_
    refine go_ishl C 40 41 dX5_saved_40 rfl ?_
    refine go_iconst C 41 42 (-1) dX5_saved_41 (by decide) rfl ?_
    refine go_ixor C 42 43 dX5_saved_42 rfl ?_
    refine go_iand C 43 44 dX5_saved_43 rfl ?_
    refine go_viN C 44 47 0 0 [.int ((S3.1 2 1) &&& (((1 : Int32) <<< (a1 &&& 31)) ^^^ (-1 : Int32)))] 1 (lu1 ex) rfl (c_X4_costOf _ _  h) n352_ k355_ k51_ k354_ k17_ qX4_costOf mhX4_costOf (by decide) (by decide) rfl rfl rfl rfl (Nat.le_of_ble_eq_true rfl) rfl rfl dX5_saved_44 (fun r6 S5 h => ?_)
    refine go_isub C 47 48 dX5_saved_47 rfl ?_
    exact go_iret C 48 rfl dX5_saved_48 h
  · have h := h.2 hc
    refine go_iconst C 11 12 (-1) dX5_saved_11 (by decide) rfl ?_
    exact go_iret C 12 rfl dX5_saved_12 h
-- BillHouse.differ(II)I
theorem qX5_differ : (parseMethodDescriptor yX5_differ.desc).map (fun d => d.parameters.length) = some 2 := by decide +kernel
theorem mhX5_differ : yX5_differ.cls ≠ "java/lang/invoke/MethodHandle" ∧ yX5_differ.cls ≠ "java/lang/invoke/VarHandle" := by decide +kernel
def rX5_differ : Room := { frames := 6, cells := 0, slots := 0, locals := 143 }
def wB_X5_differ_39 (k rec : Int32 → Int32 → St → Prop) (v3 : Int32) (v4 : Int32) (S : St) : Prop :=
  ((8 : Int32) ≤ v4 → k v3 v4 S) ∧ (¬ ((8 : Int32) ≤ v4) → (vp_in v4 8) ∧ ((vp_in v4 8) ∧ (∀ x3 : Int32, x3 = (v3 + (if 0 ≤ ((S.1 6 v4.toNatClampNeg) - (S.1 7 v4.toNatClampNeg)) then ((S.1 6 v4.toNatClampNeg) - (S.1 7 v4.toNatClampNeg)) else 0 - ((S.1 6 v4.toNatClampNeg) - (S.1 7 v4.toNatClampNeg)))) → rec x3 (v4 + 1) S)))
def wL_X5_differ_39 (k : Int32 → Int32 → St → Prop) : Nat → Int32 → Int32 → St → Prop
  | 0, _, _, _ => False
  | n + 1, v3, v4, S => wB_X5_differ_39 k (wL_X5_differ_39 k n) v3 v4 S
set_option maxHeartbeats 4000000 in
set_option maxRecDepth 100000 in
theorem L_X5_differ_39 {p : Program} {l : Launch} {e : Env} {s : State} {m : MethodId} {args : Array Value} {below : List Frame} {meth : Method} {c : Code} {D : va_G} {cA : Nat → ClassId} {ad : Nat → Nat} {ex : List Lay} {Q : State → Prop} (C : Cx p s m args meth c cX5_differ 5 (some .int) RX5 D cA ad (LU ++ ex))   {k : Int32 → Int32 → St → Prop} (hk : ∀ (v3 : Int32) (v4 : Int32) (S : St), k v3 v4 S → Go p l e rX5_differ s m args below meth c D cA ad (LU ++ ex) 5 0 0 Q S 73 [(3, .int v3)] []) : ∀ (n : Nat) (v3 : Int32) (v4 : Int32) (S : St), wL_X5_differ_39 k n v3 v4 S → Go p l e rX5_differ s m args below meth c D cA ad (LU ++ ex) 5 0 0 Q S 39 [(0, .ref (ad 0)), (3, .int v3), (4, .int v4)] [] := by
  intro n
  induction n with
  | zero => intro v3 v4 S h; exact h.elim
  | succ n ih =>
    intro v3 v4 S h
    replace h : wB_X5_differ_39 k (wL_X5_differ_39 k n) v3 v4 S := h
    unfold wB_X5_differ_39 at h
    refine go_iload C 39 41 4 2 dX5_differ_39 rfl rfl ?_
    refine go_bipush C 41 43 (8) dX5_differ_41 (by decide) rfl ?_
    refine go_icmp_ge C 43 46 73 dX5_differ_43 (by decide) rfl (fun hc => ?_) (fun hc => ?_)
    · have h := h.1 hc
      exact go_perm [1] rfl (hk _ _ _ h)
    · have h := h.2 hc
      refine go_iload_n C 46 47 3 1 dX5_differ_46 rfl rfl rfl ?_
      refine go_aload_n C 47 48 0 0 dX5_differ_47 rfl rfl rfl ?_
      refine go_getR C 48 51 iw5 0 (lu0 ex) rfl 5 (by decide) k207_ rfl rfl dX5_differ_48 rfl ?_
      refine go_iload C 51 53 4 2 dX5_differ_51 rfl rfl ?_
      obtain ⟨hi1, h⟩ := h
      refine go_iald C 53 54 6 (lu6 ex) hi1 dX5_differ_53 rfl ?_
      refine go_aload_n C 54 55 0 0 dX5_differ_54 rfl rfl rfl ?_
      refine go_getR C 55 58 iw5 0 (lu0 ex) rfl 6 (by decide) k208_ rfl rfl dX5_differ_55 rfl ?_
      refine go_iload C 58 60 4 2 dX5_differ_58 rfl rfl ?_
      obtain ⟨hi2, h⟩ := h
      refine go_iald C 60 61 7 (lu7 ex) hi2 dX5_differ_60 rfl ?_
      refine go_isub C 61 62 dX5_differ_61 rfl ?_
      refine go_absI C 62 65 k478_ k479_ k59_ k480_ (by decide) (Nat.le_of_ble_eq_true rfl) (by decide) (by decide) dX5_differ_62 rfl ?_
      refine go_iadd C 65 66 dX5_differ_65 rfl ?_
      refine go_topi (fun x3 hx3 => ?_)
      replace h := h x3 hx3
      refine go_istore_n C 66 67 3 [(3, .int _), (0, .ref _), (4, .int _)] dX5_differ_66 rfl (by decide) rfl rfl ?_
      refine go_iinc C 67 70 4 2 (v4 + 1) [(4, .int _), (3, .int _), (0, .ref _)] dX5_differ_67 rfl rfl (by decide) rfl rfl ?_
      refine go_goto C 70 39 dX5_differ_70 (by decide) ?_
      exact go_perm [2, 1, 0] rfl (ih _ _ _ h)
def wp_X5_differ (S : St) (a1 : Int32) (a2 : Int32) (post : Int32 → St → Prop) : Prop :=
  wp_X5_isRule S a1 (fun (r2 : Int32) (S1 : St) => (r2 = 0 → post (-1 : Int32) S1) ∧ (¬ (r2 = 0) → wp_X5_isRule S1 a2 (fun (r4 : Int32) (S3 : St) => (¬ r4 = 0 → wp_X5_fillCoins S3 a1 6 8 (fun (S5 : St) => wp_X5_fillCoins S5 a2 7 8 (fun (S7 : St) => ∃ fu12, wL_X5_differ_39 (fun (z10 : Int32) (z11 : Int32) (S9 : St) => post z10 S9) fu12 (0 : Int32) (0 : Int32) S7))) ∧ (r4 = 0 → post (-1 : Int32) S3))))
set_option maxHeartbeats 4000000 in
set_option maxRecDepth 100000 in
theorem c_X5_differ {l : Launch} {D : va_G} {cA : Nat → ClassId} {ad : Nat → Nat} {ex : List Lay} (S : St) (a1 : Int32) (a2 : Int32)  {post : Int32 → St → Prop} (h : wp_X5_differ S a1 a2 post) : MetI l yX5_differ cX5_differ 5 (some .int) rX5_differ D cA ad (LU ++ ex) [.ref (ad 0), .int a1, .int a2] S post 0 0 := by
  refine MetI.of (by decide) (Nat.le_of_ble_eq_true rfl) ?_
  intro p e s m args below meth c C
  unfold wp_X5_differ at h
  show Go p l e rX5_differ s m args below meth c D cA ad (LU ++ ex) 5 0 0 _ S 0 [(0, .ref (ad 0)), (1, .int a1), (2, .int a2)] []
  replace C : Cx p s m args meth c cX5_differ 5 (some .int) RX5 D cA ad (LU ++ ex) := C
  refine go_iload_n C 0 1 1 1 dX5_differ_0 rfl rfl rfl ?_
  refine go_si C 1 4 0 0 [.int a1] (c_X5_isRule _ _  h) k416_ k418_ k50_ k417_ qX5_isRule mhX5_isRule (by decide) (by decide) rfl rfl rfl rfl (Nat.le_of_ble_eq_true rfl) rfl rfl dX5_differ_1 (fun r2 S1 h => ?_)
  refine go_if_eq C 4 7 14 dX5_differ_4 (by decide) rfl (fun hc => ?_) (fun hc => ?_)
  · have h := h.1 hc
    refine go_iconst C 14 15 (-1) dX5_differ_14 (by decide) rfl ?_
    exact go_iret C 15 rfl dX5_differ_15 h
  · have h := h.2 hc
    refine go_iload_n C 7 8 2 2 dX5_differ_7 rfl rfl rfl ?_
    refine go_si C 8 11 0 0 [.int a2] (c_X5_isRule _ _  h) k416_ k418_ k50_ k417_ qX5_isRule mhX5_isRule (by decide) (by decide) rfl rfl rfl rfl (Nat.le_of_ble_eq_true rfl) rfl rfl dX5_differ_8 (fun r4 S3 h => ?_)
    refine go_if_ne C 11 14 16 dX5_differ_11 (by decide) rfl (fun hc => ?_) (fun hc => ?_)
    · have h := h.1 hc
      refine go_aload_n C 16 17 0 0 dX5_differ_16 rfl rfl rfl ?_
      refine go_iload_n C 17 18 1 1 dX5_differ_17 rfl rfl rfl ?_
      refine go_aload_n C 18 19 0 0 dX5_differ_18 rfl rfl rfl ?_
      refine go_getR C 19 22 iw5 0 (lu0 ex) rfl 5 (by decide) k207_ rfl rfl dX5_differ_19 rfl ?_
      refine go_vv C 22 25 0 0 [.int a1, .ref (ad 6)] 0 (lu0 ex) rfl (c_X5_fillCoins _ _ 6 8 (lu6 ex) h) k449_ k452_ k50_ k451_ k28_ qX5_fillCoins mhX5_fillCoins (by decide) (by decide) rfl rfl rfl rfl (Nat.le_of_ble_eq_true rfl) rfl rfl dX5_differ_22 (fun S5 h => ?_)
      refine go_aload_n C 25 26 0 0 dX5_differ_25 rfl rfl rfl ?_
      refine go_iload_n C 26 27 2 2 dX5_differ_26 rfl rfl rfl ?_
      refine go_aload_n C 27 28 0 0 dX5_differ_27 rfl rfl rfl ?_
      refine go_getR C 28 31 iw5 0 (lu0 ex) rfl 6 (by decide) k208_ rfl rfl dX5_differ_28 rfl ?_
      refine go_vv C 31 34 0 0 [.int a2, .ref (ad 7)] 0 (lu0 ex) rfl (c_X5_fillCoins _ _ 7 8 (lu7 ex) h) k449_ k452_ k50_ k451_ k28_ qX5_fillCoins mhX5_fillCoins (by decide) (by decide) rfl rfl rfl rfl (Nat.le_of_ble_eq_true rfl) rfl rfl dX5_differ_31 (fun S7 h => ?_)
      refine go_iconst C 34 35 (0) dX5_differ_34 (by decide) rfl ?_
      refine go_istore_n C 35 36 3 [(3, .int _), (0, .ref _), (1, .int _), (2, .int _)] dX5_differ_35 rfl (by decide) rfl rfl ?_
      refine go_iconst C 36 37 (0) dX5_differ_36 (by decide) rfl ?_
      refine go_istore C 37 39 4 [(4, .int _), (3, .int _), (0, .ref _), (1, .int _), (2, .int _)] dX5_differ_37 (by decide) rfl rfl ?_
      obtain ⟨fu12, h⟩ := h
      refine go_perm [2, 1, 0] rfl (L_X5_differ_39 C   (fun z10 z11 S9 h => ?_) _ _ _ _ h)
      refine go_iload_n C 73 74 3 0 dX5_differ_73 rfl rfl rfl ?_
      exact go_iret C 74 rfl dX5_differ_74 h
    · have h := h.2 hc
      refine go_iconst C 14 15 (-1) dX5_differ_14 (by decide) rfl ?_
      exact go_iret C 15 rfl dX5_differ_15 h
-- BillHouse.book(I)I
theorem qX5_book : (parseMethodDescriptor yX5_book.desc).map (fun d => d.parameters.length) = some 1 := by decide +kernel
theorem mhX5_book : yX5_book.cls ≠ "java/lang/invoke/MethodHandle" ∧ yX5_book.cls ≠ "java/lang/invoke/VarHandle" := by decide +kernel
def rX5_book : Room := { frames := 6, cells := 0, slots := 0, locals := 143 }
def wp_X5_book (S : St) (a1 : Int32) (post : Int32 → St → Prop) : Prop :=
  wp_X5_isRule S a1 (fun (r2 : Int32) (S1 : St) => (¬ r2 = 0 → wp_X5_fillCoins S1 a1 6 8 (fun (S3 : St) => wp_X0_differencesTo S3 6 8 (fun (r6 : Int32) (S5 : St) => (((S5.1 5 1) + r6) ≤ (400 : Int32) → wp_X0_enter S5 6 8 (fun (S7 : St) => post r6 S7)) ∧ (¬ (((S5.1 5 1) + r6) ≤ (400 : Int32)) → post (-1 : Int32) S5)))) ∧ (r2 = 0 → post (-1 : Int32) S1))
set_option maxHeartbeats 4000000 in
set_option maxRecDepth 100000 in
theorem c_X5_book {l : Launch} {D : va_G} {cA : Nat → ClassId} {ad : Nat → Nat} {ex : List Lay} (S : St) (a1 : Int32)  {post : Int32 → St → Prop} (h : wp_X5_book S a1 post) : MetI l yX5_book cX5_book 3 (some .int) rX5_book D cA ad (LU ++ ex) [.ref (ad 0), .int a1] S post 0 0 := by
  refine MetI.of (by decide) (Nat.le_of_ble_eq_true rfl) ?_
  intro p e s m args below meth c C
  unfold wp_X5_book at h
  show Go p l e rX5_book s m args below meth c D cA ad (LU ++ ex) 3 0 0 _ S 0 [(0, .ref (ad 0)), (1, .int a1)] []
  replace C : Cx p s m args meth c cX5_book 3 (some .int) RX5 D cA ad (LU ++ ex) := C
  refine go_iload_n C 0 1 1 1 dX5_book_0 rfl rfl rfl ?_
  refine go_si C 1 4 0 0 [.int a1] (c_X5_isRule _ _  h) k416_ k418_ k50_ k417_ qX5_isRule mhX5_isRule (by decide) (by decide) rfl rfl rfl rfl (Nat.le_of_ble_eq_true rfl) rfl rfl dX5_book_1 (fun r2 S1 h => ?_)
  refine go_if_ne C 4 7 9 dX5_book_4 (by decide) rfl (fun hc => ?_) (fun hc => ?_)
  · have h := h.1 hc
    refine go_aload_n C 9 10 0 0 dX5_book_9 rfl rfl rfl ?_
    refine go_iload_n C 10 11 1 1 dX5_book_10 rfl rfl rfl ?_
    refine go_aload_n C 11 12 0 0 dX5_book_11 rfl rfl rfl ?_
    refine go_getR C 12 15 iw5 0 (lu0 ex) rfl 5 (by decide) k207_ rfl rfl dX5_book_12 rfl ?_
    refine go_vv C 15 18 0 0 [.int a1, .ref (ad 6)] 0 (lu0 ex) rfl (c_X5_fillCoins _ _ 6 8 (lu6 ex) h) k449_ k452_ k50_ k451_ k28_ qX5_fillCoins mhX5_fillCoins (by decide) (by decide) rfl rfl rfl rfl (Nat.le_of_ble_eq_true rfl) rfl rfl dX5_book_15 (fun S3 h => ?_)
    refine go_aload_n C 18 19 0 0 dX5_book_18 rfl rfl rfl ?_
    refine go_getR C 19 22 iw5 0 (lu0 ex) rfl 4 (by decide) k206_ rfl rfl dX5_book_19 rfl ?_
    refine go_aload_n C 22 23 0 0 dX5_book_22 rfl rfl rfl ?_
    refine go_getR C 23 26 iw5 0 (lu0 ex) rfl 5 (by decide) k207_ rfl rfl dX5_book_23 rfl ?_
    refine go_viN C 26 29 0 0 [.ref (ad 6)] 5 (lu5 ex) rfl (c_X0_differencesTo _ 6 8 (lu6 ex) h) n485_ k488_ k56_ k487_ k32_ qX0_differencesTo mhX0_differencesTo (by decide) (by decide) rfl rfl rfl rfl (Nat.le_of_ble_eq_true rfl) rfl rfl dX5_book_26 (fun r6 S5 h => ?_)
    refine go_istore_n C 29 30 2 [(2, .int _), (0, .ref _), (1, .int _)] dX5_book_29 rfl (by decide) rfl rfl ?_
    refine go_aload_n C 30 31 0 1 dX5_book_30 rfl rfl rfl ?_
    refine go_getR C 31 34 iw5 0 (lu0 ex) rfl 4 (by decide) k206_ rfl rfl dX5_book_31 rfl ?_
    refine go_getIN C 34 37 iw0 5 (lu5 ex) rfl 1 (by decide) n180_ rfl rfl dX5_book_34 rfl ?_
    refine go_iload_n C 37 38 2 0 dX5_book_37 rfl rfl rfl ?_
    refine go_iadd C 38 39 dX5_book_38 rfl ?_
    refine go_sipush C 39 42 (400) dX5_book_39 (by decide) rfl ?_
    refine go_icmp_le C 42 45 47 dX5_book_42 (by decide) rfl (fun hc => ?_) (fun hc => ?_)
    · have h := h.1 hc
      refine go_aload_n C 47 48 0 1 dX5_book_47 rfl rfl rfl ?_
      refine go_getR C 48 51 iw5 0 (lu0 ex) rfl 4 (by decide) k206_ rfl rfl dX5_book_48 rfl ?_
      refine go_aload_n C 51 52 0 1 dX5_book_51 rfl rfl rfl ?_
      refine go_getR C 52 55 iw5 0 (lu0 ex) rfl 5 (by decide) k207_ rfl rfl dX5_book_52 rfl ?_
      refine go_vvN C 55 58 0 0 [.ref (ad 6)] 5 (lu5 ex) rfl (c_X0_enter _ 6 8 (lu6 ex) h) n489_ k492_ k56_ k491_ k33_ qX0_enter mhX0_enter (by decide) (by decide) rfl rfl rfl rfl (Nat.le_of_ble_eq_true rfl) rfl rfl dX5_book_55 (fun S7 h => ?_)
      refine go_iload_n C 58 59 2 0 dX5_book_58 rfl rfl rfl ?_
      exact go_iret C 59 rfl dX5_book_59 h
    · have h := h.2 hc
      refine go_iconst C 45 46 (-1) dX5_book_45 (by decide) rfl ?_
      exact go_iret C 46 rfl dX5_book_46 h
  · have h := h.2 hc
    refine go_iconst C 7 8 (-1) dX5_book_7 (by decide) rfl ?_
    exact go_iret C 8 rfl dX5_book_8 h
-- BillHouse.booked(I)I
theorem qX5_booked : (parseMethodDescriptor yX5_booked.desc).map (fun d => d.parameters.length) = some 1 := by decide +kernel
theorem mhX5_booked : yX5_booked.cls ≠ "java/lang/invoke/MethodHandle" ∧ yX5_booked.cls ≠ "java/lang/invoke/VarHandle" := by decide +kernel
def rX5_booked : Room := { frames := 1, cells := 0, slots := 0, locals := 21 }
def wp_X5_booked (S : St) (a1 : Int32) (post : Int32 → St → Prop) : Prop :=
  wp_X3_has S a1 (fun (r2 : Int32) (S1 : St) => (r2 = 0 → post (0 : Int32) S1) ∧ (¬ (r2 = 0) → (vp_in a1 8) ∧ (post (S1.1 21 a1.toNatClampNeg) S1)))
set_option maxHeartbeats 4000000 in
set_option maxRecDepth 100000 in
theorem c_X5_booked {l : Launch} {D : va_G} {cA : Nat → ClassId} {ad : Nat → Nat} {ex : List Lay} (S : St) (a1 : Int32)  {post : Int32 → St → Prop} (h : wp_X5_booked S a1 post) : MetI l yX5_booked cX5_booked 2 (some .int) rX5_booked D cA ad (LU ++ ex) [.ref (ad 0), .int a1] S post 0 0 := by
  refine MetI.of (by decide) (Nat.le_of_ble_eq_true rfl) ?_
  intro p e s m args below meth c C
  unfold wp_X5_booked at h
  show Go p l e rX5_booked s m args below meth c D cA ad (LU ++ ex) 2 0 0 _ S 0 [(0, .ref (ad 0)), (1, .int a1)] []
  replace C : Cx p s m args meth c cX5_booked 2 (some .int) RX5 D cA ad (LU ++ ex) := C
  refine go_aload_n C 0 1 0 0 dX5_booked_0 rfl rfl rfl ?_
  refine go_getR C 1 4 iw5 0 (lu0 ex) rfl 1 (by decide) k203_ rfl rfl dX5_booked_1 rfl ?_
  refine go_iload_n C 4 5 1 1 dX5_booked_4 rfl rfl rfl ?_
  refine go_viN C 5 8 0 0 [.int a1] 2 (lu2 ex) rfl (c_X3_has _ _  h) n264_ k267_ k53_ k266_ k5_ qX3_has mhX3_has (by decide) (by decide) rfl rfl rfl rfl (Nat.le_of_ble_eq_true rfl) rfl rfl dX5_booked_5 (fun r2 S1 h => ?_)
  refine go_if_eq C 8 11 23 dX5_booked_8 (by decide) rfl (fun hc => ?_) (fun hc => ?_)
  · have h := h.1 hc
    refine go_iconst C 23 24 (0) dX5_booked_23 (by decide) rfl ?_
    exact go_iret C 24 rfl dX5_booked_24 h
  · have h := h.2 hc
    refine go_aload_n C 11 12 0 0 dX5_booked_11 rfl rfl rfl ?_
    refine go_getR C 12 15 iw5 0 (lu0 ex) rfl 4 (by decide) k206_ rfl rfl dX5_booked_12 rfl ?_
    refine go_getRN C 15 18 iw0 5 (lu5 ex) rfl 2 (by decide) n182_ rfl rfl dX5_booked_15 rfl ?_
    refine go_iload_n C 18 19 1 1 dX5_booked_18 rfl rfl rfl ?_
    obtain ⟨hi3, h⟩ := h
    refine go_iald C 19 20 21 (lu21 ex) hi3 dX5_booked_19 rfl ?_
    refine go_goto C 20 24 dX5_booked_20 (by decide) ?_
    exact go_iret C 24 rfl dX5_booked_24 h
-- BillHouse.line(II)I
theorem qX5_line : (parseMethodDescriptor yX5_line.desc).map (fun d => d.parameters.length) = some 2 := by decide +kernel
theorem mhX5_line : yX5_line.cls ≠ "java/lang/invoke/MethodHandle" ∧ yX5_line.cls ≠ "java/lang/invoke/VarHandle" := by decide +kernel
def rX5_line : Room := { frames := 0, cells := 0, slots := 0, locals := 0 }
def wp_X5_line (S : St) (a1 : Int32) (a2 : Int32) (post : Int32 → St → Prop) : Prop :=
  (a1 < 0 → post (-1000000 : Int32) S) ∧ (¬ (a1 < 0) → (a1 < (S.1 5 1) → (a2.toInt < 0 ∨ 2 < a2.toInt → post (-1000000 : Int32) S) ∧ (a2.toInt = 0 → (vp_in a1 400) ∧ (post (S.1 22 a1.toNatClampNeg) S)) ∧ (a2.toInt = 1 → (vp_in a1 400) ∧ (post (S.1 23 a1.toNatClampNeg) S)) ∧ (a2.toInt = 2 → (vp_in a1 400) ∧ (post (S.1 24 a1.toNatClampNeg) S))) ∧ (¬ (a1 < (S.1 5 1)) → post (-1000000 : Int32) S))
set_option maxHeartbeats 4000000 in
set_option maxRecDepth 100000 in
theorem c_X5_line {l : Launch} {D : va_G} {cA : Nat → ClassId} {ad : Nat → Nat} {ex : List Lay} (S : St) (a1 : Int32) (a2 : Int32)  {post : Int32 → St → Prop} (h : wp_X5_line S a1 a2 post) : MetI l yX5_line cX5_line 3 (some .int) rX5_line D cA ad (LU ++ ex) [.ref (ad 0), .int a1, .int a2] S post 0 0 := by
  refine MetI.of (by decide) (Nat.le_of_ble_eq_true rfl) ?_
  intro p e s m args below meth c C
  unfold wp_X5_line at h
  show Go p l e rX5_line s m args below meth c D cA ad (LU ++ ex) 3 0 0 _ S 0 [(0, .ref (ad 0)), (1, .int a1), (2, .int a2)] []
  replace C : Cx p s m args meth c cX5_line 3 (some .int) RX5 D cA ad (LU ++ ex) := C
  refine go_iload_n C 0 1 1 1 dX5_line_0 rfl rfl rfl ?_
  refine go_if_lt C 1 4 15 dX5_line_1 (by decide) rfl (fun hc => ?_) (fun hc => ?_)
  · have h := h.1 hc
    refine go_ldc C 15 17 k448_ dX5_line_15 rfl ?_
    exact go_iret C 17 rfl dX5_line_17 h
  · have h := h.2 hc
    refine go_iload_n C 4 5 1 1 dX5_line_4 rfl rfl rfl ?_
    refine go_aload_n C 5 6 0 0 dX5_line_5 rfl rfl rfl ?_
    refine go_getR C 6 9 iw5 0 (lu0 ex) rfl 4 (by decide) k206_ rfl rfl dX5_line_6 rfl ?_
    refine go_getIN C 9 12 iw0 5 (lu5 ex) rfl 1 (by decide) n180_ rfl rfl dX5_line_9 rfl ?_
    refine go_icmp_lt C 12 15 18 dX5_line_12 (by decide) rfl (fun hc => ?_) (fun hc => ?_)
    · have h := h.1 hc
      refine go_iload_n C 18 19 2 2 dX5_line_18 rfl rfl rfl ?_
      by_cases hlo : a2.toInt < 0 ∨ 2 < a2.toInt
      · refine go_tsOut C 19 74 dX5_line_19 hlo (by decide) ?_
        have h := h.1 hlo
        refine go_ldc C 74 76 k448_ dX5_line_74 rfl ?_
        exact go_iret C 76 rfl dX5_line_76 h
      · replace h := h.2
        have hor : a2.toInt = 0 ∨ a2.toInt = 1 ∨ a2.toInt = 2 := by omega
        rcases hor with hc | hc | hc
        · refine go_tsIn C 19 44 dX5_line_19 (by omega) (by omega) (off := 25) (by rw [hc]; rfl) (by decide) ?_
          have h := h.1 hc
          refine go_aload_n C 44 45 0 0 dX5_line_44 rfl rfl rfl ?_
          refine go_getR C 45 48 iw5 0 (lu0 ex) rfl 4 (by decide) k206_ rfl rfl dX5_line_45 rfl ?_
          refine go_getRN C 48 51 iw0 5 (lu5 ex) rfl 3 (by decide) n184_ rfl rfl dX5_line_48 rfl ?_
          refine go_iload_n C 51 52 1 1 dX5_line_51 rfl rfl rfl ?_
          obtain ⟨hi1, h⟩ := h
          refine go_iald C 52 53 22 (lu22 ex) hi1 dX5_line_52 rfl ?_
          exact go_iret C 53 rfl dX5_line_53 h
        · refine go_tsIn C 19 54 dX5_line_19 (by omega) (by omega) (off := 35) (by rw [hc]; rfl) (by decide) ?_
          have h := h.2.1 hc
          refine go_aload_n C 54 55 0 0 dX5_line_54 rfl rfl rfl ?_
          refine go_getR C 55 58 iw5 0 (lu0 ex) rfl 4 (by decide) k206_ rfl rfl dX5_line_55 rfl ?_
          refine go_getRN C 58 61 iw0 5 (lu5 ex) rfl 4 (by decide) n186_ rfl rfl dX5_line_58 rfl ?_
          refine go_iload_n C 61 62 1 1 dX5_line_61 rfl rfl rfl ?_
          obtain ⟨hi2, h⟩ := h
          refine go_iald C 62 63 23 (lu23 ex) hi2 dX5_line_62 rfl ?_
          exact go_iret C 63 rfl dX5_line_63 h
        · refine go_tsIn C 19 64 dX5_line_19 (by omega) (by omega) (off := 45) (by rw [hc]; rfl) (by decide) ?_
          have h := h.2.2 hc
          refine go_aload_n C 64 65 0 0 dX5_line_64 rfl rfl rfl ?_
          refine go_getR C 65 68 iw5 0 (lu0 ex) rfl 4 (by decide) k206_ rfl rfl dX5_line_65 rfl ?_
          refine go_getRN C 68 71 iw0 5 (lu5 ex) rfl 5 (by decide) n188_ rfl rfl dX5_line_68 rfl ?_
          refine go_iload_n C 71 72 1 1 dX5_line_71 rfl rfl rfl ?_
          obtain ⟨hi3, h⟩ := h
          refine go_iald C 72 73 24 (lu24 ex) hi3 dX5_line_72 rfl ?_
          exact go_iret C 73 rfl dX5_line_73 h
    · have h := h.2 hc
      refine go_ldc C 15 17 k448_ dX5_line_15 rfl ?_
      exact go_iret C 17 rfl dX5_line_17 h
-- BillHouse.count(I)I
theorem qX5_count : (parseMethodDescriptor yX5_count.desc).map (fun d => d.parameters.length) = some 1 := by decide +kernel
theorem mhX5_count : yX5_count.cls ≠ "java/lang/invoke/MethodHandle" ∧ yX5_count.cls ≠ "java/lang/invoke/VarHandle" := by decide +kernel
def rX5_count : Room := { frames := 3, cells := 0, slots := 0, locals := 64 }
def wp_X5_count (S : St) (a1 : Int32) (post : Int32 → St → Prop) : Prop :=
  (a1.toInt < 0 ∨ 6 < a1.toInt → post (-1000000 : Int32) S) ∧ (a1.toInt = 0 → post (S.1 1 0) S) ∧ (a1.toInt = 1 → post (S.1 2 0) S) ∧ (a1.toInt = 2 → wp_J6_bitCount_0f7a4 S (S.1 2 1) (fun (r2 : Int32) (S1 : St) => post r2 S1)) ∧ (a1.toInt = 3 → post (S.1 5 1) S) ∧ (a1.toInt = 4 → post (S.1 5 0) S) ∧ (a1.toInt = 5 → wp_X3_markedOfThoseThere S (fun (r4 : Int32) (S3 : St) => post r4 S3)) ∧ (a1.toInt = 6 → wp_X0_coinsInAll S (fun (r6 : Int32) (S5 : St) => post r6 S5))
set_option maxHeartbeats 4000000 in
set_option maxRecDepth 100000 in
theorem c_X5_count {l : Launch} {D : va_G} {cA : Nat → ClassId} {ad : Nat → Nat} {ex : List Lay} (S : St) (a1 : Int32)  {post : Int32 → St → Prop} (h : wp_X5_count S a1 post) : MetI l yX5_count cX5_count 2 (some .int) rX5_count D cA ad (LU ++ ex) [.ref (ad 0), .int a1] S post 0 0 := by
  refine MetI.of (by decide) (Nat.le_of_ble_eq_true rfl) ?_
  intro p e s m args below meth c C
  unfold wp_X5_count at h
  show Go p l e rX5_count s m args below meth c D cA ad (LU ++ ex) 2 0 0 _ S 0 [(0, .ref (ad 0)), (1, .int a1)] []
  replace C : Cx p s m args meth c cX5_count 2 (some .int) RX5 D cA ad (LU ++ ex) := C
  refine go_iload_n C 0 1 1 1 dX5_count_0 rfl rfl rfl ?_
  by_cases hlo : a1.toInt < 0 ∨ 6 < a1.toInt
  · refine go_tsOut C 1 103 dX5_count_1 hlo (by decide) ?_
    have h := h.1 hlo
    refine go_ldc C 103 105 k448_ dX5_count_103 rfl ?_
    exact go_iret C 105 rfl dX5_count_105 h
  · replace h := h.2
    have hor : a1.toInt = 0 ∨ a1.toInt = 1 ∨ a1.toInt = 2 ∨ a1.toInt = 3 ∨ a1.toInt = 4 ∨ a1.toInt = 5 ∨ a1.toInt = 6 := by omega
    rcases hor with hc | hc | hc | hc | hc | hc | hc
    · refine go_tsIn C 1 44 dX5_count_1 (by omega) (by omega) (off := 43) (by rw [hc]; rfl) (by decide) ?_
      have h := h.1 hc
      refine go_aload_n C 44 45 0 0 dX5_count_44 rfl rfl rfl ?_
      refine go_getR C 45 48 iw5 0 (lu0 ex) rfl 0 (by decide) k202_ rfl rfl dX5_count_45 rfl ?_
      refine go_getIN C 48 51 iw4 1 (lu1 ex) rfl 0 (by decide) n79_ rfl rfl dX5_count_48 rfl ?_
      exact go_iret C 51 rfl dX5_count_51 h
    · refine go_tsIn C 1 52 dX5_count_1 (by omega) (by omega) (off := 51) (by rw [hc]; rfl) (by decide) ?_
      have h := h.2.1 hc
      refine go_aload_n C 52 53 0 0 dX5_count_52 rfl rfl rfl ?_
      refine go_getR C 53 56 iw5 0 (lu0 ex) rfl 1 (by decide) k203_ rfl rfl dX5_count_53 rfl ?_
      refine go_getIN C 56 59 iw3 2 (lu2 ex) rfl 0 (by decide) n112_ rfl rfl dX5_count_56 rfl ?_
      exact go_iret C 59 rfl dX5_count_59 h
    · refine go_tsIn C 1 60 dX5_count_1 (by omega) (by omega) (off := 59) (by rw [hc]; rfl) (by decide) ?_
      have h := h.2.2.1 hc
      refine go_aload_n C 60 61 0 0 dX5_count_60 rfl rfl rfl ?_
      refine go_getR C 61 64 iw5 0 (lu0 ex) rfl 1 (by decide) k203_ rfl rfl dX5_count_61 rfl ?_
      refine go_getIN C 64 67 iw3 2 (lu2 ex) rfl 1 (by decide) n114_ rfl rfl dX5_count_64 rfl ?_
      refine go_si C 67 70 0 0 [.int (S.1 2 1)] (c_J6_bitCount_0f7a4 _ _  h) k505_ k399_ k58_ k398_ qJ6_bitCount_0f7a4 mhJ6_bitCount_0f7a4 (by decide) (by decide) rfl rfl rfl rfl (Nat.le_of_ble_eq_true rfl) rfl rfl dX5_count_67 (fun r2 S1 h => ?_)
      exact go_iret C 70 rfl dX5_count_70 h
    · refine go_tsIn C 1 71 dX5_count_1 (by omega) (by omega) (off := 70) (by rw [hc]; rfl) (by decide) ?_
      have h := h.2.2.2.1 hc
      refine go_aload_n C 71 72 0 0 dX5_count_71 rfl rfl rfl ?_
      refine go_getR C 72 75 iw5 0 (lu0 ex) rfl 4 (by decide) k206_ rfl rfl dX5_count_72 rfl ?_
      refine go_getIN C 75 78 iw0 5 (lu5 ex) rfl 1 (by decide) n180_ rfl rfl dX5_count_75 rfl ?_
      exact go_iret C 78 rfl dX5_count_78 h
    · refine go_tsIn C 1 79 dX5_count_1 (by omega) (by omega) (off := 78) (by rw [hc]; rfl) (by decide) ?_
      have h := h.2.2.2.2.1 hc
      refine go_aload_n C 79 80 0 0 dX5_count_79 rfl rfl rfl ?_
      refine go_getR C 80 83 iw5 0 (lu0 ex) rfl 4 (by decide) k206_ rfl rfl dX5_count_80 rfl ?_
      refine go_getIN C 83 86 iw0 5 (lu5 ex) rfl 0 (by decide) n178_ rfl rfl dX5_count_83 rfl ?_
      exact go_iret C 86 rfl dX5_count_86 h
    · refine go_tsIn C 1 87 dX5_count_1 (by omega) (by omega) (off := 86) (by rw [hc]; rfl) (by decide) ?_
      have h := h.2.2.2.2.2.1 hc
      refine go_aload_n C 87 88 0 0 dX5_count_87 rfl rfl rfl ?_
      refine go_getR C 88 91 iw5 0 (lu0 ex) rfl 1 (by decide) k203_ rfl rfl dX5_count_88 rfl ?_
      refine go_viN C 91 94 0 0 [] 2 (lu2 ex) rfl (c_X3_markedOfThoseThere _  h) n506_ k509_ k53_ k508_ k34_ qX3_markedOfThoseThere mhX3_markedOfThoseThere (by decide) (by decide) rfl rfl rfl rfl (Nat.le_of_ble_eq_true rfl) rfl rfl dX5_count_91 (fun r4 S3 h => ?_)
      exact go_iret C 94 rfl dX5_count_94 h
    · refine go_tsIn C 1 95 dX5_count_1 (by omega) (by omega) (off := 94) (by rw [hc]; rfl) (by decide) ?_
      have h := h.2.2.2.2.2.2 hc
      refine go_aload_n C 95 96 0 0 dX5_count_95 rfl rfl rfl ?_
      refine go_getR C 96 99 iw5 0 (lu0 ex) rfl 4 (by decide) k206_ rfl rfl dX5_count_96 rfl ?_
      refine go_viN C 99 102 0 0 [] 5 (lu5 ex) rfl (c_X0_coinsInAll _  h) n511_ k514_ k56_ k513_ k35_ qX0_coinsInAll mhX0_coinsInAll (by decide) (by decide) rfl rfl rfl rfl (Nat.le_of_ble_eq_true rfl) rfl rfl dX5_count_99 (fun r6 S5 h => ?_)
      exact go_iret C 102 rfl dX5_count_102 h
