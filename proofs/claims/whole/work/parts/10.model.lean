theorem k529_ : Cond.fieldLink RX6 67 RX6 "works" "I" ∈ T0 := in_T0 529 (by decide +kernel) (by decide +kernel)
theorem k530_ : Cond.fieldLink RX6 70 RX6 "users" "I" ∈ T0 := in_T0 530 (by decide +kernel) (by decide +kernel)
theorem k528_ : Cond.fieldLink RX6 28 RX6 "there" "[Z" ∈ T0 := in_T0 528 (by decide +kernel) (by decide +kernel)
theorem k624_ : Cond.methodLink RX6 73 yX6_isUser ∈ T0 := in_T0 624 (by decide +kernel) (by decide +kernel)
theorem k627_ : Cond.code yX6_isUser cX6_isUser 2 (some .boolean) ∈ T0 := in_T0 627 (by decide +kernel) (by decide +kernel)
theorem k57_ : Cond.initialized RX6 ∈ T0 := in_T0 57 (by decide +kernel) (by decide +kernel)
theorem k626_ : Cond.instanceMethod yX6_isUser ∈ T0 := in_T0 626 (by decide +kernel) (by decide +kernel)
theorem k37_ : Cond.selects RX6 yX6_isUser yX6_isUser ∈ T0 := in_T0 37 (by decide +kernel) (by decide +kernel)
theorem k521_ : Cond.fieldLink RX6 63 RX6 "thrown" "I" ∈ T0 := in_T0 521 (by decide +kernel) (by decide +kernel)
theorem k522_ : Cond.fieldLink RX6 9 RX6 "fixed" "[I" ∈ T0 := in_T0 522 (by decide +kernel) (by decide +kernel)
theorem k523_ : Cond.fieldLink RX6 13 RX6 "step" "[I" ∈ T0 := in_T0 523 (by decide +kernel) (by decide +kernel)
theorem k605_ : Cond.methodLink RX6 77 yX6_isIn ∈ T0 := in_T0 605 (by decide +kernel) (by decide +kernel)
theorem k607_ : Cond.code yX6_isIn cX6_isIn 3 (some .boolean) ∈ T0 := in_T0 607 (by decide +kernel) (by decide +kernel)
theorem k606_ : Cond.static yX6_isIn ∈ T0 := in_T0 606 (by decide +kernel) (by decide +kernel)
theorem k616_ : Cond.methodLink RX6 81 yX6_isWork ∈ T0 := in_T0 616 (by decide +kernel) (by decide +kernel)
theorem k619_ : Cond.code yX6_isWork cX6_isWork 2 (some .boolean) ∈ T0 := in_T0 619 (by decide +kernel) (by decide +kernel)
theorem k618_ : Cond.instanceMethod yX6_isWork ∈ T0 := in_T0 618 (by decide +kernel) (by decide +kernel)
theorem k36_ : Cond.selects RX6 yX6_isWork yX6_isWork ∈ T0 := in_T0 36 (by decide +kernel) (by decide +kernel)
theorem k524_ : Cond.fieldLink RX6 16 RX6 "use" "[I" ∈ T0 := in_T0 524 (by decide +kernel) (by decide +kernel)
theorem k525_ : Cond.fieldLink RX6 19 RX6 "feed" "[I" ∈ T0 := in_T0 525 (by decide +kernel) (by decide +kernel)
theorem k526_ : Cond.fieldLink RX6 22 RX6 "marked" "[I" ∈ T0 := in_T0 526 (by decide +kernel) (by decide +kernel)
theorem k640_ : Cond.constantLong RX6 84 (-10000) ∈ T0 := in_T0 640 (by decide +kernel) (by decide +kernel)
theorem k641_ : Cond.constantLong RX6 86 (10000) ∈ T0 := in_T0 641 (by decide +kernel) (by decide +kernel)
theorem k674_ : Cond.methodLink RX6 96 yX6_workCost ∈ T0 := in_T0 674 (by decide +kernel) (by decide +kernel)
theorem k677_ : Cond.code yX6_workCost cX6_workCost 3 (some .int) ∈ T0 := in_T0 677 (by decide +kernel) (by decide +kernel)
theorem k676_ : Cond.instanceMethod yX6_workCost ∈ T0 := in_T0 676 (by decide +kernel) (by decide +kernel)
theorem k42_ : Cond.selects RX6 yX6_workCost yX6_workCost ∈ T0 := in_T0 42 (by decide +kernel) (by decide +kernel)
theorem k662_ : Cond.methodLink RX6 92 yX6_totalOf ∈ T0 := in_T0 662 (by decide +kernel) (by decide +kernel)
theorem k665_ : Cond.code yX6_totalOf cX6_totalOf 6 (some .int) ∈ T0 := in_T0 665 (by decide +kernel) (by decide +kernel)
theorem k664_ : Cond.instanceMethod yX6_totalOf ∈ T0 := in_T0 664 (by decide +kernel) (by decide +kernel)
theorem k40_ : Cond.selects RX6 yX6_totalOf yX6_totalOf ∈ T0 := in_T0 40 (by decide +kernel) (by decide +kernel)
theorem k650_ : Cond.methodLink RX6 88 yX6_neededBy ∈ T0 := in_T0 650 (by decide +kernel) (by decide +kernel)
theorem k653_ : Cond.code yX6_neededBy cX6_neededBy 6 (some .int) ∈ T0 := in_T0 653 (by decide +kernel) (by decide +kernel)
theorem k652_ : Cond.instanceMethod yX6_neededBy ∈ T0 := in_T0 652 (by decide +kernel) (by decide +kernel)
theorem k39_ : Cond.selects RX6 yX6_neededBy yX6_neededBy ∈ T0 := in_T0 39 (by decide +kernel) (by decide +kernel)
theorem k646_ : Cond.methodLink RX6 100 yX6_thereSet ∈ T0 := in_T0 646 (by decide +kernel) (by decide +kernel)
theorem k649_ : Cond.code yX6_thereSet cX6_thereSet 3 (some .int) ∈ T0 := in_T0 649 (by decide +kernel) (by decide +kernel)
theorem k648_ : Cond.instanceMethod yX6_thereSet ∈ T0 := in_T0 648 (by decide +kernel) (by decide +kernel)
theorem k38_ : Cond.selects RX6 yX6_thereSet yX6_thereSet ∈ T0 := in_T0 38 (by decide +kernel) (by decide +kernel)
theorem k670_ : Cond.methodLink RX6 104 yX6_costOf ∈ T0 := in_T0 670 (by decide +kernel) (by decide +kernel)
theorem k673_ : Cond.code yX6_costOf cX6_costOf 5 (some .int) ∈ T0 := in_T0 673 (by decide +kernel) (by decide +kernel)
theorem k672_ : Cond.instanceMethod yX6_costOf ∈ T0 := in_T0 672 (by decide +kernel) (by decide +kernel)
theorem k41_ : Cond.selects RX6 yX6_costOf yX6_costOf ∈ T0 := in_T0 41 (by decide +kernel) (by decide +kernel)
theorem k540_ : Cond.fieldLink RX6 107 RX6 "many" "I" ∈ T0 := in_T0 540 (by decide +kernel) (by decide +kernel)
theorem k537_ : Cond.fieldLink RX6 44 RX6 "matrix" "[J" ∈ T0 := in_T0 537 (by decide +kernel) (by decide +kernel)
theorem k687_ : Cond.methodLink RX6 110 yX6_determinant ∈ T0 := in_T0 687 (by decide +kernel) (by decide +kernel)
theorem k690_ : Cond.code yX6_determinant cX6_determinant 10 (some .long) ∈ T0 := in_T0 690 (by decide +kernel) (by decide +kernel)
theorem k689_ : Cond.instanceMethod yX6_determinant ∈ T0 := in_T0 689 (by decide +kernel) (by decide +kernel)
theorem k44_ : Cond.selects RX6 yX6_determinant yX6_determinant ∈ T0 := in_T0 44 (by decide +kernel) (by decide +kernel)
theorem k538_ : Cond.fieldLink RX6 48 RX6 "right" "[J" ∈ T0 := in_T0 538 (by decide +kernel) (by decide +kernel)
theorem k539_ : Cond.fieldLink RX6 51 RX6 "priceTop" "[J" ∈ T0 := in_T0 539 (by decide +kernel) (by decide +kernel)
theorem k536_ : Cond.fieldLink RX6 41 RX6 "place" "[I" ∈ T0 := in_T0 536 (by decide +kernel) (by decide +kernel)
theorem k541_ : Cond.fieldLink RX6 114 RX6 "priceBelow" "J" ∈ T0 := in_T0 541 (by decide +kernel) (by decide +kernel)
theorem k697_ : Cond.methodLink RX6 118 Lib.MathLoose.abs_long.x ∈ T0 := in_T0 697 (by decide +kernel) (by decide +kernel)
theorem k694_ : Cond.methodLink RX6 124 yX6_common ∈ T0 := in_T0 694 (by decide +kernel) (by decide +kernel)
theorem k696_ : Cond.code yX6_common cX6_common 10 (some .long) ∈ T0 := in_T0 696 (by decide +kernel) (by decide +kernel)
theorem k695_ : Cond.static yX6_common ∈ T0 := in_T0 695 (by decide +kernel) (by decide +kernel)
theorem k682_ : Cond.constantLong RX6 128 (-1000000000000) ∈ T0 := in_T0 682 (by decide +kernel) (by decide +kernel)
theorem k691_ : Cond.methodLink RX6 133 yX6_part ∈ T0 := in_T0 691 (by decide +kernel) (by decide +kernel)
theorem k693_ : Cond.code yX6_part cX6_part 7 (some .long) ∈ T0 := in_T0 693 (by decide +kernel) (by decide +kernel)
theorem k692_ : Cond.static yX6_part ∈ T0 := in_T0 692 (by decide +kernel) (by decide +kernel)
theorem k683_ : Cond.methodLink RX6 130 yX6_prices ∈ T0 := in_T0 683 (by decide +kernel) (by decide +kernel)
theorem k686_ : Cond.code yX6_prices cX6_prices 7 none ∈ T0 := in_T0 686 (by decide +kernel) (by decide +kernel)
theorem k685_ : Cond.instanceMethod yX6_prices ∈ T0 := in_T0 685 (by decide +kernel) (by decide +kernel)
theorem k43_ : Cond.selects RX6 yX6_prices yX6_prices ∈ T0 := in_T0 43 (by decide +kernel) (by decide +kernel)
theorem k545_ : Cond.fieldLink RX6 137 RX6 "all" "I" ∈ T0 := in_T0 545 (by decide +kernel) (by decide +kernel)
theorem k543_ : Cond.fieldLink RX6 140 RX6 "below" "J" ∈ T0 := in_T0 543 (by decide +kernel) (by decide +kernel)
theorem k542_ : Cond.fieldLink RX6 54 RX6 "bill" "[J" ∈ T0 := in_T0 542 (by decide +kernel) (by decide +kernel)
theorem k544_ : Cond.fieldLink RX6 57 RX6 "costs" "[I" ∈ T0 := in_T0 544 (by decide +kernel) (by decide +kernel)
theorem k713_ : Cond.methodLink RX6 143 yX6_comes ∈ T0 := in_T0 713 (by decide +kernel) (by decide +kernel)
theorem k716_ : Cond.code yX6_comes cX6_comes 5 none ∈ T0 := in_T0 716 (by decide +kernel) (by decide +kernel)
theorem k715_ : Cond.instanceMethod yX6_comes ∈ T0 := in_T0 715 (by decide +kernel) (by decide +kernel)
theorem k47_ : Cond.selects RX6 yX6_comes yX6_comes ∈ T0 := in_T0 47 (by decide +kernel) (by decide +kernel)
theorem k709_ : Cond.methodLink RX6 153 yX6_bills ∈ T0 := in_T0 709 (by decide +kernel) (by decide +kernel)
theorem k712_ : Cond.code yX6_bills cX6_bills 5 none ∈ T0 := in_T0 712 (by decide +kernel) (by decide +kernel)
theorem k711_ : Cond.instanceMethod yX6_bills ∈ T0 := in_T0 711 (by decide +kernel) (by decide +kernel)
theorem k46_ : Cond.selects RX6 yX6_bills yX6_bills ∈ T0 := in_T0 46 (by decide +kernel) (by decide +kernel)
theorem k705_ : Cond.methodLink RX6 150 yX6_isThere ∈ T0 := in_T0 705 (by decide +kernel) (by decide +kernel)
theorem k708_ : Cond.code yX6_isThere cX6_isThere 2 (some .boolean) ∈ T0 := in_T0 708 (by decide +kernel) (by decide +kernel)
theorem k707_ : Cond.instanceMethod yX6_isThere ∈ T0 := in_T0 707 (by decide +kernel) (by decide +kernel)
theorem k45_ : Cond.selects RX6 yX6_isThere yX6_isThere ∈ T0 := in_T0 45 (by decide +kernel) (by decide +kernel)
theorem k702_ : Cond.methodLink RX6 147 yX6_isRule ∈ T0 := in_T0 702 (by decide +kernel) (by decide +kernel)
theorem k704_ : Cond.code yX6_isRule cX6_isRule 1 (some .boolean) ∈ T0 := in_T0 704 (by decide +kernel) (by decide +kernel)
theorem k703_ : Cond.static yX6_isRule ∈ T0 := in_T0 703 (by decide +kernel) (by decide +kernel)
theorem k527_ : Cond.fieldLink RX6 25 RX6 "booked" "[I" ∈ T0 := in_T0 527 (by decide +kernel) (by decide +kernel)
theorem k721_ : Cond.constant RX6 156 (-1000000) ∈ T0 := in_T0 721 (by decide +kernel) (by decide +kernel)
theorem k531_ : Cond.fieldLink RX6 167 RX6 "lines" "I" ∈ T0 := in_T0 531 (by decide +kernel) (by decide +kernel)
theorem k535_ : Cond.fieldLink RX6 38 RX6 "lineCoins" "[I" ∈ T0 := in_T0 535 (by decide +kernel) (by decide +kernel)
theorem k534_ : Cond.fieldLink RX6 35 RX6 "lineUser" "[I" ∈ T0 := in_T0 534 (by decide +kernel) (by decide +kernel)
theorem k533_ : Cond.fieldLink RX6 32 RX6 "lineBooking" "[I" ∈ T0 := in_T0 533 (by decide +kernel) (by decide +kernel)
theorem k762_ : Cond.methodLink RX6 173 yJ6_bitCount_0f7a4 ∈ T0 := in_T0 762 (by decide +kernel) (by decide +kernel)
theorem k532_ : Cond.fieldLink RX6 170 RX6 "bookings" "I" ∈ T0 := in_T0 532 (by decide +kernel) (by decide +kernel)
-- BillHouseModel.isIn(III)Z
theorem qX6_isIn : (parseMethodDescriptor yX6_isIn.desc).map (fun d => d.parameters.length) = some 3 := by decide +kernel
theorem mhX6_isIn : yX6_isIn.cls ≠ "java/lang/invoke/MethodHandle" ∧ yX6_isIn.cls ≠ "java/lang/invoke/VarHandle" := by decide +kernel
def rX6_isIn : Room := { frames := 0, cells := 0, slots := 0, locals := 0 }
def wp_X6_isIn (S : St) (a1 : Int32) (a2 : Int32) (a3 : Int32) (post : Int32 → St → Prop) : Prop :=
  (a1 < a2 → post (0 : Int32) S) ∧ (¬ (a1 < a2) → (a3 < a1 → post (0 : Int32) S) ∧ (¬ (a3 < a1) → post (1 : Int32) S))
set_option maxHeartbeats 4000000 in
set_option maxRecDepth 100000 in
theorem c_X6_isIn {l : Launch} {D : va_G} {cA : Nat → ClassId} {ad : Nat → Nat} {ex : List Lay} (S : St) (a1 : Int32) (a2 : Int32) (a3 : Int32)  {post : Int32 → St → Prop} (h : wp_X6_isIn S a1 a2 a3 post) : MetI l yX6_isIn cX6_isIn 3 (some .boolean) rX6_isIn D cA ad (LU ++ ex) [.int a1, .int a2, .int a3] S post 0 0 := by
  refine MetI.of (by decide) (Nat.le_of_ble_eq_true rfl) ?_
  intro p e s m args below meth c C
  unfold wp_X6_isIn at h
  show Go p l e rX6_isIn s m args below meth c D cA ad (LU ++ ex) 3 0 0 _ S 0 [(0, .int a1), (1, .int a2), (2, .int a3)] []
  replace C : Cx p s m args meth c cX6_isIn 3 (some .boolean) RX6 D cA ad (LU ++ ex) := C
  refine go_iload_n C 0 1 0 0 dX6_isIn_0 rfl rfl rfl ?_
  refine go_iload_n C 1 2 1 1 dX6_isIn_1 rfl rfl rfl ?_
  refine go_icmp_lt C 2 5 14 dX6_isIn_2 (by decide) rfl (fun hc => ?_) (fun hc => ?_)
  · have h := h.1 hc
    refine go_iconst C 14 15 (0) dX6_isIn_14 (by decide) rfl ?_
    exact go_zret C 15 (by decide) rfl dX6_isIn_15 h
  · have h := h.2 hc
    refine go_iload_n C 5 6 0 0 dX6_isIn_5 rfl rfl rfl ?_
    refine go_iload_n C 6 7 2 2 dX6_isIn_6 rfl rfl rfl ?_
    refine go_icmp_gt C 7 10 14 dX6_isIn_7 (by decide) rfl (fun hc => ?_) (fun hc => ?_)
    · have h := h.1 hc
      refine go_iconst C 14 15 (0) dX6_isIn_14 (by decide) rfl ?_
      exact go_zret C 15 (by decide) rfl dX6_isIn_15 h
    · have h := h.2 hc
      refine go_iconst C 10 11 (1) dX6_isIn_10 (by decide) rfl ?_
      refine go_goto C 11 15 dX6_isIn_11 (by decide) ?_
      exact go_zret C 15 (by decide) rfl dX6_isIn_15 h
-- BillHouseModel.isWork(I)Z
theorem qX6_isWork : (parseMethodDescriptor yX6_isWork.desc).map (fun d => d.parameters.length) = some 1 := by decide +kernel
theorem mhX6_isWork : yX6_isWork.cls ≠ "java/lang/invoke/MethodHandle" ∧ yX6_isWork.cls ≠ "java/lang/invoke/VarHandle" := by decide +kernel
def rX6_isWork : Room := { frames := 0, cells := 0, slots := 0, locals := 0 }
def wp_X6_isWork (S : St) (a1 : Int32) (post : Int32 → St → Prop) : Prop :=
  (a1 < 0 → post (0 : Int32) S) ∧ (¬ (a1 < 0) → ((S.1 25 8) ≤ a1 → post (0 : Int32) S) ∧ (¬ ((S.1 25 8) ≤ a1) → post (1 : Int32) S))
set_option maxHeartbeats 4000000 in
set_option maxRecDepth 100000 in
theorem c_X6_isWork {l : Launch} {D : va_G} {cA : Nat → ClassId} {ad : Nat → Nat} {ex : List Lay} (S : St) (a1 : Int32)  {post : Int32 → St → Prop} (h : wp_X6_isWork S a1 post) : MetI l yX6_isWork cX6_isWork 2 (some .boolean) rX6_isWork D cA ad (LU ++ ex) [.ref (ad 25), .int a1] S post 0 0 := by
  refine MetI.of (by decide) (Nat.le_of_ble_eq_true rfl) ?_
  intro p e s m args below meth c C
  unfold wp_X6_isWork at h
  show Go p l e rX6_isWork s m args below meth c D cA ad (LU ++ ex) 2 0 0 _ S 0 [(0, .ref (ad 25)), (1, .int a1)] []
  replace C : Cx p s m args meth c cX6_isWork 2 (some .boolean) RX6 D cA ad (LU ++ ex) := C
  refine go_iload_n C 0 1 1 1 dX6_isWork_0 rfl rfl rfl ?_
  refine go_if_lt C 1 4 16 dX6_isWork_1 (by decide) rfl (fun hc => ?_) (fun hc => ?_)
  · have h := h.1 hc
    refine go_iconst C 16 17 (0) dX6_isWork_16 (by decide) rfl ?_
    exact go_zret C 17 (by decide) rfl dX6_isWork_17 h
  · have h := h.2 hc
    refine go_iload_n C 4 5 1 1 dX6_isWork_4 rfl rfl rfl ?_
    refine go_aload_n C 5 6 0 0 dX6_isWork_5 rfl rfl rfl ?_
    refine go_getI C 6 9 iw6 25 (lu25 ex) rfl 8 (by decide) k529_ rfl rfl dX6_isWork_6 rfl ?_
    refine go_icmp_ge C 9 12 16 dX6_isWork_9 (by decide) rfl (fun hc => ?_) (fun hc => ?_)
    · have h := h.1 hc
      refine go_iconst C 16 17 (0) dX6_isWork_16 (by decide) rfl ?_
      exact go_zret C 17 (by decide) rfl dX6_isWork_17 h
    · have h := h.2 hc
      refine go_iconst C 12 13 (1) dX6_isWork_12 (by decide) rfl ?_
      refine go_goto C 13 17 dX6_isWork_13 (by decide) ?_
      exact go_zret C 17 (by decide) rfl dX6_isWork_17 h
-- BillHouseModel.isUser(I)Z
theorem qX6_isUser : (parseMethodDescriptor yX6_isUser.desc).map (fun d => d.parameters.length) = some 1 := by decide +kernel
theorem mhX6_isUser : yX6_isUser.cls ≠ "java/lang/invoke/MethodHandle" ∧ yX6_isUser.cls ≠ "java/lang/invoke/VarHandle" := by decide +kernel
def rX6_isUser : Room := { frames := 0, cells := 0, slots := 0, locals := 0 }
def wp_X6_isUser (S : St) (a1 : Int32) (post : Int32 → St → Prop) : Prop :=
  (a1 < 0 → post (0 : Int32) S) ∧ (¬ (a1 < 0) → ((S.1 25 9) ≤ a1 → post (0 : Int32) S) ∧ (¬ ((S.1 25 9) ≤ a1) → post (1 : Int32) S))
set_option maxHeartbeats 4000000 in
set_option maxRecDepth 100000 in
theorem c_X6_isUser {l : Launch} {D : va_G} {cA : Nat → ClassId} {ad : Nat → Nat} {ex : List Lay} (S : St) (a1 : Int32)  {post : Int32 → St → Prop} (h : wp_X6_isUser S a1 post) : MetI l yX6_isUser cX6_isUser 2 (some .boolean) rX6_isUser D cA ad (LU ++ ex) [.ref (ad 25), .int a1] S post 0 0 := by
  refine MetI.of (by decide) (Nat.le_of_ble_eq_true rfl) ?_
  intro p e s m args below meth c C
  unfold wp_X6_isUser at h
  show Go p l e rX6_isUser s m args below meth c D cA ad (LU ++ ex) 2 0 0 _ S 0 [(0, .ref (ad 25)), (1, .int a1)] []
  replace C : Cx p s m args meth c cX6_isUser 2 (some .boolean) RX6 D cA ad (LU ++ ex) := C
  refine go_iload_n C 0 1 1 1 dX6_isUser_0 rfl rfl rfl ?_
  refine go_if_lt C 1 4 16 dX6_isUser_1 (by decide) rfl (fun hc => ?_) (fun hc => ?_)
  · have h := h.1 hc
    refine go_iconst C 16 17 (0) dX6_isUser_16 (by decide) rfl ?_
    exact go_zret C 17 (by decide) rfl dX6_isUser_17 h
  · have h := h.2 hc
    refine go_iload_n C 4 5 1 1 dX6_isUser_4 rfl rfl rfl ?_
    refine go_aload_n C 5 6 0 0 dX6_isUser_5 rfl rfl rfl ?_
    refine go_getI C 6 9 iw6 25 (lu25 ex) rfl 9 (by decide) k530_ rfl rfl dX6_isUser_6 rfl ?_
    refine go_icmp_ge C 9 12 16 dX6_isUser_9 (by decide) rfl (fun hc => ?_) (fun hc => ?_)
    · have h := h.1 hc
      refine go_iconst C 16 17 (0) dX6_isUser_16 (by decide) rfl ?_
      exact go_zret C 17 (by decide) rfl dX6_isUser_17 h
    · have h := h.2 hc
      refine go_iconst C 12 13 (1) dX6_isUser_12 (by decide) rfl ?_
      refine go_goto C 13 17 dX6_isUser_13 (by decide) ?_
      exact go_zret C 17 (by decide) rfl dX6_isUser_17 h
-- BillHouseModel.isThere(I)Z
theorem qX6_isThere : (parseMethodDescriptor yX6_isThere.desc).map (fun d => d.parameters.length) = some 1 := by decide +kernel
theorem mhX6_isThere : yX6_isThere.cls ≠ "java/lang/invoke/MethodHandle" ∧ yX6_isThere.cls ≠ "java/lang/invoke/VarHandle" := by decide +kernel
def rX6_isThere : Room := { frames := 1, cells := 0, slots := 0, locals := 21 }
def wp_X6_isThere (S : St) (a1 : Int32) (post : Int32 → St → Prop) : Prop :=
  wp_X6_isUser S a1 (fun (r2 : Int32) (S1 : St) => (r2 = 0 → post (0 : Int32) S1) ∧ (¬ (r2 = 0) → (vp_in a1 8) ∧ (((S1.1 32 a1.toNatClampNeg) = 0 → post (0 : Int32) S1) ∧ (¬ ((S1.1 32 a1.toNatClampNeg) = 0) → post (1 : Int32) S1))))
set_option maxHeartbeats 4000000 in
set_option maxRecDepth 100000 in
theorem c_X6_isThere {l : Launch} {D : va_G} {cA : Nat → ClassId} {ad : Nat → Nat} {ex : List Lay} (S : St) (a1 : Int32)  {post : Int32 → St → Prop} (h : wp_X6_isThere S a1 post) : MetI l yX6_isThere cX6_isThere 2 (some .boolean) rX6_isThere D cA ad (LU ++ ex) [.ref (ad 25), .int a1] S post 0 0 := by
  refine MetI.of (by decide) (Nat.le_of_ble_eq_true rfl) ?_
  intro p e s m args below meth c C
  unfold wp_X6_isThere at h
  show Go p l e rX6_isThere s m args below meth c D cA ad (LU ++ ex) 2 0 0 _ S 0 [(0, .ref (ad 25)), (1, .int a1)] []
  replace C : Cx p s m args meth c cX6_isThere 2 (some .boolean) RX6 D cA ad (LU ++ ex) := C
  refine go_aload_n C 0 1 0 0 dX6_isThere_0 rfl rfl rfl ?_
  refine go_iload_n C 1 2 1 1 dX6_isThere_1 rfl rfl rfl ?_
  refine go_vi C 2 5 0 0 [.int a1] 25 (lu25 ex) rfl (c_X6_isUser _ _  h) k624_ k627_ k57_ k626_ k37_ qX6_isUser mhX6_isUser (by decide) (by decide) rfl rfl rfl rfl (Nat.le_of_ble_eq_true rfl) rfl rfl dX6_isThere_2 (fun r2 S1 h => ?_)
  refine go_if_eq C 5 8 21 dX6_isThere_5 (by decide) rfl (fun hc => ?_) (fun hc => ?_)
  · have h := h.1 hc
    refine go_iconst C 21 22 (0) dX6_isThere_21 (by decide) rfl ?_
    exact go_zret C 22 (by decide) rfl dX6_isThere_22 h
  · have h := h.2 hc
    refine go_aload_n C 8 9 0 0 dX6_isThere_8 rfl rfl rfl ?_
    refine go_getR C 9 12 iw6 25 (lu25 ex) rfl 7 (by decide) k528_ rfl rfl dX6_isThere_9 rfl ?_
    refine go_iload_n C 12 13 1 1 dX6_isThere_12 rfl rfl rfl ?_
    obtain ⟨hi3, h⟩ := h
    refine go_zald C 13 14 32 (lu32 ex) hi3 dX6_isThere_13 rfl ?_
    refine go_if_eq C 14 17 21 dX6_isThere_14 (by decide) rfl (fun hc => ?_) (fun hc => ?_)
    · have h := h.1 hc
      refine go_iconst C 21 22 (0) dX6_isThere_21 (by decide) rfl ?_
      exact go_zret C 22 (by decide) rfl dX6_isThere_22 h
    · have h := h.2 hc
      refine go_iconst C 17 18 (1) dX6_isThere_17 (by decide) rfl ?_
      refine go_goto C 18 22 dX6_isThere_18 (by decide) ?_
      exact go_zret C 22 (by decide) rfl dX6_isThere_22 h
-- BillHouseModel.work(II)I
theorem qX6_work : (parseMethodDescriptor yX6_work.desc).map (fun d => d.parameters.length) = some 2 := by decide +kernel
theorem mhX6_work : yX6_work.cls ≠ "java/lang/invoke/MethodHandle" ∧ yX6_work.cls ≠ "java/lang/invoke/VarHandle" := by decide +kernel
def rX6_work : Room := { frames := 1, cells := 0, slots := 0, locals := 22 }
def wp_X6_work (S : St) (a1 : Int32) (a2 : Int32) (post : Int32 → St → Prop) : Prop :=
  ∀ S1 : St, S1 = uI S 25 0 (0 : Int32) → ((S1.1 25 8) = (6 : Int32) → post (-1 : Int32) S1) ∧ (¬ ((S1.1 25 8) = (6 : Int32)) → wp_X6_isIn S1 a1 (0 : Int32) (10000 : Int32) (fun (r3 : Int32) (S2 : St) => (r3 = 0 → post (-1 : Int32) S2) ∧ (¬ (r3 = 0) → wp_X6_isIn S2 a2 (0 : Int32) (100 : Int32) (fun (r5 : Int32) (S4 : St) => (¬ r5 = 0 → (vp_in (S4.1 25 8) 6) ∧ (∀ S7 : St, S7 = uI S4 26 ((S4.1 25 8).toNatClampNeg) a1 → (vp_in (S7.1 25 8) 6) ∧ (∀ S9 : St, S9 = uI S7 27 ((S7.1 25 8).toNatClampNeg) a2 → ∀ S10 : St, S10 = uI S9 25 8 ((S9.1 25 8) + (1 : Int32)) → post ((S10.1 25 8) - (1 : Int32)) S10))) ∧ (r5 = 0 → post (-1 : Int32) S4)))))
set_option maxHeartbeats 4000000 in
set_option maxRecDepth 100000 in
theorem c_X6_work {l : Launch} {D : va_G} {cA : Nat → ClassId} {ad : Nat → Nat} {ex : List Lay} (S : St) (a1 : Int32) (a2 : Int32)  {post : Int32 → St → Prop} (h : wp_X6_work S a1 a2 post) : MetI l yX6_work cX6_work 3 (some .int) rX6_work D cA ad (LU ++ ex) [.ref (ad 25), .int a1, .int a2] S post 0 0 := by
  refine MetI.of (by decide) (Nat.le_of_ble_eq_true rfl) ?_
  intro p e s m args below meth c C
  unfold wp_X6_work at h
  show Go p l e rX6_work s m args below meth c D cA ad (LU ++ ex) 3 0 0 _ S 0 [(0, .ref (ad 25)), (1, .int a1), (2, .int a2)] []
  replace C : Cx p s m args meth c cX6_work 3 (some .int) RX6 D cA ad (LU ++ ex) := C
  refine go_aload_n C 0 1 0 0 dX6_work_0 rfl rfl rfl ?_
  refine go_iconst C 1 2 (0) dX6_work_1 (by decide) rfl ?_
  refine go_putI C 2 5 iw6 25 (lu25 ex) rfl 0 (by decide) tyX6 tyX6_ok nmX6 k521_ rfl rfl rfl (by decide +kernel) dX6_work_2 rfl ?_
  refine go_nm (fun S1 hS1 => ?_)
  replace h := h S1 hS1
  refine go_aload_n C 5 6 0 0 dX6_work_5 rfl rfl rfl ?_
  refine go_getI C 6 9 iw6 25 (lu25 ex) rfl 8 (by decide) k529_ rfl rfl dX6_work_6 rfl ?_
  refine go_bipush C 9 11 (6) dX6_work_9 (by decide) rfl ?_
  refine go_icmp_eq C 11 14 35 dX6_work_11 (by decide) rfl (fun hc => ?_) (fun hc => ?_)
  · have h := h.1 hc
    refine go_iconst C 35 36 (-1) dX6_work_35 (by decide) rfl ?_
    exact go_iret C 36 rfl dX6_work_36 h
  · have h := h.2 hc
    refine go_iload_n C 14 15 1 1 dX6_work_14 rfl rfl rfl ?_
    refine go_iconst C 15 16 (0) dX6_work_15 (by decide) rfl ?_
    refine go_sipush C 16 19 (10000) dX6_work_16 (by decide) rfl ?_
    refine go_si C 19 22 0 0 [.int a1, .int (0 : Int32), .int (10000 : Int32)] (c_X6_isIn _ _ _ _  h) k605_ k607_ k57_ k606_ qX6_isIn mhX6_isIn (by decide) (by decide) rfl rfl rfl rfl (Nat.le_of_ble_eq_true rfl) rfl rfl dX6_work_19 (fun r3 S2 h => ?_)
    refine go_if_eq C 22 25 35 dX6_work_22 (by decide) rfl (fun hc => ?_) (fun hc => ?_)
    · have h := h.1 hc
      refine go_iconst C 35 36 (-1) dX6_work_35 (by decide) rfl ?_
      exact go_iret C 36 rfl dX6_work_36 h
    · have h := h.2 hc
      refine go_iload_n C 25 26 2 2 dX6_work_25 rfl rfl rfl ?_
      refine go_iconst C 26 27 (0) dX6_work_26 (by decide) rfl ?_
      refine go_bipush C 27 29 (100) dX6_work_27 (by decide) rfl ?_
      refine go_si C 29 32 0 0 [.int a2, .int (0 : Int32), .int (100 : Int32)] (c_X6_isIn _ _ _ _  h) k605_ k607_ k57_ k606_ qX6_isIn mhX6_isIn (by decide) (by decide) rfl rfl rfl rfl (Nat.le_of_ble_eq_true rfl) rfl rfl dX6_work_29 (fun r5 S4 h => ?_)
      refine go_if_ne C 32 35 37 dX6_work_32 (by decide) rfl (fun hc => ?_) (fun hc => ?_)
      · have h := h.1 hc
        refine go_aload_n C 37 38 0 0 dX6_work_37 rfl rfl rfl ?_
        refine go_getR C 38 41 iw6 25 (lu25 ex) rfl 1 (by decide) k522_ rfl rfl dX6_work_38 rfl ?_
        refine go_aload_n C 41 42 0 0 dX6_work_41 rfl rfl rfl ?_
        refine go_getI C 42 45 iw6 25 (lu25 ex) rfl 8 (by decide) k529_ rfl rfl dX6_work_42 rfl ?_
        refine go_iload_n C 45 46 1 1 dX6_work_45 rfl rfl rfl ?_
        obtain ⟨hi6, h⟩ := h
        refine go_iast C 46 47 26 (lu26 ex) hi6 dX6_work_46 rfl ?_
        refine go_nm (fun S7 hS7 => ?_)
        replace h := h S7 hS7
        refine go_aload_n C 47 48 0 0 dX6_work_47 rfl rfl rfl ?_
        refine go_getR C 48 51 iw6 25 (lu25 ex) rfl 2 (by decide) k523_ rfl rfl dX6_work_48 rfl ?_
        refine go_aload_n C 51 52 0 0 dX6_work_51 rfl rfl rfl ?_
        refine go_getI C 52 55 iw6 25 (lu25 ex) rfl 8 (by decide) k529_ rfl rfl dX6_work_52 rfl ?_
        refine go_iload_n C 55 56 2 2 dX6_work_55 rfl rfl rfl ?_
        obtain ⟨hi8, h⟩ := h
        refine go_iast C 56 57 27 (lu27 ex) hi8 dX6_work_56 rfl ?_
        refine go_nm (fun S9 hS9 => ?_)
        replace h := h S9 hS9
        refine go_aload_n C 57 58 0 0 dX6_work_57 rfl rfl rfl ?_
        refine go_dup C 58 59 rfl dX6_work_58 rfl ?_
        refine go_getI C 59 62 iw6 25 (lu25 ex) rfl 8 (by decide) k529_ rfl rfl dX6_work_59 rfl ?_
        refine go_iconst C 62 63 (1) dX6_work_62 (by decide) rfl ?_
        refine go_iadd C 63 64 dX6_work_63 rfl ?_
        refine go_putI C 64 67 iw6 25 (lu25 ex) rfl 8 (by decide) tyX6 tyX6_ok nmX6 k529_ rfl rfl rfl (by decide +kernel) dX6_work_64 rfl ?_
        refine go_nm (fun S10 hS10 => ?_)
        replace h := h S10 hS10
        refine go_aload_n C 67 68 0 0 dX6_work_67 rfl rfl rfl ?_
        refine go_getI C 68 71 iw6 25 (lu25 ex) rfl 8 (by decide) k529_ rfl rfl dX6_work_68 rfl ?_
        refine go_iconst C 71 72 (1) dX6_work_71 (by decide) rfl ?_
        refine go_isub C 72 73 dX6_work_72 rfl ?_
        exact go_iret C 73 rfl dX6_work_73 h
      · have h := h.2 hc
        refine go_iconst C 35 36 (-1) dX6_work_35 (by decide) rfl ?_
        exact go_iret C 36 rfl dX6_work_36 h
-- BillHouseModel.user()I
theorem qX6_user : (parseMethodDescriptor yX6_user.desc).map (fun d => d.parameters.length) = some 0 := by decide +kernel
theorem mhX6_user : yX6_user.cls ≠ "java/lang/invoke/MethodHandle" ∧ yX6_user.cls ≠ "java/lang/invoke/VarHandle" := by decide +kernel
def rX6_user : Room := { frames := 0, cells := 0, slots := 0, locals := 0 }
def wp_X6_user (S : St) (post : Int32 → St → Prop) : Prop :=
  ∀ S1 : St, S1 = uI S 25 0 (0 : Int32) → (¬ (S1.1 25 9) = (8 : Int32) → (vp_in (S1.1 25 9) 8) ∧ (∀ S3 : St, S3 = uI S1 32 ((S1.1 25 9).toNatClampNeg) (vp_nar .boolean (1 : Int32)) → ∀ S4 : St, S4 = uI S3 25 9 ((S3.1 25 9) + (1 : Int32)) → post ((S4.1 25 9) - (1 : Int32)) S4)) ∧ ((S1.1 25 9) = (8 : Int32) → post (-1 : Int32) S1)
set_option maxHeartbeats 4000000 in
set_option maxRecDepth 100000 in
theorem c_X6_user {l : Launch} {D : va_G} {cA : Nat → ClassId} {ad : Nat → Nat} {ex : List Lay} (S : St)  {post : Int32 → St → Prop} (h : wp_X6_user S post) : MetI l yX6_user cX6_user 1 (some .int) rX6_user D cA ad (LU ++ ex) [.ref (ad 25)] S post 0 0 := by
  refine MetI.of (by decide) (Nat.le_of_ble_eq_true rfl) ?_
  intro p e s m args below meth c C
  unfold wp_X6_user at h
  show Go p l e rX6_user s m args below meth c D cA ad (LU ++ ex) 1 0 0 _ S 0 [(0, .ref (ad 25))] []
  replace C : Cx p s m args meth c cX6_user 1 (some .int) RX6 D cA ad (LU ++ ex) := C
  refine go_aload_n C 0 1 0 0 dX6_user_0 rfl rfl rfl ?_
  refine go_iconst C 1 2 (0) dX6_user_1 (by decide) rfl ?_
  refine go_putI C 2 5 iw6 25 (lu25 ex) rfl 0 (by decide) tyX6 tyX6_ok nmX6 k521_ rfl rfl rfl (by decide +kernel) dX6_user_2 rfl ?_
  refine go_nm (fun S1 hS1 => ?_)
  replace h := h S1 hS1
  refine go_aload_n C 5 6 0 0 dX6_user_5 rfl rfl rfl ?_
  refine go_getI C 6 9 iw6 25 (lu25 ex) rfl 9 (by decide) k530_ rfl rfl dX6_user_6 rfl ?_
  refine go_bipush C 9 11 (8) dX6_user_9 (by decide) rfl ?_
  refine go_icmp_ne C 11 14 16 dX6_user_11 (by decide) rfl (fun hc => ?_) (fun hc => ?_)
  · have h := h.1 hc
    refine go_aload_n C 16 17 0 0 dX6_user_16 rfl rfl rfl ?_
    refine go_getR C 17 20 iw6 25 (lu25 ex) rfl 7 (by decide) k528_ rfl rfl dX6_user_17 rfl ?_
    refine go_aload_n C 20 21 0 0 dX6_user_20 rfl rfl rfl ?_
    refine go_getI C 21 24 iw6 25 (lu25 ex) rfl 9 (by decide) k530_ rfl rfl dX6_user_21 rfl ?_
    refine go_iconst C 24 25 (1) dX6_user_24 (by decide) rfl ?_
    obtain ⟨hi2, h⟩ := h
    refine go_zast C 25 26 32 (lu32 ex) hi2 dX6_user_25 rfl ?_
    refine go_nm (fun S3 hS3 => ?_)
    replace h := h S3 hS3
    refine go_aload_n C 26 27 0 0 dX6_user_26 rfl rfl rfl ?_
    refine go_dup C 27 28 rfl dX6_user_27 rfl ?_
    refine go_getI C 28 31 iw6 25 (lu25 ex) rfl 9 (by decide) k530_ rfl rfl dX6_user_28 rfl ?_
    refine go_iconst C 31 32 (1) dX6_user_31 (by decide) rfl ?_
    refine go_iadd C 32 33 dX6_user_32 rfl ?_
    refine go_putI C 33 36 iw6 25 (lu25 ex) rfl 9 (by decide) tyX6 tyX6_ok nmX6 k530_ rfl rfl rfl (by decide +kernel) dX6_user_33 rfl ?_
    refine go_nm (fun S4 hS4 => ?_)
    replace h := h S4 hS4
    refine go_aload_n C 36 37 0 0 dX6_user_36 rfl rfl rfl ?_
    refine go_getI C 37 40 iw6 25 (lu25 ex) rfl 9 (by decide) k530_ rfl rfl dX6_user_37 rfl ?_
    refine go_iconst C 40 41 (1) dX6_user_40 (by decide) rfl ?_
    refine go_isub C 41 42 dX6_user_41 rfl ?_
    exact go_iret C 42 rfl dX6_user_42 h
  · have h := h.2 hc
    refine go_iconst C 14 15 (-1) dX6_user_14 (by decide) rfl ?_
    exact go_iret C 15 rfl dX6_user_15 h
-- BillHouseModel.change(III)Z
theorem qX6_change : (parseMethodDescriptor yX6_change.desc).map (fun d => d.parameters.length) = some 3 := by decide +kernel
theorem mhX6_change : yX6_change.cls ≠ "java/lang/invoke/MethodHandle" ∧ yX6_change.cls ≠ "java/lang/invoke/VarHandle" := by decide +kernel
def rX6_change : Room := { frames := 1, cells := 0, slots := 0, locals := 22 }
def wp_X6_change (S : St) (a1 : Int32) (a2 : Int32) (a3 : Int32) (post : Int32 → St → Prop) : Prop :=
  ∀ S1 : St, S1 = uI S 25 0 (0 : Int32) → wp_X6_isWork S1 a1 (fun (r3 : Int32) (S2 : St) => (r3 = 0 → post (0 : Int32) S2) ∧ (¬ (r3 = 0) → wp_X6_isIn S2 a2 (0 : Int32) (10000 : Int32) (fun (r5 : Int32) (S4 : St) => (r5 = 0 → post (0 : Int32) S4) ∧ (¬ (r5 = 0) → wp_X6_isIn S4 a3 (0 : Int32) (100 : Int32) (fun (r7 : Int32) (S6 : St) => (¬ r7 = 0 → (vp_in a1 6) ∧ (∀ S9 : St, S9 = uI S6 26 a1.toNatClampNeg a2 → (vp_in a1 6) ∧ (∀ S11 : St, S11 = uI S9 27 a1.toNatClampNeg a3 → post (1 : Int32) S11))) ∧ (r7 = 0 → post (0 : Int32) S6))))))
set_option maxHeartbeats 4000000 in
set_option maxRecDepth 100000 in
theorem c_X6_change {l : Launch} {D : va_G} {cA : Nat → ClassId} {ad : Nat → Nat} {ex : List Lay} (S : St) (a1 : Int32) (a2 : Int32) (a3 : Int32)  {post : Int32 → St → Prop} (h : wp_X6_change S a1 a2 a3 post) : MetI l yX6_change cX6_change 4 (some .boolean) rX6_change D cA ad (LU ++ ex) [.ref (ad 25), .int a1, .int a2, .int a3] S post 0 0 := by
  refine MetI.of (by decide) (Nat.le_of_ble_eq_true rfl) ?_
  intro p e s m args below meth c C
  unfold wp_X6_change at h
  show Go p l e rX6_change s m args below meth c D cA ad (LU ++ ex) 4 0 0 _ S 0 [(0, .ref (ad 25)), (1, .int a1), (2, .int a2), (3, .int a3)] []
  replace C : Cx p s m args meth c cX6_change 4 (some .boolean) RX6 D cA ad (LU ++ ex) := C
  refine go_aload_n C 0 1 0 0 dX6_change_0 rfl rfl rfl ?_
  refine go_iconst C 1 2 (0) dX6_change_1 (by decide) rfl ?_
  refine go_putI C 2 5 iw6 25 (lu25 ex) rfl 0 (by decide) tyX6 tyX6_ok nmX6 k521_ rfl rfl rfl (by decide +kernel) dX6_change_2 rfl ?_
  refine go_nm (fun S1 hS1 => ?_)
  replace h := h S1 hS1
  refine go_aload_n C 5 6 0 0 dX6_change_5 rfl rfl rfl ?_
  refine go_iload_n C 6 7 1 1 dX6_change_6 rfl rfl rfl ?_
  refine go_vi C 7 10 0 0 [.int a1] 25 (lu25 ex) rfl (c_X6_isWork _ _  h) k616_ k619_ k57_ k618_ k36_ qX6_isWork mhX6_isWork (by decide) (by decide) rfl rfl rfl rfl (Nat.le_of_ble_eq_true rfl) rfl rfl dX6_change_7 (fun r3 S2 h => ?_)
  refine go_if_eq C 10 13 34 dX6_change_10 (by decide) rfl (fun hc => ?_) (fun hc => ?_)
  · have h := h.1 hc
    refine go_iconst C 34 35 (0) dX6_change_34 (by decide) rfl ?_
    exact go_zret C 35 (by decide) rfl dX6_change_35 h
  · have h := h.2 hc
    refine go_iload_n C 13 14 2 2 dX6_change_13 rfl rfl rfl ?_
    refine go_iconst C 14 15 (0) dX6_change_14 (by decide) rfl ?_
    refine go_sipush C 15 18 (10000) dX6_change_15 (by decide) rfl ?_
    refine go_si C 18 21 0 0 [.int a2, .int (0 : Int32), .int (10000 : Int32)] (c_X6_isIn _ _ _ _  h) k605_ k607_ k57_ k606_ qX6_isIn mhX6_isIn (by decide) (by decide) rfl rfl rfl rfl (Nat.le_of_ble_eq_true rfl) rfl rfl dX6_change_18 (fun r5 S4 h => ?_)
    refine go_if_eq C 21 24 34 dX6_change_21 (by decide) rfl (fun hc => ?_) (fun hc => ?_)
    · have h := h.1 hc
      refine go_iconst C 34 35 (0) dX6_change_34 (by decide) rfl ?_
      exact go_zret C 35 (by decide) rfl dX6_change_35 h
    · have h := h.2 hc
      refine go_iload_n C 24 25 3 3 dX6_change_24 rfl rfl rfl ?_
      refine go_iconst C 25 26 (0) dX6_change_25 (by decide) rfl ?_
      refine go_bipush C 26 28 (100) dX6_change_26 (by decide) rfl ?_
      refine go_si C 28 31 0 0 [.int a3, .int (0 : Int32), .int (100 : Int32)] (c_X6_isIn _ _ _ _  h) k605_ k607_ k57_ k606_ qX6_isIn mhX6_isIn (by decide) (by decide) rfl rfl rfl rfl (Nat.le_of_ble_eq_true rfl) rfl rfl dX6_change_28 (fun r7 S6 h => ?_)
      refine go_if_ne C 31 34 36 dX6_change_31 (by decide) rfl (fun hc => ?_) (fun hc => ?_)
      · have h := h.1 hc
        refine go_aload_n C 36 37 0 0 dX6_change_36 rfl rfl rfl ?_
        refine go_getR C 37 40 iw6 25 (lu25 ex) rfl 1 (by decide) k522_ rfl rfl dX6_change_37 rfl ?_
        refine go_iload_n C 40 41 1 1 dX6_change_40 rfl rfl rfl ?_
        refine go_iload_n C 41 42 2 2 dX6_change_41 rfl rfl rfl ?_
        obtain ⟨hi8, h⟩ := h
        refine go_iast C 42 43 26 (lu26 ex) hi8 dX6_change_42 rfl ?_
        refine go_nm (fun S9 hS9 => ?_)
        replace h := h S9 hS9
        refine go_aload_n C 43 44 0 0 dX6_change_43 rfl rfl rfl ?_
        refine go_getR C 44 47 iw6 25 (lu25 ex) rfl 2 (by decide) k523_ rfl rfl dX6_change_44 rfl ?_
        refine go_iload_n C 47 48 1 1 dX6_change_47 rfl rfl rfl ?_
        refine go_iload_n C 48 49 3 3 dX6_change_48 rfl rfl rfl ?_
        obtain ⟨hi10, h⟩ := h
        refine go_iast C 49 50 27 (lu27 ex) hi10 dX6_change_49 rfl ?_
        refine go_nm (fun S11 hS11 => ?_)
        replace h := h S11 hS11
        refine go_iconst C 50 51 (1) dX6_change_50 (by decide) rfl ?_
        exact go_zret C 51 (by decide) rfl dX6_change_51 h
      · have h := h.2 hc
        refine go_iconst C 34 35 (0) dX6_change_34 (by decide) rfl ?_
        exact go_zret C 35 (by decide) rfl dX6_change_35 h
-- BillHouseModel.use(III)Z
theorem qX6_use : (parseMethodDescriptor yX6_use.desc).map (fun d => d.parameters.length) = some 3 := by decide +kernel
theorem mhX6_use : yX6_use.cls ≠ "java/lang/invoke/MethodHandle" ∧ yX6_use.cls ≠ "java/lang/invoke/VarHandle" := by decide +kernel
def rX6_use : Room := { frames := 1, cells := 0, slots := 0, locals := 22 }
def wp_X6_use (S : St) (a1 : Int32) (a2 : Int32) (a3 : Int32) (post : Int32 → St → Prop) : Prop :=
  ∀ S1 : St, S1 = uI S 25 0 (0 : Int32) → wp_X6_isWork S1 a1 (fun (r3 : Int32) (S2 : St) => (r3 = 0 → post (0 : Int32) S2) ∧ (¬ (r3 = 0) → wp_X6_isUser S2 a2 (fun (r5 : Int32) (S4 : St) => (r5 = 0 → post (0 : Int32) S4) ∧ (¬ (r5 = 0) → wp_X6_isIn S4 a3 (0 : Int32) (9 : Int32) (fun (r7 : Int32) (S6 : St) => (¬ r7 = 0 → (vp_in (((8 : Int32) * a1) + a2) 48) ∧ (∀ S9 : St, S9 = uI S6 28 ((((8 : Int32) * a1) + a2).toNatClampNeg) a3 → post (1 : Int32) S9)) ∧ (r7 = 0 → post (0 : Int32) S6))))))
set_option maxHeartbeats 4000000 in
set_option maxRecDepth 100000 in
theorem c_X6_use {l : Launch} {D : va_G} {cA : Nat → ClassId} {ad : Nat → Nat} {ex : List Lay} (S : St) (a1 : Int32) (a2 : Int32) (a3 : Int32)  {post : Int32 → St → Prop} (h : wp_X6_use S a1 a2 a3 post) : MetI l yX6_use cX6_use 4 (some .boolean) rX6_use D cA ad (LU ++ ex) [.ref (ad 25), .int a1, .int a2, .int a3] S post 0 0 := by
  refine MetI.of (by decide) (Nat.le_of_ble_eq_true rfl) ?_
  intro p e s m args below meth c C
  unfold wp_X6_use at h
  show Go p l e rX6_use s m args below meth c D cA ad (LU ++ ex) 4 0 0 _ S 0 [(0, .ref (ad 25)), (1, .int a1), (2, .int a2), (3, .int a3)] []
  replace C : Cx p s m args meth c cX6_use 4 (some .boolean) RX6 D cA ad (LU ++ ex) := C
  refine go_aload_n C 0 1 0 0 dX6_use_0 rfl rfl rfl ?_
  refine go_iconst C 1 2 (0) dX6_use_1 (by decide) rfl ?_
  refine go_putI C 2 5 iw6 25 (lu25 ex) rfl 0 (by decide) tyX6 tyX6_ok nmX6 k521_ rfl rfl rfl (by decide +kernel) dX6_use_2 rfl ?_
  refine go_nm (fun S1 hS1 => ?_)
  replace h := h S1 hS1
  refine go_aload_n C 5 6 0 0 dX6_use_5 rfl rfl rfl ?_
  refine go_iload_n C 6 7 1 1 dX6_use_6 rfl rfl rfl ?_
  refine go_vi C 7 10 0 0 [.int a1] 25 (lu25 ex) rfl (c_X6_isWork _ _  h) k616_ k619_ k57_ k618_ k36_ qX6_isWork mhX6_isWork (by decide) (by decide) rfl rfl rfl rfl (Nat.le_of_ble_eq_true rfl) rfl rfl dX6_use_7 (fun r3 S2 h => ?_)
  refine go_if_eq C 10 13 31 dX6_use_10 (by decide) rfl (fun hc => ?_) (fun hc => ?_)
  · have h := h.1 hc
    refine go_iconst C 31 32 (0) dX6_use_31 (by decide) rfl ?_
    exact go_zret C 32 (by decide) rfl dX6_use_32 h
  · have h := h.2 hc
    refine go_aload_n C 13 14 0 0 dX6_use_13 rfl rfl rfl ?_
    refine go_iload_n C 14 15 2 2 dX6_use_14 rfl rfl rfl ?_
    refine go_vi C 15 18 0 0 [.int a2] 25 (lu25 ex) rfl (c_X6_isUser _ _  h) k624_ k627_ k57_ k626_ k37_ qX6_isUser mhX6_isUser (by decide) (by decide) rfl rfl rfl rfl (Nat.le_of_ble_eq_true rfl) rfl rfl dX6_use_15 (fun r5 S4 h => ?_)
    refine go_if_eq C 18 21 31 dX6_use_18 (by decide) rfl (fun hc => ?_) (fun hc => ?_)
    · have h := h.1 hc
      refine go_iconst C 31 32 (0) dX6_use_31 (by decide) rfl ?_
      exact go_zret C 32 (by decide) rfl dX6_use_32 h
    · have h := h.2 hc
      refine go_iload_n C 21 22 3 3 dX6_use_21 rfl rfl rfl ?_
      refine go_iconst C 22 23 (0) dX6_use_22 (by decide) rfl ?_
      refine go_bipush C 23 25 (9) dX6_use_23 (by decide) rfl ?_
      refine go_si C 25 28 0 0 [.int a3, .int (0 : Int32), .int (9 : Int32)] (c_X6_isIn _ _ _ _  h) k605_ k607_ k57_ k606_ qX6_isIn mhX6_isIn (by decide) (by decide) rfl rfl rfl rfl (Nat.le_of_ble_eq_true rfl) rfl rfl dX6_use_25 (fun r7 S6 h => ?_)
      refine go_if_ne C 28 31 33 dX6_use_28 (by decide) rfl (fun hc => ?_) (fun hc => ?_)
      · have h := h.1 hc
        refine go_aload_n C 33 34 0 0 dX6_use_33 rfl rfl rfl ?_
        refine go_getR C 34 37 iw6 25 (lu25 ex) rfl 3 (by decide) k524_ rfl rfl dX6_use_34 rfl ?_
        refine go_bipush C 37 39 (8) dX6_use_37 (by decide) rfl ?_
        refine go_iload_n C 39 40 1 1 dX6_use_39 rfl rfl rfl ?_
        refine go_imul C 40 41 dX6_use_40 rfl ?_
        refine go_iload_n C 41 42 2 2 dX6_use_41 rfl rfl rfl ?_
        refine go_iadd C 42 43 dX6_use_42 rfl ?_
        refine go_iload_n C 43 44 3 3 dX6_use_43 rfl rfl rfl ?_
        obtain ⟨hi8, h⟩ := h
        refine go_iast C 44 45 28 (lu28 ex) hi8 dX6_use_44 rfl ?_
        refine go_nm (fun S9 hS9 => ?_)
        replace h := h S9 hS9
        refine go_iconst C 45 46 (1) dX6_use_45 (by decide) rfl ?_
        exact go_zret C 46 (by decide) rfl dX6_use_46 h
      · have h := h.2 hc
        refine go_iconst C 31 32 (0) dX6_use_31 (by decide) rfl ?_
        exact go_zret C 32 (by decide) rfl dX6_use_32 h
-- BillHouseModel.feed(III)Z
theorem qX6_feed : (parseMethodDescriptor yX6_feed.desc).map (fun d => d.parameters.length) = some 3 := by decide +kernel
theorem mhX6_feed : yX6_feed.cls ≠ "java/lang/invoke/MethodHandle" ∧ yX6_feed.cls ≠ "java/lang/invoke/VarHandle" := by decide +kernel
def rX6_feed : Room := { frames := 1, cells := 0, slots := 0, locals := 22 }
def wp_X6_feed (S : St) (a1 : Int32) (a2 : Int32) (a3 : Int32) (post : Int32 → St → Prop) : Prop :=
  ∀ S1 : St, S1 = uI S 25 0 (0 : Int32) → wp_X6_isWork S1 a1 (fun (r3 : Int32) (S2 : St) => (r3 = 0 → post (0 : Int32) S2) ∧ (¬ (r3 = 0) → wp_X6_isWork S2 a2 (fun (r5 : Int32) (S4 : St) => (r5 = 0 → post (0 : Int32) S4) ∧ (¬ (r5 = 0) → (a1 = a2 → post (0 : Int32) S4) ∧ (¬ (a1 = a2) → wp_X6_isIn S4 a3 (0 : Int32) (9 : Int32) (fun (r7 : Int32) (S6 : St) => (¬ r7 = 0 → (vp_in (((6 : Int32) * a1) + a2) 36) ∧ (∀ S9 : St, S9 = uI S6 29 ((((6 : Int32) * a1) + a2).toNatClampNeg) a3 → post (1 : Int32) S9)) ∧ (r7 = 0 → post (0 : Int32) S6)))))))
set_option maxHeartbeats 4000000 in
set_option maxRecDepth 100000 in
theorem c_X6_feed {l : Launch} {D : va_G} {cA : Nat → ClassId} {ad : Nat → Nat} {ex : List Lay} (S : St) (a1 : Int32) (a2 : Int32) (a3 : Int32)  {post : Int32 → St → Prop} (h : wp_X6_feed S a1 a2 a3 post) : MetI l yX6_feed cX6_feed 4 (some .boolean) rX6_feed D cA ad (LU ++ ex) [.ref (ad 25), .int a1, .int a2, .int a3] S post 0 0 := by
  refine MetI.of (by decide) (Nat.le_of_ble_eq_true rfl) ?_
  intro p e s m args below meth c C
  unfold wp_X6_feed at h
  show Go p l e rX6_feed s m args below meth c D cA ad (LU ++ ex) 4 0 0 _ S 0 [(0, .ref (ad 25)), (1, .int a1), (2, .int a2), (3, .int a3)] []
  replace C : Cx p s m args meth c cX6_feed 4 (some .boolean) RX6 D cA ad (LU ++ ex) := C
  refine go_aload_n C 0 1 0 0 dX6_feed_0 rfl rfl rfl ?_
  refine go_iconst C 1 2 (0) dX6_feed_1 (by decide) rfl ?_
  refine go_putI C 2 5 iw6 25 (lu25 ex) rfl 0 (by decide) tyX6 tyX6_ok nmX6 k521_ rfl rfl rfl (by decide +kernel) dX6_feed_2 rfl ?_
  refine go_nm (fun S1 hS1 => ?_)
  replace h := h S1 hS1
  refine go_aload_n C 5 6 0 0 dX6_feed_5 rfl rfl rfl ?_
  refine go_iload_n C 6 7 1 1 dX6_feed_6 rfl rfl rfl ?_
  refine go_vi C 7 10 0 0 [.int a1] 25 (lu25 ex) rfl (c_X6_isWork _ _  h) k616_ k619_ k57_ k618_ k36_ qX6_isWork mhX6_isWork (by decide) (by decide) rfl rfl rfl rfl (Nat.le_of_ble_eq_true rfl) rfl rfl dX6_feed_7 (fun r3 S2 h => ?_)
  refine go_if_eq C 10 13 36 dX6_feed_10 (by decide) rfl (fun hc => ?_) (fun hc => ?_)
  · have h := h.1 hc
    refine go_iconst C 36 37 (0) dX6_feed_36 (by decide) rfl ?_
    exact go_zret C 37 (by decide) rfl dX6_feed_37 h
  · have h := h.2 hc
    refine go_aload_n C 13 14 0 0 dX6_feed_13 rfl rfl rfl ?_
    refine go_iload_n C 14 15 2 2 dX6_feed_14 rfl rfl rfl ?_
    refine go_vi C 15 18 0 0 [.int a2] 25 (lu25 ex) rfl (c_X6_isWork _ _  h) k616_ k619_ k57_ k618_ k36_ qX6_isWork mhX6_isWork (by decide) (by decide) rfl rfl rfl rfl (Nat.le_of_ble_eq_true rfl) rfl rfl dX6_feed_15 (fun r5 S4 h => ?_)
    refine go_if_eq C 18 21 36 dX6_feed_18 (by decide) rfl (fun hc => ?_) (fun hc => ?_)
    · have h := h.1 hc
      refine go_iconst C 36 37 (0) dX6_feed_36 (by decide) rfl ?_
      exact go_zret C 37 (by decide) rfl dX6_feed_37 h
    · have h := h.2 hc
      refine go_iload_n C 21 22 1 1 dX6_feed_21 rfl rfl rfl ?_
      refine go_iload_n C 22 23 2 2 dX6_feed_22 rfl rfl rfl ?_
      refine go_icmp_eq C 23 26 36 dX6_feed_23 (by decide) rfl (fun hc => ?_) (fun hc => ?_)
      · have h := h.1 hc
        refine go_iconst C 36 37 (0) dX6_feed_36 (by decide) rfl ?_
        exact go_zret C 37 (by decide) rfl dX6_feed_37 h
      · have h := h.2 hc
        refine go_iload_n C 26 27 3 3 dX6_feed_26 rfl rfl rfl ?_
        refine go_iconst C 27 28 (0) dX6_feed_27 (by decide) rfl ?_
        refine go_bipush C 28 30 (9) dX6_feed_28 (by decide) rfl ?_
        refine go_si C 30 33 0 0 [.int a3, .int (0 : Int32), .int (9 : Int32)] (c_X6_isIn _ _ _ _  h) k605_ k607_ k57_ k606_ qX6_isIn mhX6_isIn (by decide) (by decide) rfl rfl rfl rfl (Nat.le_of_ble_eq_true rfl) rfl rfl dX6_feed_30 (fun r7 S6 h => ?_)
        refine go_if_ne C 33 36 38 dX6_feed_33 (by decide) rfl (fun hc => ?_) (fun hc => ?_)
        · have h := h.1 hc
          refine go_aload_n C 38 39 0 0 dX6_feed_38 rfl rfl rfl ?_
          refine go_getR C 39 42 iw6 25 (lu25 ex) rfl 4 (by decide) k525_ rfl rfl dX6_feed_39 rfl ?_
          refine go_bipush C 42 44 (6) dX6_feed_42 (by decide) rfl ?_
          refine go_iload_n C 44 45 1 1 dX6_feed_44 rfl rfl rfl ?_
          refine go_imul C 45 46 dX6_feed_45 rfl ?_
          refine go_iload_n C 46 47 2 2 dX6_feed_46 rfl rfl rfl ?_
          refine go_iadd C 47 48 dX6_feed_47 rfl ?_
          refine go_iload_n C 48 49 3 3 dX6_feed_48 rfl rfl rfl ?_
          obtain ⟨hi8, h⟩ := h
          refine go_iast C 49 50 29 (lu29 ex) hi8 dX6_feed_49 rfl ?_
          refine go_nm (fun S9 hS9 => ?_)
          replace h := h S9 hS9
          refine go_iconst C 50 51 (1) dX6_feed_50 (by decide) rfl ?_
          exact go_zret C 51 (by decide) rfl dX6_feed_51 h
        · have h := h.2 hc
          refine go_iconst C 36 37 (0) dX6_feed_36 (by decide) rfl ?_
          exact go_zret C 37 (by decide) rfl dX6_feed_37 h
-- BillHouseModel.set(IZ)Z
theorem qX6_set : (parseMethodDescriptor yX6_set.desc).map (fun d => d.parameters.length) = some 2 := by decide +kernel
theorem mhX6_set : yX6_set.cls ≠ "java/lang/invoke/MethodHandle" ∧ yX6_set.cls ≠ "java/lang/invoke/VarHandle" := by decide +kernel
def rX6_set : Room := { frames := 1, cells := 0, slots := 0, locals := 21 }
def wp_X6_set (S : St) (a1 : Int32) (a2 : Int32) (post : Int32 → St → Prop) : Prop :=
  ∀ S1 : St, S1 = uI S 25 0 (0 : Int32) → wp_X6_isUser S1 a1 (fun (r3 : Int32) (S2 : St) => (r3 = 0 → post (0 : Int32) S2) ∧ (¬ (r3 = 0) → (vp_in a1 8) ∧ ((¬ (S2.1 32 a1.toNatClampNeg) = a2 → (vp_in a1 8) ∧ (∀ S6 : St, S6 = uI S2 32 a1.toNatClampNeg (vp_nar .boolean a2) → post (1 : Int32) S6)) ∧ ((S2.1 32 a1.toNatClampNeg) = a2 → post (0 : Int32) S2))))
set_option maxHeartbeats 4000000 in
set_option maxRecDepth 100000 in
theorem c_X6_set {l : Launch} {D : va_G} {cA : Nat → ClassId} {ad : Nat → Nat} {ex : List Lay} (S : St) (a1 : Int32) (a2 : Int32)  {post : Int32 → St → Prop} (h : wp_X6_set S a1 a2 post) : MetI l yX6_set cX6_set 3 (some .boolean) rX6_set D cA ad (LU ++ ex) [.ref (ad 25), .int a1, .int a2] S post 0 0 := by
  refine MetI.of (by decide) (Nat.le_of_ble_eq_true rfl) ?_
  intro p e s m args below meth c C
  unfold wp_X6_set at h
  show Go p l e rX6_set s m args below meth c D cA ad (LU ++ ex) 3 0 0 _ S 0 [(0, .ref (ad 25)), (1, .int a1), (2, .int a2)] []
  replace C : Cx p s m args meth c cX6_set 3 (some .boolean) RX6 D cA ad (LU ++ ex) := C
  refine go_aload_n C 0 1 0 0 dX6_set_0 rfl rfl rfl ?_
  refine go_iconst C 1 2 (0) dX6_set_1 (by decide) rfl ?_
  refine go_putI C 2 5 iw6 25 (lu25 ex) rfl 0 (by decide) tyX6 tyX6_ok nmX6 k521_ rfl rfl rfl (by decide +kernel) dX6_set_2 rfl ?_
  refine go_nm (fun S1 hS1 => ?_)
  replace h := h S1 hS1
  refine go_aload_n C 5 6 0 0 dX6_set_5 rfl rfl rfl ?_
  refine go_iload_n C 6 7 1 1 dX6_set_6 rfl rfl rfl ?_
  refine go_vi C 7 10 0 0 [.int a1] 25 (lu25 ex) rfl (c_X6_isUser _ _  h) k624_ k627_ k57_ k626_ k37_ qX6_isUser mhX6_isUser (by decide) (by decide) rfl rfl rfl rfl (Nat.le_of_ble_eq_true rfl) rfl rfl dX6_set_7 (fun r3 S2 h => ?_)
  refine go_if_eq C 10 13 23 dX6_set_10 (by decide) rfl (fun hc => ?_) (fun hc => ?_)
  · have h := h.1 hc
    refine go_iconst C 23 24 (0) dX6_set_23 (by decide) rfl ?_
    exact go_zret C 24 (by decide) rfl dX6_set_24 h
  · have h := h.2 hc
    refine go_aload_n C 13 14 0 0 dX6_set_13 rfl rfl rfl ?_
    refine go_getR C 14 17 iw6 25 (lu25 ex) rfl 7 (by decide) k528_ rfl rfl dX6_set_14 rfl ?_
    refine go_iload_n C 17 18 1 1 dX6_set_17 rfl rfl rfl ?_
    obtain ⟨hi4, h⟩ := h
    refine go_zald C 18 19 32 (lu32 ex) hi4 dX6_set_18 rfl ?_
    refine go_iload_n C 19 20 2 2 dX6_set_19 rfl rfl rfl ?_
    refine go_icmp_ne C 20 23 25 dX6_set_20 (by decide) rfl (fun hc => ?_) (fun hc => ?_)
    · have h := h.1 hc
      refine go_aload_n C 25 26 0 0 dX6_set_25 rfl rfl rfl ?_
      refine go_getR C 26 29 iw6 25 (lu25 ex) rfl 7 (by decide) k528_ rfl rfl dX6_set_26 rfl ?_
      refine go_iload_n C 29 30 1 1 dX6_set_29 rfl rfl rfl ?_
      refine go_iload_n C 30 31 2 2 dX6_set_30 rfl rfl rfl ?_
      obtain ⟨hi5, h⟩ := h
      refine go_zast C 31 32 32 (lu32 ex) hi5 dX6_set_31 rfl ?_
      refine go_nm (fun S6 hS6 => ?_)
      replace h := h S6 hS6
      refine go_iconst C 32 33 (1) dX6_set_32 (by decide) rfl ?_
      exact go_zret C 33 (by decide) rfl dX6_set_33 h
    · have h := h.2 hc
      refine go_iconst C 23 24 (0) dX6_set_23 (by decide) rfl ?_
      exact go_zret C 24 (by decide) rfl dX6_set_24 h
-- BillHouseModel.mark(II)I
theorem qX6_mark : (parseMethodDescriptor yX6_mark.desc).map (fun d => d.parameters.length) = some 2 := by decide +kernel
theorem mhX6_mark : yX6_mark.cls ≠ "java/lang/invoke/MethodHandle" ∧ yX6_mark.cls ≠ "java/lang/invoke/VarHandle" := by decide +kernel
def rX6_mark : Room := { frames := 1, cells := 0, slots := 0, locals := 21 }
def wp_X6_mark (S : St) (a1 : Int32) (a2 : Int32) (post : Int32 → St → Prop) : Prop :=
  ∀ S1 : St, S1 = uI S 25 0 (0 : Int32) → wp_X6_isUser S1 a1 (fun (r3 : Int32) (S2 : St) => (¬ r3 = 0 → (vp_in a1 8) ∧ (∀ x5 : Int64, x5 = (((S2.1 30 a1.toNatClampNeg).toInt64) + a2.toInt64) → (x5 < (-10000 : Int64) → post (-20000 : Int32) S2) ∧ (¬ (x5 < (-10000 : Int64)) → (x5 ≤ (10000 : Int64) → (vp_in a1 8) ∧ (∀ S7 : St, S7 = uI S2 30 a1.toNatClampNeg x5.toInt32 → (vp_in a1 8) ∧ (post (S7.1 30 a1.toNatClampNeg) S7))) ∧ (¬ (x5 ≤ (10000 : Int64)) → post (-20000 : Int32) S2)))) ∧ (r3 = 0 → post (-20000 : Int32) S2))
set_option maxHeartbeats 4000000 in
set_option maxRecDepth 100000 in
theorem c_X6_mark {l : Launch} {D : va_G} {cA : Nat → ClassId} {ad : Nat → Nat} {ex : List Lay} (S : St) (a1 : Int32) (a2 : Int32)  {post : Int32 → St → Prop} (h : wp_X6_mark S a1 a2 post) : MetI l yX6_mark cX6_mark 5 (some .int) rX6_mark D cA ad (LU ++ ex) [.ref (ad 25), .int a1, .int a2] S post 0 0 := by
  refine MetI.of (by decide) (Nat.le_of_ble_eq_true rfl) ?_
  intro p e s m args below meth c C
  unfold wp_X6_mark at h
  show Go p l e rX6_mark s m args below meth c D cA ad (LU ++ ex) 5 0 0 _ S 0 [(0, .ref (ad 25)), (1, .int a1), (2, .int a2)] []
  replace C : Cx p s m args meth c cX6_mark 5 (some .int) RX6 D cA ad (LU ++ ex) := C
  refine go_aload_n C 0 1 0 0 dX6_mark_0 rfl rfl rfl ?_
  refine go_iconst C 1 2 (0) dX6_mark_1 (by decide) rfl ?_
  refine go_putI C 2 5 iw6 25 (lu25 ex) rfl 0 (by decide) tyX6 tyX6_ok nmX6 k521_ rfl rfl rfl (by decide +kernel) dX6_mark_2 rfl ?_
  refine go_nm (fun S1 hS1 => ?_)
  replace h := h S1 hS1
  refine go_aload_n C 5 6 0 0 dX6_mark_5 rfl rfl rfl ?_
  refine go_iload_n C 6 7 1 1 dX6_mark_6 rfl rfl rfl ?_
  refine go_vi C 7 10 0 0 [.int a1] 25 (lu25 ex) rfl (c_X6_isUser _ _  h) k624_ k627_ k57_ k626_ k37_ qX6_isUser mhX6_isUser (by decide) (by decide) rfl rfl rfl rfl (Nat.le_of_ble_eq_true rfl) rfl rfl dX6_mark_7 (fun r3 S2 h => ?_)
  refine go_if_ne C 10 13 17 dX6_mark_10 (by decide) rfl (fun hc => ?_) (fun hc => ?_)
  · have h := h.1 hc
    refine go_aload_n C 17 18 0 0 dX6_mark_17 rfl rfl rfl ?_
    refine go_getR C 18 21 iw6 25 (lu25 ex) rfl 5 (by decide) k526_ rfl rfl dX6_mark_18 rfl ?_
    refine go_iload_n C 21 22 1 1 dX6_mark_21 rfl rfl rfl ?_
    obtain ⟨hi4, h⟩ := h
    refine go_iald C 22 23 30 (lu30 ex) hi4 dX6_mark_22 rfl ?_
    refine go_i2l C 23 24 dX6_mark_23 rfl ?_
    refine go_iload_n C 24 25 2 2 dX6_mark_24 rfl rfl rfl ?_
    refine go_i2l C 25 26 dX6_mark_25 rfl ?_
    refine go_ladd C 26 27 dX6_mark_26 rfl ?_
    refine go_topl (fun x5 hx5 => ?_)
    replace h := h x5 hx5
    refine go_lstore_n C 27 28 3 [(3, .long _), (0, .ref _), (1, .int _), (2, .int _)] dX6_mark_27 rfl (by decide) rfl rfl ?_
    refine go_lload_n C 28 29 3 0 dX6_mark_28 rfl rfl rfl ?_
    refine go_ldc2 C 29 32 k640_ dX6_mark_29 rfl ?_
    refine go_lcmp_lt C 32 36 44 dX6_mark_32 dX6_mark_33 (by decide) rfl (fun hc => ?_) (fun hc => ?_)
    · have h := h.1 hc
      refine go_sipush C 44 47 (-20000) dX6_mark_44 (by decide) rfl ?_
      exact go_iret C 47 rfl dX6_mark_47 h
    · have h := h.2 hc
      refine go_lload_n C 36 37 3 0 dX6_mark_36 rfl rfl rfl ?_
      refine go_ldc2 C 37 40 k641_ dX6_mark_37 rfl ?_
      refine go_lcmp_le C 40 44 48 dX6_mark_40 dX6_mark_41 (by decide) rfl (fun hc => ?_) (fun hc => ?_)
      · have h := h.1 hc
        refine go_aload_n C 48 49 0 1 dX6_mark_48 rfl rfl rfl ?_
        refine go_getR C 49 52 iw6 25 (lu25 ex) rfl 5 (by decide) k526_ rfl rfl dX6_mark_49 rfl ?_
        refine go_iload_n C 52 53 1 2 dX6_mark_52 rfl rfl rfl ?_
        refine go_lload_n C 53 54 3 0 dX6_mark_53 rfl rfl rfl ?_
        refine go_l2i C 54 55 dX6_mark_54 rfl ?_
        obtain ⟨hi6, h⟩ := h
        refine go_iast C 55 56 30 (lu30 ex) hi6 dX6_mark_55 rfl ?_
        refine go_nm (fun S7 hS7 => ?_)
        replace h := h S7 hS7
        refine go_aload_n C 56 57 0 1 dX6_mark_56 rfl rfl rfl ?_
        refine go_getR C 57 60 iw6 25 (lu25 ex) rfl 5 (by decide) k526_ rfl rfl dX6_mark_57 rfl ?_
        refine go_iload_n C 60 61 1 2 dX6_mark_60 rfl rfl rfl ?_
        obtain ⟨hi8, h⟩ := h
        refine go_iald C 61 62 30 (lu30 ex) hi8 dX6_mark_61 rfl ?_
        exact go_iret C 62 rfl dX6_mark_62 h
      · have h := h.2 hc
        refine go_sipush C 44 47 (-20000) dX6_mark_44 (by decide) rfl ?_
        exact go_iret C 47 rfl dX6_mark_47 h
  · have h := h.2 hc
    refine go_sipush C 13 16 (-20000) dX6_mark_13 (by decide) rfl ?_
    exact go_iret C 16 rfl dX6_mark_16 h
-- BillHouseModel.thereSet()I
theorem qX6_thereSet : (parseMethodDescriptor yX6_thereSet.desc).map (fun d => d.parameters.length) = some 0 := by decide +kernel
theorem mhX6_thereSet : yX6_thereSet.cls ≠ "java/lang/invoke/MethodHandle" ∧ yX6_thereSet.cls ≠ "java/lang/invoke/VarHandle" := by decide +kernel
def rX6_thereSet : Room := { frames := 0, cells := 0, slots := 0, locals := 0 }
def wB_X6_thereSet_4 (k rec : Int32 → Int32 → St → Prop) (v1 : Int32) (v2 : Int32) (S : St) : Prop :=
  ((S.1 25 9) ≤ v2 → k v1 v2 S) ∧ (¬ ((S.1 25 9) ≤ v2) → (vp_in v2 8) ∧ (((S.1 32 v2.toNatClampNeg) = 0 → ∀ x2 : Int32, x2 = (v1 ||| (0 : Int32)) → rec x2 (v2 + 1) S) ∧ (¬ ((S.1 32 v2.toNatClampNeg) = 0) → ∀ x3 : Int32, x3 = (v1 ||| ((1 : Int32) <<< (v2 &&& 31))) → rec x3 (v2 + 1) S)))
def wL_X6_thereSet_4 (k : Int32 → Int32 → St → Prop) : Nat → Int32 → Int32 → St → Prop
  | 0, _, _, _ => False
  | n + 1, v1, v2, S => wB_X6_thereSet_4 k (wL_X6_thereSet_4 k n) v1 v2 S
set_option maxHeartbeats 4000000 in
set_option maxRecDepth 100000 in
theorem L_X6_thereSet_4 {p : Program} {l : Launch} {e : Env} {s : State} {m : MethodId} {args : Array Value} {below : List Frame} {meth : Method} {c : Code} {D : va_G} {cA : Nat → ClassId} {ad : Nat → Nat} {ex : List Lay} {Q : State → Prop} (C : Cx p s m args meth c cX6_thereSet 3 (some .int) RX6 D cA ad (LU ++ ex))   {k : Int32 → Int32 → St → Prop} (hk : ∀ (v1 : Int32) (v2 : Int32) (S : St), k v1 v2 S → Go p l e rX6_thereSet s m args below meth c D cA ad (LU ++ ex) 3 0 0 Q S 37 [(1, .int v1)] []) : ∀ (n : Nat) (v1 : Int32) (v2 : Int32) (S : St), wL_X6_thereSet_4 k n v1 v2 S → Go p l e rX6_thereSet s m args below meth c D cA ad (LU ++ ex) 3 0 0 Q S 4 [(0, .ref (ad 25)), (1, .int v1), (2, .int v2)] [] := by
  intro n
  induction n with
  | zero => intro v1 v2 S h; exact h.elim
  | succ n ih =>
    intro v1 v2 S h
    replace h : wB_X6_thereSet_4 k (wL_X6_thereSet_4 k n) v1 v2 S := h
    unfold wB_X6_thereSet_4 at h
    refine go_iload_n C 4 5 2 2 dX6_thereSet_4 rfl rfl rfl ?_
    refine go_aload_n C 5 6 0 0 dX6_thereSet_5 rfl rfl rfl ?_
    refine go_getI C 6 9 iw6 25 (lu25 ex) rfl 9 (by decide) k530_ rfl rfl dX6_thereSet_6 rfl ?_
    refine go_icmp_ge C 9 12 37 dX6_thereSet_9 (by decide) rfl (fun hc => ?_) (fun hc => ?_)
    · have h := h.1 hc
      exact go_perm [1] rfl (hk _ _ _ h)
    · have h := h.2 hc
      refine go_iload_n C 12 13 1 1 dX6_thereSet_12 rfl rfl rfl ?_
      refine go_aload_n C 13 14 0 0 dX6_thereSet_13 rfl rfl rfl ?_
      refine go_getR C 14 17 iw6 25 (lu25 ex) rfl 7 (by decide) k528_ rfl rfl dX6_thereSet_14 rfl ?_
      refine go_iload_n C 17 18 2 2 dX6_thereSet_17 rfl rfl rfl ?_
      obtain ⟨hi1, h⟩ := h
      refine go_zald C 18 19 32 (lu32 ex) hi1 dX6_thereSet_18 rfl ?_
      refine go_if_eq C 19 22 28 dX6_thereSet_19 (by decide) rfl (fun hc => ?_) (fun hc => ?_)
      · have h := h.1 hc
        refine go_iconst C 28 29 (0) dX6_thereSet_28 (by decide) rfl ?_
        refine go_ior C 29 30 dX6_thereSet_29 rfl ?_
        refine go_topi (fun x2 hx2 => ?_)
        replace h := h x2 hx2
        refine go_istore_n C 30 31 1 [(1, .int _), (0, .ref _), (2, .int _)] dX6_thereSet_30 rfl (by decide) rfl rfl ?_
        refine go_iinc C 31 34 2 2 (v2 + 1) [(2, .int _), (1, .int _), (0, .ref _)] dX6_thereSet_31 rfl rfl (by decide) rfl rfl ?_
        refine go_goto C 34 4 dX6_thereSet_34 (by decide) ?_
        exact go_perm [2, 1, 0] rfl (ih _ _ _ h)
      · have h := h.2 hc
        refine go_iconst C 22 23 (1) dX6_thereSet_22 (by decide) rfl ?_
        refine go_iload_n C 23 24 2 2 dX6_thereSet_23 rfl rfl rfl ?_
        refine go_ishl C 24 25 dX6_thereSet_24 rfl ?_
        refine go_goto C 25 29 dX6_thereSet_25 (by decide) ?_
        refine go_ior C 29 30 dX6_thereSet_29 rfl ?_
        refine go_topi (fun x3 hx3 => ?_)
        replace h := h x3 hx3
        refine go_istore_n C 30 31 1 [(1, .int _), (0, .ref _), (2, .int _)] dX6_thereSet_30 rfl (by decide) rfl rfl ?_
        refine go_iinc C 31 34 2 2 (v2 + 1) [(2, .int _), (1, .int _), (0, .ref _)] dX6_thereSet_31 rfl rfl (by decide) rfl rfl ?_
        refine go_goto C 34 4 dX6_thereSet_34 (by decide) ?_
        exact go_perm [2, 1, 0] rfl (ih _ _ _ h)
def wp_X6_thereSet (S : St) (post : Int32 → St → Prop) : Prop :=
  ∃ fu4, wL_X6_thereSet_4 (fun (z2 : Int32) (z3 : Int32) (S1 : St) => post z2 S1) fu4 (0 : Int32) (0 : Int32) S
set_option maxHeartbeats 4000000 in
set_option maxRecDepth 100000 in
theorem c_X6_thereSet {l : Launch} {D : va_G} {cA : Nat → ClassId} {ad : Nat → Nat} {ex : List Lay} (S : St)  {post : Int32 → St → Prop} (h : wp_X6_thereSet S post) : MetI l yX6_thereSet cX6_thereSet 3 (some .int) rX6_thereSet D cA ad (LU ++ ex) [.ref (ad 25)] S post 0 0 := by
  refine MetI.of (by decide) (Nat.le_of_ble_eq_true rfl) ?_
  intro p e s m args below meth c C
  unfold wp_X6_thereSet at h
  show Go p l e rX6_thereSet s m args below meth c D cA ad (LU ++ ex) 3 0 0 _ S 0 [(0, .ref (ad 25))] []
  replace C : Cx p s m args meth c cX6_thereSet 3 (some .int) RX6 D cA ad (LU ++ ex) := C
  refine go_iconst C 0 1 (0) dX6_thereSet_0 (by decide) rfl ?_
  refine go_istore_n C 1 2 1 [(1, .int _), (0, .ref _)] dX6_thereSet_1 rfl (by decide) rfl rfl ?_
  refine go_iconst C 2 3 (0) dX6_thereSet_2 (by decide) rfl ?_
  refine go_istore_n C 3 4 2 [(2, .int _), (1, .int _), (0, .ref _)] dX6_thereSet_3 rfl (by decide) rfl rfl ?_
  obtain ⟨fu4, h⟩ := h
  refine go_perm [2, 1, 0] rfl (L_X6_thereSet_4 C   (fun z2 z3 S1 h => ?_) _ _ _ _ h)
  refine go_iload_n C 37 38 1 0 dX6_thereSet_37 rfl rfl rfl ?_
  exact go_iret C 38 rfl dX6_thereSet_38 h
-- BillHouseModel.neededBy(I)I
theorem qX6_neededBy : (parseMethodDescriptor yX6_neededBy.desc).map (fun d => d.parameters.length) = some 1 := by decide +kernel
theorem mhX6_neededBy : yX6_neededBy.cls ≠ "java/lang/invoke/MethodHandle" ∧ yX6_neededBy.cls ≠ "java/lang/invoke/VarHandle" := by decide +kernel
def rX6_neededBy : Room := { frames := 0, cells := 0, slots := 0, locals := 0 }
def wB_X6_neededBy_15 (p1 : Int32) (p3 : Int32) (k rec : Int32 → Int32 → St → Prop) (v2 : Int32) (v4 : Int32) (S : St) : Prop :=
  ((S.1 25 9) ≤ v4 → k v2 v4 S) ∧ (¬ ((S.1 25 9) ≤ v4) → (¬ ((p1 >>> (v4 &&& 31)) &&& (1 : Int32)) = (1 : Int32) → rec v2 (v4 + 1) S) ∧ (((p1 >>> (v4 &&& 31)) &&& (1 : Int32)) = (1 : Int32) → (vp_in (((8 : Int32) * p3) + v4) 48) ∧ (((S.1 28 (((8 : Int32) * p3) + v4).toNatClampNeg) ≤ 0 → rec v2 (v4 + 1) S) ∧ (¬ ((S.1 28 (((8 : Int32) * p3) + v4).toNatClampNeg) ≤ 0) → ∀ x2 : Int32, x2 = (v2 ||| ((1 : Int32) <<< (p3 &&& 31))) → rec x2 (v4 + 1) S))))
def wL_X6_neededBy_15 (p1 : Int32) (p3 : Int32) (k : Int32 → Int32 → St → Prop) : Nat → Int32 → Int32 → St → Prop
  | 0, _, _, _ => False
  | n + 1, v2, v4, S => wB_X6_neededBy_15 p1 p3 k (wL_X6_neededBy_15 p1 p3 k n) v2 v4 S
set_option maxHeartbeats 4000000 in
set_option maxRecDepth 100000 in
theorem L_X6_neededBy_15 {p : Program} {l : Launch} {e : Env} {s : State} {m : MethodId} {args : Array Value} {below : List Frame} {meth : Method} {c : Code} {D : va_G} {cA : Nat → ClassId} {ad : Nat → Nat} {ex : List Lay} {Q : State → Prop} (C : Cx p s m args meth c cX6_neededBy 6 (some .int) RX6 D cA ad (LU ++ ex))   (p1 : Int32) (p3 : Int32) {k : Int32 → Int32 → St → Prop} (hk : ∀ (v2 : Int32) (v4 : Int32) (S : St), k v2 v4 S → Go p l e rX6_neededBy s m args below meth c D cA ad (LU ++ ex) 6 0 0 Q S 61 [(0, .ref (ad 25)), (1, .int p1), (2, .int v2), (3, .int p3)] []) : ∀ (n : Nat) (v2 : Int32) (v4 : Int32) (S : St), wL_X6_neededBy_15 p1 p3 k n v2 v4 S → Go p l e rX6_neededBy s m args below meth c D cA ad (LU ++ ex) 6 0 0 Q S 15 [(0, .ref (ad 25)), (1, .int p1), (2, .int v2), (3, .int p3), (4, .int v4)] [] := by
  intro n
  induction n with
  | zero => intro v2 v4 S h; exact h.elim
  | succ n ih =>
    intro v2 v4 S h
    replace h : wB_X6_neededBy_15 p1 p3 k (wL_X6_neededBy_15 p1 p3 k n) v2 v4 S := h
    unfold wB_X6_neededBy_15 at h
    refine go_iload C 15 17 4 4 dX6_neededBy_15 rfl rfl ?_
    refine go_aload_n C 17 18 0 0 dX6_neededBy_17 rfl rfl rfl ?_
    refine go_getI C 18 21 iw6 25 (lu25 ex) rfl 9 (by decide) k530_ rfl rfl dX6_neededBy_18 rfl ?_
    refine go_icmp_ge C 21 24 61 dX6_neededBy_21 (by decide) rfl (fun hc => ?_) (fun hc => ?_)
    · have h := h.1 hc
      exact go_perm [0, 1, 2, 3] rfl (hk _ _ _ h)
    · have h := h.2 hc
      refine go_iload_n C 24 25 1 1 dX6_neededBy_24 rfl rfl rfl ?_
      refine go_iload C 25 27 4 4 dX6_neededBy_25 rfl rfl ?_
      refine go_ishr C 27 28 dX6_neededBy_27 rfl ?_
      refine go_iconst C 28 29 (1) dX6_neededBy_28 (by decide) rfl ?_
      refine go_iand C 29 30 dX6_neededBy_29 rfl ?_
      refine go_iconst C 30 31 (1) dX6_neededBy_30 (by decide) rfl ?_
      refine go_icmp_ne C 31 34 55 dX6_neededBy_31 (by decide) rfl (fun hc => ?_) (fun hc => ?_)
      · have h := h.1 hc
        refine go_iinc C 55 58 4 4 (v4 + 1) [(4, .int _), (0, .ref _), (1, .int _), (2, .int _), (3, .int _)] dX6_neededBy_55 rfl rfl (by decide) rfl rfl ?_
        refine go_goto C 58 15 dX6_neededBy_58 (by decide) ?_
        exact go_perm [1, 2, 3, 4, 0] rfl (ih _ _ _ h)
      · have h := h.2 hc
        refine go_aload_n C 34 35 0 0 dX6_neededBy_34 rfl rfl rfl ?_
        refine go_getR C 35 38 iw6 25 (lu25 ex) rfl 3 (by decide) k524_ rfl rfl dX6_neededBy_35 rfl ?_
        refine go_bipush C 38 40 (8) dX6_neededBy_38 (by decide) rfl ?_
        refine go_iload_n C 40 41 3 3 dX6_neededBy_40 rfl rfl rfl ?_
        refine go_imul C 41 42 dX6_neededBy_41 rfl ?_
        refine go_iload C 42 44 4 4 dX6_neededBy_42 rfl rfl ?_
        refine go_iadd C 44 45 dX6_neededBy_44 rfl ?_
        obtain ⟨hi1, h⟩ := h
        refine go_iald C 45 46 28 (lu28 ex) hi1 dX6_neededBy_45 rfl ?_
        refine go_if_le C 46 49 55 dX6_neededBy_46 (by decide) rfl (fun hc => ?_) (fun hc => ?_)
        · have h := h.1 hc
          refine go_iinc C 55 58 4 4 (v4 + 1) [(4, .int _), (0, .ref _), (1, .int _), (2, .int _), (3, .int _)] dX6_neededBy_55 rfl rfl (by decide) rfl rfl ?_
          refine go_goto C 58 15 dX6_neededBy_58 (by decide) ?_
          exact go_perm [1, 2, 3, 4, 0] rfl (ih _ _ _ h)
        · have h := h.2 hc
          refine go_iload_n C 49 50 2 2 dX6_neededBy_49 rfl rfl rfl ?_
          refine go_iconst C 50 51 (1) dX6_neededBy_50 (by decide) rfl ?_
          refine go_iload_n C 51 52 3 3 dX6_neededBy_51 rfl rfl rfl ?_
          refine go_ishl C 52 53 dX6_neededBy_52 rfl ?_
          refine go_ior C 53 54 dX6_neededBy_53 rfl ?_
          refine go_topi (fun x2 hx2 => ?_)
          replace h := h x2 hx2
          refine go_istore_n C 54 55 2 [(2, .int _), (0, .ref _), (1, .int _), (3, .int _), (4, .int _)] dX6_neededBy_54 rfl (by decide) rfl rfl ?_
          refine go_iinc C 55 58 4 4 (v4 + 1) [(4, .int _), (2, .int _), (0, .ref _), (1, .int _), (3, .int _)] dX6_neededBy_55 rfl rfl (by decide) rfl rfl ?_
          refine go_goto C 58 15 dX6_neededBy_58 (by decide) ?_
          exact go_perm [2, 3, 1, 4, 0] rfl (ih _ _ _ h)
def wB_X6_neededBy_4 (p1 : Int32) (k rec : Int32 → Int32 → St → Prop) (v2 : Int32) (v3 : Int32) (S : St) : Prop :=
  ((S.1 25 8) ≤ v3 → k v2 v3 S) ∧ (¬ ((S.1 25 8) ≤ v3) → ∃ fu4, wL_X6_neededBy_15 p1 v3 (fun (z2 : Int32) (z3 : Int32) (S1 : St) => rec z2 (v3 + 1) S1) fu4 v2 (0 : Int32) S)
def wL_X6_neededBy_4 (p1 : Int32) (k : Int32 → Int32 → St → Prop) : Nat → Int32 → Int32 → St → Prop
  | 0, _, _, _ => False
  | n + 1, v2, v3, S => wB_X6_neededBy_4 p1 k (wL_X6_neededBy_4 p1 k n) v2 v3 S
set_option maxHeartbeats 4000000 in
set_option maxRecDepth 100000 in
theorem L_X6_neededBy_4 {p : Program} {l : Launch} {e : Env} {s : State} {m : MethodId} {args : Array Value} {below : List Frame} {meth : Method} {c : Code} {D : va_G} {cA : Nat → ClassId} {ad : Nat → Nat} {ex : List Lay} {Q : State → Prop} (C : Cx p s m args meth c cX6_neededBy 6 (some .int) RX6 D cA ad (LU ++ ex))   (p1 : Int32) {k : Int32 → Int32 → St → Prop} (hk : ∀ (v2 : Int32) (v3 : Int32) (S : St), k v2 v3 S → Go p l e rX6_neededBy s m args below meth c D cA ad (LU ++ ex) 6 0 0 Q S 67 [(0, .ref (ad 25)), (2, .int v2)] []) : ∀ (n : Nat) (v2 : Int32) (v3 : Int32) (S : St), wL_X6_neededBy_4 p1 k n v2 v3 S → Go p l e rX6_neededBy s m args below meth c D cA ad (LU ++ ex) 6 0 0 Q S 4 [(0, .ref (ad 25)), (1, .int p1), (2, .int v2), (3, .int v3)] [] := by
  intro n
  induction n with
  | zero => intro v2 v3 S h; exact h.elim
  | succ n ih =>
    intro v2 v3 S h
    replace h : wB_X6_neededBy_4 p1 k (wL_X6_neededBy_4 p1 k n) v2 v3 S := h
    unfold wB_X6_neededBy_4 at h
    refine go_iload_n C 4 5 3 3 dX6_neededBy_4 rfl rfl rfl ?_
    refine go_aload_n C 5 6 0 0 dX6_neededBy_5 rfl rfl rfl ?_
    refine go_getI C 6 9 iw6 25 (lu25 ex) rfl 8 (by decide) k529_ rfl rfl dX6_neededBy_6 rfl ?_
    refine go_icmp_ge C 9 12 67 dX6_neededBy_9 (by decide) rfl (fun hc => ?_) (fun hc => ?_)
    · have h := h.1 hc
      exact go_perm [0, 2] rfl (hk _ _ _ h)
    · have h := h.2 hc
      refine go_iconst C 12 13 (0) dX6_neededBy_12 (by decide) rfl ?_
      refine go_istore C 13 15 4 [(4, .int _), (0, .ref _), (1, .int _), (2, .int _), (3, .int _)] dX6_neededBy_13 (by decide) rfl rfl ?_
      obtain ⟨fu4, h⟩ := h
      refine go_perm [1, 2, 3, 4, 0] rfl (L_X6_neededBy_15 C   _ _ (fun z2 z3 S1 h => ?_) _ _ _ _ h)
      refine go_iinc C 61 64 3 3 (v3 + 1) [(3, .int _), (0, .ref _), (1, .int _), (2, .int _)] dX6_neededBy_61 rfl rfl (by decide) rfl rfl ?_
      refine go_goto C 64 4 dX6_neededBy_64 (by decide) ?_
      exact go_perm [1, 2, 3, 0] rfl (ih _ _ _ h)
def wB_X6_neededBy_92 (p3 : Int32) (p4 : Int32) (k rec : Int32 → Int32 → St → Prop) (v2 : Int32) (v5 : Int32) (S : St) : Prop :=
  ((S.1 25 8) ≤ v5 → k v2 v5 S) ∧ (¬ ((S.1 25 8) ≤ v5) → (¬ ((v2 >>> (v5 &&& 31)) &&& (1 : Int32)) = (1 : Int32) → rec v2 (v5 + 1) S) ∧ (((v2 >>> (v5 &&& 31)) &&& (1 : Int32)) = (1 : Int32) → (vp_in (((6 : Int32) * p4) + v5) 36) ∧ (((S.1 29 (((6 : Int32) * p4) + v5).toNatClampNeg) ≤ 0 → rec v2 (v5 + 1) S) ∧ (¬ ((S.1 29 (((6 : Int32) * p4) + v5).toNatClampNeg) ≤ 0) → ∀ x2 : Int32, x2 = (v2 ||| ((1 : Int32) <<< (p4 &&& 31))) → rec x2 (v5 + 1) S))))
def wL_X6_neededBy_92 (p3 : Int32) (p4 : Int32) (k : Int32 → Int32 → St → Prop) : Nat → Int32 → Int32 → St → Prop
  | 0, _, _, _ => False
  | n + 1, v2, v5, S => wB_X6_neededBy_92 p3 p4 k (wL_X6_neededBy_92 p3 p4 k n) v2 v5 S
set_option maxHeartbeats 4000000 in
set_option maxRecDepth 100000 in
theorem L_X6_neededBy_92 {p : Program} {l : Launch} {e : Env} {s : State} {m : MethodId} {args : Array Value} {below : List Frame} {meth : Method} {c : Code} {D : va_G} {cA : Nat → ClassId} {ad : Nat → Nat} {ex : List Lay} {Q : State → Prop} (C : Cx p s m args meth c cX6_neededBy 6 (some .int) RX6 D cA ad (LU ++ ex))   (p3 : Int32) (p4 : Int32) {k : Int32 → Int32 → St → Prop} (hk : ∀ (v2 : Int32) (v5 : Int32) (S : St), k v2 v5 S → Go p l e rX6_neededBy s m args below meth c D cA ad (LU ++ ex) 6 0 0 Q S 140 [(0, .ref (ad 25)), (2, .int v2), (3, .int p3), (4, .int p4)] []) : ∀ (n : Nat) (v2 : Int32) (v5 : Int32) (S : St), wL_X6_neededBy_92 p3 p4 k n v2 v5 S → Go p l e rX6_neededBy s m args below meth c D cA ad (LU ++ ex) 6 0 0 Q S 92 [(0, .ref (ad 25)), (2, .int v2), (3, .int p3), (4, .int p4), (5, .int v5)] [] := by
  intro n
  induction n with
  | zero => intro v2 v5 S h; exact h.elim
  | succ n ih =>
    intro v2 v5 S h
    replace h : wB_X6_neededBy_92 p3 p4 k (wL_X6_neededBy_92 p3 p4 k n) v2 v5 S := h
    unfold wB_X6_neededBy_92 at h
    refine go_iload C 92 94 5 4 dX6_neededBy_92 rfl rfl ?_
    refine go_aload_n C 94 95 0 0 dX6_neededBy_94 rfl rfl rfl ?_
    refine go_getI C 95 98 iw6 25 (lu25 ex) rfl 8 (by decide) k529_ rfl rfl dX6_neededBy_95 rfl ?_
    refine go_icmp_ge C 98 101 140 dX6_neededBy_98 (by decide) rfl (fun hc => ?_) (fun hc => ?_)
    · have h := h.1 hc
      exact go_perm [0, 1, 2, 3] rfl (hk _ _ _ h)
    · have h := h.2 hc
      refine go_iload_n C 101 102 2 1 dX6_neededBy_101 rfl rfl rfl ?_
      refine go_iload C 102 104 5 4 dX6_neededBy_102 rfl rfl ?_
      refine go_ishr C 104 105 dX6_neededBy_104 rfl ?_
      refine go_iconst C 105 106 (1) dX6_neededBy_105 (by decide) rfl ?_
      refine go_iand C 106 107 dX6_neededBy_106 rfl ?_
      refine go_iconst C 107 108 (1) dX6_neededBy_107 (by decide) rfl ?_
      refine go_icmp_ne C 108 111 134 dX6_neededBy_108 (by decide) rfl (fun hc => ?_) (fun hc => ?_)
      · have h := h.1 hc
        refine go_iinc C 134 137 5 4 (v5 + 1) [(5, .int _), (0, .ref _), (2, .int _), (3, .int _), (4, .int _)] dX6_neededBy_134 rfl rfl (by decide) rfl rfl ?_
        refine go_goto C 137 92 dX6_neededBy_137 (by decide) ?_
        exact go_perm [1, 2, 3, 4, 0] rfl (ih _ _ _ h)
      · have h := h.2 hc
        refine go_aload_n C 111 112 0 0 dX6_neededBy_111 rfl rfl rfl ?_
        refine go_getR C 112 115 iw6 25 (lu25 ex) rfl 4 (by decide) k525_ rfl rfl dX6_neededBy_112 rfl ?_
        refine go_bipush C 115 117 (6) dX6_neededBy_115 (by decide) rfl ?_
        refine go_iload C 117 119 4 3 dX6_neededBy_117 rfl rfl ?_
        refine go_imul C 119 120 dX6_neededBy_119 rfl ?_
        refine go_iload C 120 122 5 4 dX6_neededBy_120 rfl rfl ?_
        refine go_iadd C 122 123 dX6_neededBy_122 rfl ?_
        obtain ⟨hi1, h⟩ := h
        refine go_iald C 123 124 29 (lu29 ex) hi1 dX6_neededBy_123 rfl ?_
        refine go_if_le C 124 127 134 dX6_neededBy_124 (by decide) rfl (fun hc => ?_) (fun hc => ?_)
        · have h := h.1 hc
          refine go_iinc C 134 137 5 4 (v5 + 1) [(5, .int _), (0, .ref _), (2, .int _), (3, .int _), (4, .int _)] dX6_neededBy_134 rfl rfl (by decide) rfl rfl ?_
          refine go_goto C 137 92 dX6_neededBy_137 (by decide) ?_
          exact go_perm [1, 2, 3, 4, 0] rfl (ih _ _ _ h)
        · have h := h.2 hc
          refine go_iload_n C 127 128 2 1 dX6_neededBy_127 rfl rfl rfl ?_
          refine go_iconst C 128 129 (1) dX6_neededBy_128 (by decide) rfl ?_
          refine go_iload C 129 131 4 3 dX6_neededBy_129 rfl rfl ?_
          refine go_ishl C 131 132 dX6_neededBy_131 rfl ?_
          refine go_ior C 132 133 dX6_neededBy_132 rfl ?_
          refine go_topi (fun x2 hx2 => ?_)
          replace h := h x2 hx2
          refine go_istore_n C 133 134 2 [(2, .int _), (0, .ref _), (3, .int _), (4, .int _), (5, .int _)] dX6_neededBy_133 rfl (by decide) rfl rfl ?_
          refine go_iinc C 134 137 5 4 (v5 + 1) [(5, .int _), (2, .int _), (0, .ref _), (3, .int _), (4, .int _)] dX6_neededBy_134 rfl rfl (by decide) rfl rfl ?_
          refine go_goto C 137 92 dX6_neededBy_137 (by decide) ?_
          exact go_perm [2, 1, 3, 4, 0] rfl (ih _ _ _ h)
def wB_X6_neededBy_80 (p3 : Int32) (k rec : Int32 → Int32 → St → Prop) (v2 : Int32) (v4 : Int32) (S : St) : Prop :=
  ((S.1 25 8) ≤ v4 → k v2 v4 S) ∧ (¬ ((S.1 25 8) ≤ v4) → ∃ fu4, wL_X6_neededBy_92 p3 v4 (fun (z2 : Int32) (z3 : Int32) (S1 : St) => rec z2 (v4 + 1) S1) fu4 v2 (0 : Int32) S)
def wL_X6_neededBy_80 (p3 : Int32) (k : Int32 → Int32 → St → Prop) : Nat → Int32 → Int32 → St → Prop
  | 0, _, _, _ => False
  | n + 1, v2, v4, S => wB_X6_neededBy_80 p3 k (wL_X6_neededBy_80 p3 k n) v2 v4 S
set_option maxHeartbeats 4000000 in
set_option maxRecDepth 100000 in
theorem L_X6_neededBy_80 {p : Program} {l : Launch} {e : Env} {s : State} {m : MethodId} {args : Array Value} {below : List Frame} {meth : Method} {c : Code} {D : va_G} {cA : Nat → ClassId} {ad : Nat → Nat} {ex : List Lay} {Q : State → Prop} (C : Cx p s m args meth c cX6_neededBy 6 (some .int) RX6 D cA ad (LU ++ ex))   (p3 : Int32) {k : Int32 → Int32 → St → Prop} (hk : ∀ (v2 : Int32) (v4 : Int32) (S : St), k v2 v4 S → Go p l e rX6_neededBy s m args below meth c D cA ad (LU ++ ex) 6 0 0 Q S 146 [(0, .ref (ad 25)), (2, .int v2), (3, .int p3)] []) : ∀ (n : Nat) (v2 : Int32) (v4 : Int32) (S : St), wL_X6_neededBy_80 p3 k n v2 v4 S → Go p l e rX6_neededBy s m args below meth c D cA ad (LU ++ ex) 6 0 0 Q S 80 [(0, .ref (ad 25)), (2, .int v2), (3, .int p3), (4, .int v4)] [] := by
  intro n
  induction n with
  | zero => intro v2 v4 S h; exact h.elim
  | succ n ih =>
    intro v2 v4 S h
    replace h : wB_X6_neededBy_80 p3 k (wL_X6_neededBy_80 p3 k n) v2 v4 S := h
    unfold wB_X6_neededBy_80 at h
    refine go_iload C 80 82 4 3 dX6_neededBy_80 rfl rfl ?_
    refine go_aload_n C 82 83 0 0 dX6_neededBy_82 rfl rfl rfl ?_
    refine go_getI C 83 86 iw6 25 (lu25 ex) rfl 8 (by decide) k529_ rfl rfl dX6_neededBy_83 rfl ?_
    refine go_icmp_ge C 86 89 146 dX6_neededBy_86 (by decide) rfl (fun hc => ?_) (fun hc => ?_)
    · have h := h.1 hc
      exact go_perm [0, 1, 2] rfl (hk _ _ _ h)
    · have h := h.2 hc
      refine go_iconst C 89 90 (0) dX6_neededBy_89 (by decide) rfl ?_
      refine go_istore C 90 92 5 [(5, .int _), (0, .ref _), (2, .int _), (3, .int _), (4, .int _)] dX6_neededBy_90 (by decide) rfl rfl ?_
      obtain ⟨fu4, h⟩ := h
      refine go_perm [1, 2, 3, 4, 0] rfl (L_X6_neededBy_92 C   _ _ (fun z2 z3 S1 h => ?_) _ _ _ _ h)
      refine go_iinc C 140 143 4 3 (v4 + 1) [(4, .int _), (0, .ref _), (2, .int _), (3, .int _)] dX6_neededBy_140 rfl rfl (by decide) rfl rfl ?_
      refine go_goto C 143 80 dX6_neededBy_143 (by decide) ?_
      exact go_perm [1, 2, 3, 0] rfl (ih _ _ _ h)
def wB_X6_neededBy_69 (k rec : Int32 → Int32 → St → Prop) (v2 : Int32) (v3 : Int32) (S : St) : Prop :=
  ((S.1 25 8) ≤ v3 → k v2 v3 S) ∧ (¬ ((S.1 25 8) ≤ v3) → ∃ fu4, wL_X6_neededBy_80 v3 (fun (z2 : Int32) (z3 : Int32) (S1 : St) => rec z2 (v3 + 1) S1) fu4 v2 (0 : Int32) S)
def wL_X6_neededBy_69 (k : Int32 → Int32 → St → Prop) : Nat → Int32 → Int32 → St → Prop
  | 0, _, _, _ => False
  | n + 1, v2, v3, S => wB_X6_neededBy_69 k (wL_X6_neededBy_69 k n) v2 v3 S
set_option maxHeartbeats 4000000 in
set_option maxRecDepth 100000 in
theorem L_X6_neededBy_69 {p : Program} {l : Launch} {e : Env} {s : State} {m : MethodId} {args : Array Value} {below : List Frame} {meth : Method} {c : Code} {D : va_G} {cA : Nat → ClassId} {ad : Nat → Nat} {ex : List Lay} {Q : State → Prop} (C : Cx p s m args meth c cX6_neededBy 6 (some .int) RX6 D cA ad (LU ++ ex))   {k : Int32 → Int32 → St → Prop} (hk : ∀ (v2 : Int32) (v3 : Int32) (S : St), k v2 v3 S → Go p l e rX6_neededBy s m args below meth c D cA ad (LU ++ ex) 6 0 0 Q S 152 [(2, .int v2)] []) : ∀ (n : Nat) (v2 : Int32) (v3 : Int32) (S : St), wL_X6_neededBy_69 k n v2 v3 S → Go p l e rX6_neededBy s m args below meth c D cA ad (LU ++ ex) 6 0 0 Q S 69 [(0, .ref (ad 25)), (2, .int v2), (3, .int v3)] [] := by
  intro n
  induction n with
  | zero => intro v2 v3 S h; exact h.elim
  | succ n ih =>
    intro v2 v3 S h
    replace h : wB_X6_neededBy_69 k (wL_X6_neededBy_69 k n) v2 v3 S := h
    unfold wB_X6_neededBy_69 at h
    refine go_iload_n C 69 70 3 2 dX6_neededBy_69 rfl rfl rfl ?_
    refine go_aload_n C 70 71 0 0 dX6_neededBy_70 rfl rfl rfl ?_
    refine go_getI C 71 74 iw6 25 (lu25 ex) rfl 8 (by decide) k529_ rfl rfl dX6_neededBy_71 rfl ?_
    refine go_icmp_ge C 74 77 152 dX6_neededBy_74 (by decide) rfl (fun hc => ?_) (fun hc => ?_)
    · have h := h.1 hc
      exact go_perm [1] rfl (hk _ _ _ h)
    · have h := h.2 hc
      refine go_iconst C 77 78 (0) dX6_neededBy_77 (by decide) rfl ?_
      refine go_istore C 78 80 4 [(4, .int _), (0, .ref _), (2, .int _), (3, .int _)] dX6_neededBy_78 (by decide) rfl rfl ?_
      obtain ⟨fu4, h⟩ := h
      refine go_perm [1, 2, 3, 0] rfl (L_X6_neededBy_80 C   _ (fun z2 z3 S1 h => ?_) _ _ _ _ h)
      refine go_iinc C 146 149 3 2 (v3 + 1) [(3, .int _), (0, .ref _), (2, .int _)] dX6_neededBy_146 rfl rfl (by decide) rfl rfl ?_
      refine go_goto C 149 69 dX6_neededBy_149 (by decide) ?_
      exact go_perm [1, 2, 0] rfl (ih _ _ _ h)
def wp_X6_neededBy (S : St) (a1 : Int32) (post : Int32 → St → Prop) : Prop :=
  ∃ fu8, wL_X6_neededBy_4 a1 (fun (z2 : Int32) (z3 : Int32) (S1 : St) => ∃ fu7, wL_X6_neededBy_69 (fun (z5 : Int32) (z6 : Int32) (S4 : St) => post z5 S4) fu7 z2 (0 : Int32) S1) fu8 (0 : Int32) (0 : Int32) S
set_option maxHeartbeats 4000000 in
set_option maxRecDepth 100000 in
theorem c_X6_neededBy {l : Launch} {D : va_G} {cA : Nat → ClassId} {ad : Nat → Nat} {ex : List Lay} (S : St) (a1 : Int32)  {post : Int32 → St → Prop} (h : wp_X6_neededBy S a1 post) : MetI l yX6_neededBy cX6_neededBy 6 (some .int) rX6_neededBy D cA ad (LU ++ ex) [.ref (ad 25), .int a1] S post 0 0 := by
  refine MetI.of (by decide) (Nat.le_of_ble_eq_true rfl) ?_
  intro p e s m args below meth c C
  unfold wp_X6_neededBy at h
  show Go p l e rX6_neededBy s m args below meth c D cA ad (LU ++ ex) 6 0 0 _ S 0 [(0, .ref (ad 25)), (1, .int a1)] []
  replace C : Cx p s m args meth c cX6_neededBy 6 (some .int) RX6 D cA ad (LU ++ ex) := C
  refine go_iconst C 0 1 (0) dX6_neededBy_0 (by decide) rfl ?_
  refine go_istore_n C 1 2 2 [(2, .int _), (0, .ref _), (1, .int _)] dX6_neededBy_1 rfl (by decide) rfl rfl ?_
  refine go_iconst C 2 3 (0) dX6_neededBy_2 (by decide) rfl ?_
  refine go_istore_n C 3 4 3 [(3, .int _), (2, .int _), (0, .ref _), (1, .int _)] dX6_neededBy_3 rfl (by decide) rfl rfl ?_
  obtain ⟨fu8, h⟩ := h
  refine go_perm [2, 3, 1, 0] rfl (L_X6_neededBy_4 C   _ (fun z2 z3 S1 h => ?_) _ _ _ _ h)
  refine go_iconst C 67 68 (0) dX6_neededBy_67 (by decide) rfl ?_
  refine go_istore_n C 68 69 3 [(3, .int _), (0, .ref _), (2, .int _)] dX6_neededBy_68 rfl (by decide) rfl rfl ?_
  obtain ⟨fu7, h⟩ := h
  refine go_perm [1, 2, 0] rfl (L_X6_neededBy_69 C   (fun z5 z6 S4 h => ?_) _ _ _ _ h)
  refine go_iload_n C 152 153 2 0 dX6_neededBy_152 rfl rfl rfl ?_
  exact go_iret C 153 rfl dX6_neededBy_153 h
-- BillHouseModel.totalOf(III)I
theorem qX6_totalOf : (parseMethodDescriptor yX6_totalOf.desc).map (fun d => d.parameters.length) = some 3 := by decide +kernel
theorem mhX6_totalOf : yX6_totalOf.cls ≠ "java/lang/invoke/MethodHandle" ∧ yX6_totalOf.cls ≠ "java/lang/invoke/VarHandle" := by decide +kernel
def rX6_totalOf : Room := { frames := 0, cells := 0, slots := 0, locals := 0 }
def wB_X6_totalOf_6 (p1 : Int32) (p2 : Int32) (p3 : Int32) (k rec : Int32 → Int32 → St → Prop) (v4 : Int32) (v5 : Int32) (S : St) : Prop :=
  ((S.1 25 9) ≤ v5 → k v4 v5 S) ∧ (¬ ((S.1 25 9) ≤ v5) → (¬ ((p2 >>> (v5 &&& 31)) &&& (1 : Int32)) = (1 : Int32) → ∀ x1 : Int32, x1 = (v4 + (0 : Int32)) → rec x1 (v5 + 1) S) ∧ (((p2 >>> (v5 &&& 31)) &&& (1 : Int32)) = (1 : Int32) → (vp_in (((8 : Int32) * p1) + v5) 48) ∧ (∀ x3 : Int32, x3 = (v4 + (S.1 28 (((8 : Int32) * p1) + v5).toNatClampNeg)) → rec x3 (v5 + 1) S)))
def wL_X6_totalOf_6 (p1 : Int32) (p2 : Int32) (p3 : Int32) (k : Int32 → Int32 → St → Prop) : Nat → Int32 → Int32 → St → Prop
  | 0, _, _, _ => False
  | n + 1, v4, v5, S => wB_X6_totalOf_6 p1 p2 p3 k (wL_X6_totalOf_6 p1 p2 p3 k n) v4 v5 S
set_option maxHeartbeats 4000000 in
set_option maxRecDepth 100000 in
theorem L_X6_totalOf_6 {p : Program} {l : Launch} {e : Env} {s : State} {m : MethodId} {args : Array Value} {below : List Frame} {meth : Method} {c : Code} {D : va_G} {cA : Nat → ClassId} {ad : Nat → Nat} {ex : List Lay} {Q : State → Prop} (C : Cx p s m args meth c cX6_totalOf 6 (some .int) RX6 D cA ad (LU ++ ex))   (p1 : Int32) (p2 : Int32) (p3 : Int32) {k : Int32 → Int32 → St → Prop} (hk : ∀ (v4 : Int32) (v5 : Int32) (S : St), k v4 v5 S → Go p l e rX6_totalOf s m args below meth c D cA ad (LU ++ ex) 6 0 0 Q S 52 [(0, .ref (ad 25)), (1, .int p1), (3, .int p3), (4, .int v4)] []) : ∀ (n : Nat) (v4 : Int32) (v5 : Int32) (S : St), wL_X6_totalOf_6 p1 p2 p3 k n v4 v5 S → Go p l e rX6_totalOf s m args below meth c D cA ad (LU ++ ex) 6 0 0 Q S 6 [(0, .ref (ad 25)), (1, .int p1), (2, .int p2), (3, .int p3), (4, .int v4), (5, .int v5)] [] := by
  intro n
  induction n with
  | zero => intro v4 v5 S h; exact h.elim
  | succ n ih =>
    intro v4 v5 S h
    replace h : wB_X6_totalOf_6 p1 p2 p3 k (wL_X6_totalOf_6 p1 p2 p3 k n) v4 v5 S := h
    unfold wB_X6_totalOf_6 at h
    refine go_iload C 6 8 5 5 dX6_totalOf_6 rfl rfl ?_
    refine go_aload_n C 8 9 0 0 dX6_totalOf_8 rfl rfl rfl ?_
    refine go_getI C 9 12 iw6 25 (lu25 ex) rfl 9 (by decide) k530_ rfl rfl dX6_totalOf_9 rfl ?_
    refine go_icmp_ge C 12 15 52 dX6_totalOf_12 (by decide) rfl (fun hc => ?_) (fun hc => ?_)
    · have h := h.1 hc
      exact go_perm [0, 1, 3, 4] rfl (hk _ _ _ h)
    · have h := h.2 hc
      refine go_iload C 15 17 4 4 dX6_totalOf_15 rfl rfl ?_
      refine go_iload_n C 17 18 2 2 dX6_totalOf_17 rfl rfl rfl ?_
      refine go_iload C 18 20 5 5 dX6_totalOf_18 rfl rfl ?_
      refine go_ishr C 20 21 dX6_totalOf_20 rfl ?_
      refine go_iconst C 21 22 (1) dX6_totalOf_21 (by decide) rfl ?_
      refine go_iand C 22 23 dX6_totalOf_22 rfl ?_
      refine go_iconst C 23 24 (1) dX6_totalOf_23 (by decide) rfl ?_
      refine go_icmp_ne C 24 27 42 dX6_totalOf_24 (by decide) rfl (fun hc => ?_) (fun hc => ?_)
      · have h := h.1 hc
        refine go_iconst C 42 43 (0) dX6_totalOf_42 (by decide) rfl ?_
        refine go_iadd C 43 44 dX6_totalOf_43 rfl ?_
        refine go_topi (fun x1 hx1 => ?_)
        replace h := h x1 hx1
        refine go_istore C 44 46 4 [(4, .int _), (0, .ref _), (1, .int _), (2, .int _), (3, .int _), (5, .int _)] dX6_totalOf_44 (by decide) rfl rfl ?_
        refine go_iinc C 46 49 5 5 (v5 + 1) [(5, .int _), (4, .int _), (0, .ref _), (1, .int _), (2, .int _), (3, .int _)] dX6_totalOf_46 rfl rfl (by decide) rfl rfl ?_
        refine go_goto C 49 6 dX6_totalOf_49 (by decide) ?_
        exact go_perm [2, 3, 4, 5, 1, 0] rfl (ih _ _ _ h)
      · have h := h.2 hc
        refine go_aload_n C 27 28 0 0 dX6_totalOf_27 rfl rfl rfl ?_
        refine go_getR C 28 31 iw6 25 (lu25 ex) rfl 3 (by decide) k524_ rfl rfl dX6_totalOf_28 rfl ?_
        refine go_bipush C 31 33 (8) dX6_totalOf_31 (by decide) rfl ?_
        refine go_iload_n C 33 34 1 1 dX6_totalOf_33 rfl rfl rfl ?_
        refine go_imul C 34 35 dX6_totalOf_34 rfl ?_
        refine go_iload C 35 37 5 5 dX6_totalOf_35 rfl rfl ?_
        refine go_iadd C 37 38 dX6_totalOf_37 rfl ?_
        obtain ⟨hi2, h⟩ := h
        refine go_iald C 38 39 28 (lu28 ex) hi2 dX6_totalOf_38 rfl ?_
        refine go_goto C 39 43 dX6_totalOf_39 (by decide) ?_
        refine go_iadd C 43 44 dX6_totalOf_43 rfl ?_
        refine go_topi (fun x3 hx3 => ?_)
        replace h := h x3 hx3
        refine go_istore C 44 46 4 [(4, .int _), (0, .ref _), (1, .int _), (2, .int _), (3, .int _), (5, .int _)] dX6_totalOf_44 (by decide) rfl rfl ?_
        refine go_iinc C 46 49 5 5 (v5 + 1) [(5, .int _), (4, .int _), (0, .ref _), (1, .int _), (2, .int _), (3, .int _)] dX6_totalOf_46 rfl rfl (by decide) rfl rfl ?_
        refine go_goto C 49 6 dX6_totalOf_49 (by decide) ?_
        exact go_perm [2, 3, 4, 5, 1, 0] rfl (ih _ _ _ h)
def wB_X6_totalOf_55 (p1 : Int32) (p3 : Int32) (k rec : Int32 → Int32 → St → Prop) (v4 : Int32) (v5 : Int32) (S : St) : Prop :=
  ((S.1 25 8) ≤ v5 → k v4 v5 S) ∧ (¬ ((S.1 25 8) ≤ v5) → (¬ ((p3 >>> (v5 &&& 31)) &&& (1 : Int32)) = (1 : Int32) → ∀ x1 : Int32, x1 = (v4 + (0 : Int32)) → rec x1 (v5 + 1) S) ∧ (((p3 >>> (v5 &&& 31)) &&& (1 : Int32)) = (1 : Int32) → (vp_in (((6 : Int32) * p1) + v5) 36) ∧ (∀ x3 : Int32, x3 = (v4 + (S.1 29 (((6 : Int32) * p1) + v5).toNatClampNeg)) → rec x3 (v5 + 1) S)))
def wL_X6_totalOf_55 (p1 : Int32) (p3 : Int32) (k : Int32 → Int32 → St → Prop) : Nat → Int32 → Int32 → St → Prop
  | 0, _, _, _ => False
  | n + 1, v4, v5, S => wB_X6_totalOf_55 p1 p3 k (wL_X6_totalOf_55 p1 p3 k n) v4 v5 S
set_option maxHeartbeats 4000000 in
set_option maxRecDepth 100000 in
theorem L_X6_totalOf_55 {p : Program} {l : Launch} {e : Env} {s : State} {m : MethodId} {args : Array Value} {below : List Frame} {meth : Method} {c : Code} {D : va_G} {cA : Nat → ClassId} {ad : Nat → Nat} {ex : List Lay} {Q : State → Prop} (C : Cx p s m args meth c cX6_totalOf 6 (some .int) RX6 D cA ad (LU ++ ex))   (p1 : Int32) (p3 : Int32) {k : Int32 → Int32 → St → Prop} (hk : ∀ (v4 : Int32) (v5 : Int32) (S : St), k v4 v5 S → Go p l e rX6_totalOf s m args below meth c D cA ad (LU ++ ex) 6 0 0 Q S 101 [(4, .int v4)] []) : ∀ (n : Nat) (v4 : Int32) (v5 : Int32) (S : St), wL_X6_totalOf_55 p1 p3 k n v4 v5 S → Go p l e rX6_totalOf s m args below meth c D cA ad (LU ++ ex) 6 0 0 Q S 55 [(0, .ref (ad 25)), (1, .int p1), (3, .int p3), (4, .int v4), (5, .int v5)] [] := by
  intro n
  induction n with
  | zero => intro v4 v5 S h; exact h.elim
  | succ n ih =>
    intro v4 v5 S h
    replace h : wB_X6_totalOf_55 p1 p3 k (wL_X6_totalOf_55 p1 p3 k n) v4 v5 S := h
    unfold wB_X6_totalOf_55 at h
    refine go_iload C 55 57 5 4 dX6_totalOf_55 rfl rfl ?_
    refine go_aload_n C 57 58 0 0 dX6_totalOf_57 rfl rfl rfl ?_
    refine go_getI C 58 61 iw6 25 (lu25 ex) rfl 8 (by decide) k529_ rfl rfl dX6_totalOf_58 rfl ?_
    refine go_icmp_ge C 61 64 101 dX6_totalOf_61 (by decide) rfl (fun hc => ?_) (fun hc => ?_)
    · have h := h.1 hc
      exact go_perm [3] rfl (hk _ _ _ h)
    · have h := h.2 hc
      refine go_iload C 64 66 4 3 dX6_totalOf_64 rfl rfl ?_
      refine go_iload_n C 66 67 3 2 dX6_totalOf_66 rfl rfl rfl ?_
      refine go_iload C 67 69 5 4 dX6_totalOf_67 rfl rfl ?_
      refine go_ishr C 69 70 dX6_totalOf_69 rfl ?_
      refine go_iconst C 70 71 (1) dX6_totalOf_70 (by decide) rfl ?_
      refine go_iand C 71 72 dX6_totalOf_71 rfl ?_
      refine go_iconst C 72 73 (1) dX6_totalOf_72 (by decide) rfl ?_
      refine go_icmp_ne C 73 76 91 dX6_totalOf_73 (by decide) rfl (fun hc => ?_) (fun hc => ?_)
      · have h := h.1 hc
        refine go_iconst C 91 92 (0) dX6_totalOf_91 (by decide) rfl ?_
        refine go_iadd C 92 93 dX6_totalOf_92 rfl ?_
        refine go_topi (fun x1 hx1 => ?_)
        replace h := h x1 hx1
        refine go_istore C 93 95 4 [(4, .int _), (0, .ref _), (1, .int _), (3, .int _), (5, .int _)] dX6_totalOf_93 (by decide) rfl rfl ?_
        refine go_iinc C 95 98 5 4 (v5 + 1) [(5, .int _), (4, .int _), (0, .ref _), (1, .int _), (3, .int _)] dX6_totalOf_95 rfl rfl (by decide) rfl rfl ?_
        refine go_goto C 98 55 dX6_totalOf_98 (by decide) ?_
        exact go_perm [2, 3, 4, 1, 0] rfl (ih _ _ _ h)
      · have h := h.2 hc
        refine go_aload_n C 76 77 0 0 dX6_totalOf_76 rfl rfl rfl ?_
        refine go_getR C 77 80 iw6 25 (lu25 ex) rfl 4 (by decide) k525_ rfl rfl dX6_totalOf_77 rfl ?_
        refine go_bipush C 80 82 (6) dX6_totalOf_80 (by decide) rfl ?_
        refine go_iload_n C 82 83 1 1 dX6_totalOf_82 rfl rfl rfl ?_
        refine go_imul C 83 84 dX6_totalOf_83 rfl ?_
        refine go_iload C 84 86 5 4 dX6_totalOf_84 rfl rfl ?_
        refine go_iadd C 86 87 dX6_totalOf_86 rfl ?_
        obtain ⟨hi2, h⟩ := h
        refine go_iald C 87 88 29 (lu29 ex) hi2 dX6_totalOf_87 rfl ?_
        refine go_goto C 88 92 dX6_totalOf_88 (by decide) ?_
        refine go_iadd C 92 93 dX6_totalOf_92 rfl ?_
        refine go_topi (fun x3 hx3 => ?_)
        replace h := h x3 hx3
        refine go_istore C 93 95 4 [(4, .int _), (0, .ref _), (1, .int _), (3, .int _), (5, .int _)] dX6_totalOf_93 (by decide) rfl rfl ?_
        refine go_iinc C 95 98 5 4 (v5 + 1) [(5, .int _), (4, .int _), (0, .ref _), (1, .int _), (3, .int _)] dX6_totalOf_95 rfl rfl (by decide) rfl rfl ?_
        refine go_goto C 98 55 dX6_totalOf_98 (by decide) ?_
        exact go_perm [2, 3, 4, 1, 0] rfl (ih _ _ _ h)
def wp_X6_totalOf (S : St) (a1 : Int32) (a2 : Int32) (a3 : Int32) (post : Int32 → St → Prop) : Prop :=
  ∃ fu8, wL_X6_totalOf_6 a1 a2 a3 (fun (z2 : Int32) (z3 : Int32) (S1 : St) => ∃ fu7, wL_X6_totalOf_55 a1 a3 (fun (z5 : Int32) (z6 : Int32) (S4 : St) => post z5 S4) fu7 z2 (0 : Int32) S1) fu8 (0 : Int32) (0 : Int32) S
set_option maxHeartbeats 4000000 in
set_option maxRecDepth 100000 in
theorem c_X6_totalOf {l : Launch} {D : va_G} {cA : Nat → ClassId} {ad : Nat → Nat} {ex : List Lay} (S : St) (a1 : Int32) (a2 : Int32) (a3 : Int32)  {post : Int32 → St → Prop} (h : wp_X6_totalOf S a1 a2 a3 post) : MetI l yX6_totalOf cX6_totalOf 6 (some .int) rX6_totalOf D cA ad (LU ++ ex) [.ref (ad 25), .int a1, .int a2, .int a3] S post 0 0 := by
  refine MetI.of (by decide) (Nat.le_of_ble_eq_true rfl) ?_
  intro p e s m args below meth c C
  unfold wp_X6_totalOf at h
  show Go p l e rX6_totalOf s m args below meth c D cA ad (LU ++ ex) 6 0 0 _ S 0 [(0, .ref (ad 25)), (1, .int a1), (2, .int a2), (3, .int a3)] []
  replace C : Cx p s m args meth c cX6_totalOf 6 (some .int) RX6 D cA ad (LU ++ ex) := C
  refine go_iconst C 0 1 (0) dX6_totalOf_0 (by decide) rfl ?_
  refine go_istore C 1 3 4 [(4, .int _), (0, .ref _), (1, .int _), (2, .int _), (3, .int _)] dX6_totalOf_1 (by decide) rfl rfl ?_
  refine go_iconst C 3 4 (0) dX6_totalOf_3 (by decide) rfl ?_
  refine go_istore C 4 6 5 [(5, .int _), (4, .int _), (0, .ref _), (1, .int _), (2, .int _), (3, .int _)] dX6_totalOf_4 (by decide) rfl rfl ?_
  obtain ⟨fu8, h⟩ := h
  refine go_perm [2, 3, 4, 5, 1, 0] rfl (L_X6_totalOf_6 C   _ _ _ (fun z2 z3 S1 h => ?_) _ _ _ _ h)
  refine go_iconst C 52 53 (0) dX6_totalOf_52 (by decide) rfl ?_
  refine go_istore C 53 55 5 [(5, .int _), (0, .ref _), (1, .int _), (3, .int _), (4, .int _)] dX6_totalOf_53 (by decide) rfl rfl ?_
  obtain ⟨fu7, h⟩ := h
  refine go_perm [1, 2, 3, 4, 0] rfl (L_X6_totalOf_55 C   _ _ (fun z5 z6 S4 h => ?_) _ _ _ _ h)
  refine go_iload C 101 103 4 0 dX6_totalOf_101 rfl rfl ?_
  exact go_iret C 103 rfl dX6_totalOf_103 h
-- BillHouseModel.workCost(II)I
theorem qX6_workCost : (parseMethodDescriptor yX6_workCost.desc).map (fun d => d.parameters.length) = some 2 := by decide +kernel
theorem mhX6_workCost : yX6_workCost.cls ≠ "java/lang/invoke/MethodHandle" ∧ yX6_workCost.cls ≠ "java/lang/invoke/VarHandle" := by decide +kernel
def rX6_workCost : Room := { frames := 0, cells := 0, slots := 0, locals := 0 }
def wp_X6_workCost (S : St) (a1 : Int32) (a2 : Int32) (post : Int32 → St → Prop) : Prop :=
  (vp_in a1 6) ∧ ((vp_in a1 6) ∧ (post ((S.1 26 a1.toNatClampNeg) + ((S.1 27 a1.toNatClampNeg) * ((a2 + (9 : Int32)) / (10 : Int32)))) S))
set_option maxHeartbeats 4000000 in
set_option maxRecDepth 100000 in
theorem c_X6_workCost {l : Launch} {D : va_G} {cA : Nat → ClassId} {ad : Nat → Nat} {ex : List Lay} (S : St) (a1 : Int32) (a2 : Int32)  {post : Int32 → St → Prop} (h : wp_X6_workCost S a1 a2 post) : MetI l yX6_workCost cX6_workCost 3 (some .int) rX6_workCost D cA ad (LU ++ ex) [.ref (ad 25), .int a1, .int a2] S post 0 0 := by
  refine MetI.of (by decide) (Nat.le_of_ble_eq_true rfl) ?_
  intro p e s m args below meth c C
  unfold wp_X6_workCost at h
  show Go p l e rX6_workCost s m args below meth c D cA ad (LU ++ ex) 3 0 0 _ S 0 [(0, .ref (ad 25)), (1, .int a1), (2, .int a2)] []
  replace C : Cx p s m args meth c cX6_workCost 3 (some .int) RX6 D cA ad (LU ++ ex) := C
  refine go_aload_n C 0 1 0 0 dX6_workCost_0 rfl rfl rfl ?_
  refine go_getR C 1 4 iw6 25 (lu25 ex) rfl 1 (by decide) k522_ rfl rfl dX6_workCost_1 rfl ?_
  refine go_iload_n C 4 5 1 1 dX6_workCost_4 rfl rfl rfl ?_
  obtain ⟨hi1, h⟩ := h
  refine go_iald C 5 6 26 (lu26 ex) hi1 dX6_workCost_5 rfl ?_
  refine go_aload_n C 6 7 0 0 dX6_workCost_6 rfl rfl rfl ?_
  refine go_getR C 7 10 iw6 25 (lu25 ex) rfl 2 (by decide) k523_ rfl rfl dX6_workCost_7 rfl ?_
  refine go_iload_n C 10 11 1 1 dX6_workCost_10 rfl rfl rfl ?_
  obtain ⟨hi2, h⟩ := h
  refine go_iald C 11 12 27 (lu27 ex) hi2 dX6_workCost_11 rfl ?_
  refine go_iload_n C 12 13 2 2 dX6_workCost_12 rfl rfl rfl ?_
  refine go_bipush C 13 15 (9) dX6_workCost_13 (by decide) rfl ?_
  refine go_iadd C 15 16 dX6_workCost_15 rfl ?_
  refine go_bipush C 16 18 (10) dX6_workCost_16 (by decide) rfl ?_
  refine go_idiv C 18 19 (by decide) dX6_workCost_18 rfl ?_
  refine go_imul C 19 20 dX6_workCost_19 rfl ?_
  refine go_iadd C 20 21 dX6_workCost_20 rfl ?_
  exact go_iret C 21 rfl dX6_workCost_21 h
-- BillHouseModel.costOf(I)I
theorem qX6_costOf : (parseMethodDescriptor yX6_costOf.desc).map (fun d => d.parameters.length) = some 1 := by decide +kernel
theorem mhX6_costOf : yX6_costOf.cls ≠ "java/lang/invoke/MethodHandle" ∧ yX6_costOf.cls ≠ "java/lang/invoke/VarHandle" := by decide +kernel
def rX6_costOf : Room := { frames := 1, cells := 0, slots := 0, locals := 25 }
def wB_X6_costOf_11 (p1 : Int32) (p2 : Int32) (k rec : Int32 → Int32 → St → Prop) (v3 : Int32) (v4 : Int32) (S : St) : Prop :=
  ((S.1 25 8) ≤ v4 → k v3 v4 S) ∧ (¬ ((S.1 25 8) ≤ v4) → (¬ ((p2 >>> (v4 &&& 31)) &&& (1 : Int32)) = (1 : Int32) → rec v3 (v4 + 1) S) ∧ (((p2 >>> (v4 &&& 31)) &&& (1 : Int32)) = (1 : Int32) → wp_X6_totalOf S v4 p1 p2 (fun (r2 : Int32) (S1 : St) => wp_X6_workCost S1 v4 r2 (fun (r4 : Int32) (S3 : St) => ∀ x5 : Int32, x5 = (v3 + r4) → rec x5 (v4 + 1) S3))))
def wL_X6_costOf_11 (p1 : Int32) (p2 : Int32) (k : Int32 → Int32 → St → Prop) : Nat → Int32 → Int32 → St → Prop
  | 0, _, _, _ => False
  | n + 1, v3, v4, S => wB_X6_costOf_11 p1 p2 k (wL_X6_costOf_11 p1 p2 k n) v3 v4 S
set_option maxHeartbeats 4000000 in
set_option maxRecDepth 100000 in
theorem L_X6_costOf_11 {p : Program} {l : Launch} {e : Env} {s : State} {m : MethodId} {args : Array Value} {below : List Frame} {meth : Method} {c : Code} {D : va_G} {cA : Nat → ClassId} {ad : Nat → Nat} {ex : List Lay} {Q : State → Prop} (C : Cx p s m args meth c cX6_costOf 5 (some .int) RX6 D cA ad (LU ++ ex))   (p1 : Int32) (p2 : Int32) {k : Int32 → Int32 → St → Prop} (hk : ∀ (v3 : Int32) (v4 : Int32) (S : St), k v3 v4 S → Go p l e rX6_costOf s m args below meth c D cA ad (LU ++ ex) 5 0 0 Q S 53 [(3, .int v3)] []) : ∀ (n : Nat) (v3 : Int32) (v4 : Int32) (S : St), wL_X6_costOf_11 p1 p2 k n v3 v4 S → Go p l e rX6_costOf s m args below meth c D cA ad (LU ++ ex) 5 0 0 Q S 11 [(0, .ref (ad 25)), (1, .int p1), (2, .int p2), (3, .int v3), (4, .int v4)] [] := by
  intro n
  induction n with
  | zero => intro v3 v4 S h; exact h.elim
  | succ n ih =>
    intro v3 v4 S h
    replace h : wB_X6_costOf_11 p1 p2 k (wL_X6_costOf_11 p1 p2 k n) v3 v4 S := h
    unfold wB_X6_costOf_11 at h
    refine go_iload C 11 13 4 4 dX6_costOf_11 rfl rfl ?_
    refine go_aload_n C 13 14 0 0 dX6_costOf_13 rfl rfl rfl ?_
    refine go_getI C 14 17 iw6 25 (lu25 ex) rfl 8 (by decide) k529_ rfl rfl dX6_costOf_14 rfl ?_
    refine go_icmp_ge C 17 20 53 dX6_costOf_17 (by decide) rfl (fun hc => ?_) (fun hc => ?_)
    · have h := h.1 hc
      exact go_perm [3] rfl (hk _ _ _ h)
    · have h := h.2 hc
      refine go_iload_n C 20 21 2 2 dX6_costOf_20 rfl rfl rfl ?_
      refine go_iload C 21 23 4 4 dX6_costOf_21 rfl rfl ?_
      refine go_ishr C 23 24 dX6_costOf_23 rfl ?_
      refine go_iconst C 24 25 (1) dX6_costOf_24 (by decide) rfl ?_
      refine go_iand C 25 26 dX6_costOf_25 rfl ?_
      refine go_iconst C 26 27 (1) dX6_costOf_26 (by decide) rfl ?_
      refine go_icmp_ne C 27 30 47 dX6_costOf_27 (by decide) rfl (fun hc => ?_) (fun hc => ?_)
      · have h := h.1 hc
        refine go_iinc C 47 50 4 4 (v4 + 1) [(4, .int _), (0, .ref _), (1, .int _), (2, .int _), (3, .int _)] dX6_costOf_47 rfl rfl (by decide) rfl rfl ?_
        refine go_goto C 50 11 dX6_costOf_50 (by decide) ?_
        exact go_perm [1, 2, 3, 4, 0] rfl (ih _ _ _ h)
      · have h := h.2 hc
        refine go_iload_n C 30 31 3 3 dX6_costOf_30 rfl rfl rfl ?_
        refine go_aload_n C 31 32 0 0 dX6_costOf_31 rfl rfl rfl ?_
        refine go_iload C 32 34 4 4 dX6_costOf_32 rfl rfl ?_
        refine go_aload_n C 34 35 0 0 dX6_costOf_34 rfl rfl rfl ?_
        refine go_iload C 35 37 4 4 dX6_costOf_35 rfl rfl ?_
        refine go_iload_n C 37 38 1 1 dX6_costOf_37 rfl rfl rfl ?_
        refine go_iload_n C 38 39 2 2 dX6_costOf_38 rfl rfl rfl ?_
        refine go_vi C 39 42 0 0 [.int v4, .int p1, .int p2] 25 (lu25 ex) rfl (c_X6_totalOf _ _ _ _  h) k662_ k665_ k57_ k664_ k40_ qX6_totalOf mhX6_totalOf (by decide) (by decide) rfl rfl rfl rfl (Nat.le_of_ble_eq_true rfl) rfl rfl dX6_costOf_39 (fun r2 S1 h => ?_)
        refine go_vi C 42 45 0 0 [.int v4, .int r2] 25 (lu25 ex) rfl (c_X6_workCost _ _ _  h) k674_ k677_ k57_ k676_ k42_ qX6_workCost mhX6_workCost (by decide) (by decide) rfl rfl rfl rfl (Nat.le_of_ble_eq_true rfl) rfl rfl dX6_costOf_42 (fun r4 S3 h => ?_)
        refine go_iadd C 45 46 dX6_costOf_45 rfl ?_
        refine go_topi (fun x5 hx5 => ?_)
        replace h := h x5 hx5
        refine go_istore_n C 46 47 3 [(3, .int _), (0, .ref _), (1, .int _), (2, .int _), (4, .int _)] dX6_costOf_46 rfl (by decide) rfl rfl ?_
        refine go_iinc C 47 50 4 4 (v4 + 1) [(4, .int _), (3, .int _), (0, .ref _), (1, .int _), (2, .int _)] dX6_costOf_47 rfl rfl (by decide) rfl rfl ?_
        refine go_goto C 50 11 dX6_costOf_50 (by decide) ?_
        exact go_perm [2, 3, 4, 1, 0] rfl (ih _ _ _ h)
def wp_X6_costOf (S : St) (a1 : Int32) (post : Int32 → St → Prop) : Prop :=
  wp_X6_neededBy S a1 (fun (r2 : Int32) (S1 : St) => ∃ fu6, wL_X6_costOf_11 a1 r2 (fun (z4 : Int32) (z5 : Int32) (S3 : St) => post z4 S3) fu6 (0 : Int32) (0 : Int32) S1)
set_option maxHeartbeats 4000000 in
set_option maxRecDepth 100000 in
theorem c_X6_costOf {l : Launch} {D : va_G} {cA : Nat → ClassId} {ad : Nat → Nat} {ex : List Lay} (S : St) (a1 : Int32)  {post : Int32 → St → Prop} (h : wp_X6_costOf S a1 post) : MetI l yX6_costOf cX6_costOf 5 (some .int) rX6_costOf D cA ad (LU ++ ex) [.ref (ad 25), .int a1] S post 0 0 := by
  refine MetI.of (by decide) (Nat.le_of_ble_eq_true rfl) ?_
  intro p e s m args below meth c C
  unfold wp_X6_costOf at h
  show Go p l e rX6_costOf s m args below meth c D cA ad (LU ++ ex) 5 0 0 _ S 0 [(0, .ref (ad 25)), (1, .int a1)] []
  replace C : Cx p s m args meth c cX6_costOf 5 (some .int) RX6 D cA ad (LU ++ ex) := C
  refine go_aload_n C 0 1 0 0 dX6_costOf_0 rfl rfl rfl ?_
  refine go_iload_n C 1 2 1 1 dX6_costOf_1 rfl rfl rfl ?_
  refine go_vi C 2 5 0 0 [.int a1] 25 (lu25 ex) rfl (c_X6_neededBy _ _  h) k650_ k653_ k57_ k652_ k39_ qX6_neededBy mhX6_neededBy (by decide) (by decide) rfl rfl rfl rfl (Nat.le_of_ble_eq_true rfl) rfl rfl dX6_costOf_2 (fun r2 S1 h => ?_)
  refine go_istore_n C 5 6 2 [(2, .int _), (0, .ref _), (1, .int _)] dX6_costOf_5 rfl (by decide) rfl rfl ?_
  refine go_iconst C 6 7 (0) dX6_costOf_6 (by decide) rfl ?_
  refine go_istore_n C 7 8 3 [(3, .int _), (2, .int _), (0, .ref _), (1, .int _)] dX6_costOf_7 rfl (by decide) rfl rfl ?_
  refine go_iconst C 8 9 (0) dX6_costOf_8 (by decide) rfl ?_
  refine go_istore C 9 11 4 [(4, .int _), (3, .int _), (2, .int _), (0, .ref _), (1, .int _)] dX6_costOf_9 (by decide) rfl rfl ?_
  obtain ⟨fu6, h⟩ := h
  refine go_perm [3, 4, 2, 1, 0] rfl (L_X6_costOf_11 C   _ _ (fun z4 z5 S3 h => ?_) _ _ _ _ h)
  refine go_iload_n C 53 54 3 0 dX6_costOf_53 rfl rfl rfl ?_
  exact go_iret C 54 rfl dX6_costOf_54 h
-- BillHouseModel.needed()I
theorem qX6_needed : (parseMethodDescriptor yX6_needed.desc).map (fun d => d.parameters.length) = some 0 := by decide +kernel
theorem mhX6_needed : yX6_needed.cls ≠ "java/lang/invoke/MethodHandle" ∧ yX6_needed.cls ≠ "java/lang/invoke/VarHandle" := by decide +kernel
def rX6_needed : Room := { frames := 1, cells := 0, slots := 0, locals := 25 }
def wp_X6_needed (S : St) (post : Int32 → St → Prop) : Prop :=
  ∀ S1 : St, S1 = uI S 25 0 (0 : Int32) → wp_X6_thereSet S1 (fun (r3 : Int32) (S2 : St) => wp_X6_neededBy S2 r3 (fun (r5 : Int32) (S4 : St) => post r5 S4))
set_option maxHeartbeats 4000000 in
set_option maxRecDepth 100000 in
theorem c_X6_needed {l : Launch} {D : va_G} {cA : Nat → ClassId} {ad : Nat → Nat} {ex : List Lay} (S : St)  {post : Int32 → St → Prop} (h : wp_X6_needed S post) : MetI l yX6_needed cX6_needed 1 (some .int) rX6_needed D cA ad (LU ++ ex) [.ref (ad 25)] S post 0 0 := by
  refine MetI.of (by decide) (Nat.le_of_ble_eq_true rfl) ?_
  intro p e s m args below meth c C
  unfold wp_X6_needed at h
  show Go p l e rX6_needed s m args below meth c D cA ad (LU ++ ex) 1 0 0 _ S 0 [(0, .ref (ad 25))] []
  replace C : Cx p s m args meth c cX6_needed 1 (some .int) RX6 D cA ad (LU ++ ex) := C
  refine go_aload_n C 0 1 0 0 dX6_needed_0 rfl rfl rfl ?_
  refine go_iconst C 1 2 (0) dX6_needed_1 (by decide) rfl ?_
  refine go_putI C 2 5 iw6 25 (lu25 ex) rfl 0 (by decide) tyX6 tyX6_ok nmX6 k521_ rfl rfl rfl (by decide +kernel) dX6_needed_2 rfl ?_
  refine go_nm (fun S1 hS1 => ?_)
  replace h := h S1 hS1
  refine go_aload_n C 5 6 0 0 dX6_needed_5 rfl rfl rfl ?_
  refine go_aload_n C 6 7 0 0 dX6_needed_6 rfl rfl rfl ?_
  refine go_vi C 7 10 0 0 [] 25 (lu25 ex) rfl (c_X6_thereSet _  h) k646_ k649_ k57_ k648_ k38_ qX6_thereSet mhX6_thereSet (by decide) (by decide) rfl rfl rfl rfl (Nat.le_of_ble_eq_true rfl) rfl rfl dX6_needed_7 (fun r3 S2 h => ?_)
  refine go_vi C 10 13 0 0 [.int r3] 25 (lu25 ex) rfl (c_X6_neededBy _ _  h) k650_ k653_ k57_ k652_ k39_ qX6_neededBy mhX6_neededBy (by decide) (by decide) rfl rfl rfl rfl (Nat.le_of_ble_eq_true rfl) rfl rfl dX6_needed_10 (fun r5 S4 h => ?_)
  exact go_iret C 13 rfl dX6_needed_13 h
-- BillHouseModel.idle()I
theorem qX6_idle : (parseMethodDescriptor yX6_idle.desc).map (fun d => d.parameters.length) = some 0 := by decide +kernel
theorem mhX6_idle : yX6_idle.cls ≠ "java/lang/invoke/MethodHandle" ∧ yX6_idle.cls ≠ "java/lang/invoke/VarHandle" := by decide +kernel
def rX6_idle : Room := { frames := 1, cells := 0, slots := 0, locals := 25 }
def wB_X6_idle_32 (p1 : Int32) (p2 : Int32) (p3 : Int32) (k rec : Int32 → Int32 → St → Prop) (v4 : Int32) (v5 : Int32) (S : St) : Prop :=
  ((S.1 25 8) ≤ v5 → k v4 v5 S) ∧ (¬ ((S.1 25 8) ≤ v5) → (vp_in (((6 : Int32) * v5) + p3) 36) ∧ (((S.1 29 (((6 : Int32) * v5) + p3).toNatClampNeg) ≤ 0 → rec v4 (v5 + 1) S) ∧ (¬ ((S.1 29 (((6 : Int32) * v5) + p3).toNatClampNeg) ≤ 0) → ∀ x2 : Int32, x2 = (v4 ||| ((1 : Int32) <<< (v5 &&& 31))) → rec x2 (v5 + 1) S)))
def wL_X6_idle_32 (p1 : Int32) (p2 : Int32) (p3 : Int32) (k : Int32 → Int32 → St → Prop) : Nat → Int32 → Int32 → St → Prop
  | 0, _, _, _ => False
  | n + 1, v4, v5, S => wB_X6_idle_32 p1 p2 p3 k (wL_X6_idle_32 p1 p2 p3 k n) v4 v5 S
set_option maxHeartbeats 4000000 in
set_option maxRecDepth 100000 in
theorem L_X6_idle_32 {p : Program} {l : Launch} {e : Env} {s : State} {m : MethodId} {args : Array Value} {below : List Frame} {meth : Method} {c : Code} {D : va_G} {cA : Nat → ClassId} {ad : Nat → Nat} {ex : List Lay} {Q : State → Prop} (C : Cx p s m args meth c cX6_idle 8 (some .int) RX6 D cA ad (LU ++ ex))   (p1 : Int32) (p2 : Int32) (p3 : Int32) {k : Int32 → Int32 → St → Prop} (hk : ∀ (v4 : Int32) (v5 : Int32) (S : St), k v4 v5 S → Go p l e rX6_idle s m args below meth c D cA ad (LU ++ ex) 8 0 0 Q S 71 [(0, .ref (ad 25)), (1, .int p1), (2, .int p2), (3, .int p3), (4, .int v4)] []) : ∀ (n : Nat) (v4 : Int32) (v5 : Int32) (S : St), wL_X6_idle_32 p1 p2 p3 k n v4 v5 S → Go p l e rX6_idle s m args below meth c D cA ad (LU ++ ex) 8 0 0 Q S 32 [(0, .ref (ad 25)), (1, .int p1), (2, .int p2), (3, .int p3), (4, .int v4), (5, .int v5)] [] := by
  intro n
  induction n with
  | zero => intro v4 v5 S h; exact h.elim
  | succ n ih =>
    intro v4 v5 S h
    replace h : wB_X6_idle_32 p1 p2 p3 k (wL_X6_idle_32 p1 p2 p3 k n) v4 v5 S := h
    unfold wB_X6_idle_32 at h
    refine go_iload C 32 34 5 5 dX6_idle_32 rfl rfl ?_
    refine go_aload_n C 34 35 0 0 dX6_idle_34 rfl rfl rfl ?_
    refine go_getI C 35 38 iw6 25 (lu25 ex) rfl 8 (by decide) k529_ rfl rfl dX6_idle_35 rfl ?_
    refine go_icmp_ge C 38 41 71 dX6_idle_38 (by decide) rfl (fun hc => ?_) (fun hc => ?_)
    · have h := h.1 hc
      exact go_perm [0, 1, 2, 3, 4] rfl (hk _ _ _ h)
    · have h := h.2 hc
      refine go_aload_n C 41 42 0 0 dX6_idle_41 rfl rfl rfl ?_
      refine go_getR C 42 45 iw6 25 (lu25 ex) rfl 4 (by decide) k525_ rfl rfl dX6_idle_42 rfl ?_
      refine go_bipush C 45 47 (6) dX6_idle_45 (by decide) rfl ?_
      refine go_iload C 47 49 5 5 dX6_idle_47 rfl rfl ?_
      refine go_imul C 49 50 dX6_idle_49 rfl ?_
      refine go_iload_n C 50 51 3 3 dX6_idle_50 rfl rfl rfl ?_
      refine go_iadd C 51 52 dX6_idle_51 rfl ?_
      obtain ⟨hi1, h⟩ := h
      refine go_iald C 52 53 29 (lu29 ex) hi1 dX6_idle_52 rfl ?_
      refine go_if_le C 53 56 65 dX6_idle_53 (by decide) rfl (fun hc => ?_) (fun hc => ?_)
      · have h := h.1 hc
        refine go_iinc C 65 68 5 5 (v5 + 1) [(5, .int _), (0, .ref _), (1, .int _), (2, .int _), (3, .int _), (4, .int _)] dX6_idle_65 rfl rfl (by decide) rfl rfl ?_
        refine go_goto C 68 32 dX6_idle_68 (by decide) ?_
        exact go_perm [1, 2, 3, 4, 5, 0] rfl (ih _ _ _ h)
      · have h := h.2 hc
        refine go_iload C 56 58 4 4 dX6_idle_56 rfl rfl ?_
        refine go_iconst C 58 59 (1) dX6_idle_58 (by decide) rfl ?_
        refine go_iload C 59 61 5 5 dX6_idle_59 rfl rfl ?_
        refine go_ishl C 61 62 dX6_idle_61 rfl ?_
        refine go_ior C 62 63 dX6_idle_62 rfl ?_
        refine go_topi (fun x2 hx2 => ?_)
        replace h := h x2 hx2
        refine go_istore C 63 65 4 [(4, .int _), (0, .ref _), (1, .int _), (2, .int _), (3, .int _), (5, .int _)] dX6_idle_63 (by decide) rfl rfl ?_
        refine go_iinc C 65 68 5 5 (v5 + 1) [(5, .int _), (4, .int _), (0, .ref _), (1, .int _), (2, .int _), (3, .int _)] dX6_idle_65 rfl rfl (by decide) rfl rfl ?_
        refine go_goto C 68 32 dX6_idle_68 (by decide) ?_
        exact go_perm [2, 3, 4, 5, 1, 0] rfl (ih _ _ _ h)
def wB_X6_idle_98 (p1 : Int32) (p2 : Int32) (p3 : Int32) (p5 : Int32) (p6 : Int32) (k rec : Int32 → Int32 → St → Prop) (v4 : Int32) (v7 : Int32) (S : St) : Prop :=
  ((S.1 25 8) ≤ v7 → k v4 v7 S) ∧ (¬ ((S.1 25 8) ≤ v7) → (¬ ((v4 >>> (v7 &&& 31)) &&& (1 : Int32)) = (1 : Int32) → rec v4 (v7 + 1) S) ∧ (((v4 >>> (v7 &&& 31)) &&& (1 : Int32)) = (1 : Int32) → (vp_in (((6 : Int32) * p6) + v7) 36) ∧ (((S.1 29 (((6 : Int32) * p6) + v7).toNatClampNeg) ≤ 0 → rec v4 (v7 + 1) S) ∧ (¬ ((S.1 29 (((6 : Int32) * p6) + v7).toNatClampNeg) ≤ 0) → ∀ x2 : Int32, x2 = (v4 ||| ((1 : Int32) <<< (p6 &&& 31))) → rec x2 (v7 + 1) S))))
def wL_X6_idle_98 (p1 : Int32) (p2 : Int32) (p3 : Int32) (p5 : Int32) (p6 : Int32) (k : Int32 → Int32 → St → Prop) : Nat → Int32 → Int32 → St → Prop
  | 0, _, _, _ => False
  | n + 1, v4, v7, S => wB_X6_idle_98 p1 p2 p3 p5 p6 k (wL_X6_idle_98 p1 p2 p3 p5 p6 k n) v4 v7 S
set_option maxHeartbeats 4000000 in
set_option maxRecDepth 100000 in
theorem L_X6_idle_98 {p : Program} {l : Launch} {e : Env} {s : State} {m : MethodId} {args : Array Value} {below : List Frame} {meth : Method} {c : Code} {D : va_G} {cA : Nat → ClassId} {ad : Nat → Nat} {ex : List Lay} {Q : State → Prop} (C : Cx p s m args meth c cX6_idle 8 (some .int) RX6 D cA ad (LU ++ ex))   (p1 : Int32) (p2 : Int32) (p3 : Int32) (p5 : Int32) (p6 : Int32) {k : Int32 → Int32 → St → Prop} (hk : ∀ (v4 : Int32) (v7 : Int32) (S : St), k v4 v7 S → Go p l e rX6_idle s m args below meth c D cA ad (LU ++ ex) 8 0 0 Q S 149 [(0, .ref (ad 25)), (1, .int p1), (2, .int p2), (3, .int p3), (4, .int v4), (5, .int p5), (6, .int p6)] []) : ∀ (n : Nat) (v4 : Int32) (v7 : Int32) (S : St), wL_X6_idle_98 p1 p2 p3 p5 p6 k n v4 v7 S → Go p l e rX6_idle s m args below meth c D cA ad (LU ++ ex) 8 0 0 Q S 98 [(0, .ref (ad 25)), (1, .int p1), (2, .int p2), (3, .int p3), (4, .int v4), (5, .int p5), (6, .int p6), (7, .int v7)] [] := by
  intro n
  induction n with
  | zero => intro v4 v7 S h; exact h.elim
  | succ n ih =>
    intro v4 v7 S h
    replace h : wB_X6_idle_98 p1 p2 p3 p5 p6 k (wL_X6_idle_98 p1 p2 p3 p5 p6 k n) v4 v7 S := h
    unfold wB_X6_idle_98 at h
    refine go_iload C 98 100 7 7 dX6_idle_98 rfl rfl ?_
    refine go_aload_n C 100 101 0 0 dX6_idle_100 rfl rfl rfl ?_
    refine go_getI C 101 104 iw6 25 (lu25 ex) rfl 8 (by decide) k529_ rfl rfl dX6_idle_101 rfl ?_
    refine go_icmp_ge C 104 107 149 dX6_idle_104 (by decide) rfl (fun hc => ?_) (fun hc => ?_)
    · have h := h.1 hc
      exact go_perm [0, 1, 2, 3, 4, 5, 6] rfl (hk _ _ _ h)
    · have h := h.2 hc
      refine go_iload C 107 109 4 4 dX6_idle_107 rfl rfl ?_
      refine go_iload C 109 111 7 7 dX6_idle_109 rfl rfl ?_
      refine go_ishr C 111 112 dX6_idle_111 rfl ?_
      refine go_iconst C 112 113 (1) dX6_idle_112 (by decide) rfl ?_
      refine go_iand C 113 114 dX6_idle_113 rfl ?_
      refine go_iconst C 114 115 (1) dX6_idle_114 (by decide) rfl ?_
      refine go_icmp_ne C 115 118 143 dX6_idle_115 (by decide) rfl (fun hc => ?_) (fun hc => ?_)
      · have h := h.1 hc
        refine go_iinc C 143 146 7 7 (v7 + 1) [(7, .int _), (0, .ref _), (1, .int _), (2, .int _), (3, .int _), (4, .int _), (5, .int _), (6, .int _)] dX6_idle_143 rfl rfl (by decide) rfl rfl ?_
        refine go_goto C 146 98 dX6_idle_146 (by decide) ?_
        exact go_perm [1, 2, 3, 4, 5, 6, 7, 0] rfl (ih _ _ _ h)
      · have h := h.2 hc
        refine go_aload_n C 118 119 0 0 dX6_idle_118 rfl rfl rfl ?_
        refine go_getR C 119 122 iw6 25 (lu25 ex) rfl 4 (by decide) k525_ rfl rfl dX6_idle_119 rfl ?_
        refine go_bipush C 122 124 (6) dX6_idle_122 (by decide) rfl ?_
        refine go_iload C 124 126 6 6 dX6_idle_124 rfl rfl ?_
        refine go_imul C 126 127 dX6_idle_126 rfl ?_
        refine go_iload C 127 129 7 7 dX6_idle_127 rfl rfl ?_
        refine go_iadd C 129 130 dX6_idle_129 rfl ?_
        obtain ⟨hi1, h⟩ := h
        refine go_iald C 130 131 29 (lu29 ex) hi1 dX6_idle_130 rfl ?_
        refine go_if_le C 131 134 143 dX6_idle_131 (by decide) rfl (fun hc => ?_) (fun hc => ?_)
        · have h := h.1 hc
          refine go_iinc C 143 146 7 7 (v7 + 1) [(7, .int _), (0, .ref _), (1, .int _), (2, .int _), (3, .int _), (4, .int _), (5, .int _), (6, .int _)] dX6_idle_143 rfl rfl (by decide) rfl rfl ?_
          refine go_goto C 146 98 dX6_idle_146 (by decide) ?_
          exact go_perm [1, 2, 3, 4, 5, 6, 7, 0] rfl (ih _ _ _ h)
        · have h := h.2 hc
          refine go_iload C 134 136 4 4 dX6_idle_134 rfl rfl ?_
          refine go_iconst C 136 137 (1) dX6_idle_136 (by decide) rfl ?_
          refine go_iload C 137 139 6 6 dX6_idle_137 rfl rfl ?_
          refine go_ishl C 139 140 dX6_idle_139 rfl ?_
          refine go_ior C 140 141 dX6_idle_140 rfl ?_
          refine go_topi (fun x2 hx2 => ?_)
          replace h := h x2 hx2
          refine go_istore C 141 143 4 [(4, .int _), (0, .ref _), (1, .int _), (2, .int _), (3, .int _), (5, .int _), (6, .int _), (7, .int _)] dX6_idle_141 (by decide) rfl rfl ?_
          refine go_iinc C 143 146 7 7 (v7 + 1) [(7, .int _), (4, .int _), (0, .ref _), (1, .int _), (2, .int _), (3, .int _), (5, .int _), (6, .int _)] dX6_idle_143 rfl rfl (by decide) rfl rfl ?_
          refine go_goto C 146 98 dX6_idle_146 (by decide) ?_
          exact go_perm [2, 3, 4, 5, 1, 6, 7, 0] rfl (ih _ _ _ h)
def wB_X6_idle_86 (p1 : Int32) (p2 : Int32) (p3 : Int32) (p5 : Int32) (k rec : Int32 → Int32 → St → Prop) (v4 : Int32) (v6 : Int32) (S : St) : Prop :=
  ((S.1 25 8) ≤ v6 → k v4 v6 S) ∧ (¬ ((S.1 25 8) ≤ v6) → ∃ fu4, wL_X6_idle_98 p1 p2 p3 p5 v6 (fun (z2 : Int32) (z3 : Int32) (S1 : St) => rec z2 (v6 + 1) S1) fu4 v4 (0 : Int32) S)
def wL_X6_idle_86 (p1 : Int32) (p2 : Int32) (p3 : Int32) (p5 : Int32) (k : Int32 → Int32 → St → Prop) : Nat → Int32 → Int32 → St → Prop
  | 0, _, _, _ => False
  | n + 1, v4, v6, S => wB_X6_idle_86 p1 p2 p3 p5 k (wL_X6_idle_86 p1 p2 p3 p5 k n) v4 v6 S
set_option maxHeartbeats 4000000 in
set_option maxRecDepth 100000 in
theorem L_X6_idle_86 {p : Program} {l : Launch} {e : Env} {s : State} {m : MethodId} {args : Array Value} {below : List Frame} {meth : Method} {c : Code} {D : va_G} {cA : Nat → ClassId} {ad : Nat → Nat} {ex : List Lay} {Q : State → Prop} (C : Cx p s m args meth c cX6_idle 8 (some .int) RX6 D cA ad (LU ++ ex))   (p1 : Int32) (p2 : Int32) (p3 : Int32) (p5 : Int32) {k : Int32 → Int32 → St → Prop} (hk : ∀ (v4 : Int32) (v6 : Int32) (S : St), k v4 v6 S → Go p l e rX6_idle s m args below meth c D cA ad (LU ++ ex) 8 0 0 Q S 155 [(0, .ref (ad 25)), (1, .int p1), (2, .int p2), (3, .int p3), (4, .int v4), (5, .int p5)] []) : ∀ (n : Nat) (v4 : Int32) (v6 : Int32) (S : St), wL_X6_idle_86 p1 p2 p3 p5 k n v4 v6 S → Go p l e rX6_idle s m args below meth c D cA ad (LU ++ ex) 8 0 0 Q S 86 [(0, .ref (ad 25)), (1, .int p1), (2, .int p2), (3, .int p3), (4, .int v4), (5, .int p5), (6, .int v6)] [] := by
  intro n
  induction n with
  | zero => intro v4 v6 S h; exact h.elim
  | succ n ih =>
    intro v4 v6 S h
    replace h : wB_X6_idle_86 p1 p2 p3 p5 k (wL_X6_idle_86 p1 p2 p3 p5 k n) v4 v6 S := h
    unfold wB_X6_idle_86 at h
    refine go_iload C 86 88 6 6 dX6_idle_86 rfl rfl ?_
    refine go_aload_n C 88 89 0 0 dX6_idle_88 rfl rfl rfl ?_
    refine go_getI C 89 92 iw6 25 (lu25 ex) rfl 8 (by decide) k529_ rfl rfl dX6_idle_89 rfl ?_
    refine go_icmp_ge C 92 95 155 dX6_idle_92 (by decide) rfl (fun hc => ?_) (fun hc => ?_)
    · have h := h.1 hc
      exact go_perm [0, 1, 2, 3, 4, 5] rfl (hk _ _ _ h)
    · have h := h.2 hc
      refine go_iconst C 95 96 (0) dX6_idle_95 (by decide) rfl ?_
      refine go_istore C 96 98 7 [(7, .int _), (0, .ref _), (1, .int _), (2, .int _), (3, .int _), (4, .int _), (5, .int _), (6, .int _)] dX6_idle_96 (by decide) rfl rfl ?_
      obtain ⟨fu4, h⟩ := h
      refine go_perm [1, 2, 3, 4, 5, 6, 7, 0] rfl (L_X6_idle_98 C   _ _ _ _ _ (fun z2 z3 S1 h => ?_) _ _ _ _ h)
      refine go_iinc C 149 152 6 6 (v6 + 1) [(6, .int _), (0, .ref _), (1, .int _), (2, .int _), (3, .int _), (4, .int _), (5, .int _)] dX6_idle_149 rfl rfl (by decide) rfl rfl ?_
      refine go_goto C 152 86 dX6_idle_152 (by decide) ?_
      exact go_perm [1, 2, 3, 4, 5, 6, 0] rfl (ih _ _ _ h)
def wB_X6_idle_74 (p1 : Int32) (p2 : Int32) (p3 : Int32) (k rec : Int32 → Int32 → St → Prop) (v4 : Int32) (v5 : Int32) (S : St) : Prop :=
  ((S.1 25 8) ≤ v5 → k v4 v5 S) ∧ (¬ ((S.1 25 8) ≤ v5) → ∃ fu4, wL_X6_idle_86 p1 p2 p3 v5 (fun (z2 : Int32) (z3 : Int32) (S1 : St) => rec z2 (v5 + 1) S1) fu4 v4 (0 : Int32) S)
def wL_X6_idle_74 (p1 : Int32) (p2 : Int32) (p3 : Int32) (k : Int32 → Int32 → St → Prop) : Nat → Int32 → Int32 → St → Prop
  | 0, _, _, _ => False
  | n + 1, v4, v5, S => wB_X6_idle_74 p1 p2 p3 k (wL_X6_idle_74 p1 p2 p3 k n) v4 v5 S
set_option maxHeartbeats 4000000 in
set_option maxRecDepth 100000 in
theorem L_X6_idle_74 {p : Program} {l : Launch} {e : Env} {s : State} {m : MethodId} {args : Array Value} {below : List Frame} {meth : Method} {c : Code} {D : va_G} {cA : Nat → ClassId} {ad : Nat → Nat} {ex : List Lay} {Q : State → Prop} (C : Cx p s m args meth c cX6_idle 8 (some .int) RX6 D cA ad (LU ++ ex))   (p1 : Int32) (p2 : Int32) (p3 : Int32) {k : Int32 → Int32 → St → Prop} (hk : ∀ (v4 : Int32) (v5 : Int32) (S : St), k v4 v5 S → Go p l e rX6_idle s m args below meth c D cA ad (LU ++ ex) 8 0 0 Q S 161 [(0, .ref (ad 25)), (1, .int p1), (2, .int p2), (3, .int p3), (4, .int v4)] []) : ∀ (n : Nat) (v4 : Int32) (v5 : Int32) (S : St), wL_X6_idle_74 p1 p2 p3 k n v4 v5 S → Go p l e rX6_idle s m args below meth c D cA ad (LU ++ ex) 8 0 0 Q S 74 [(0, .ref (ad 25)), (1, .int p1), (2, .int p2), (3, .int p3), (4, .int v4), (5, .int v5)] [] := by
  intro n
  induction n with
  | zero => intro v4 v5 S h; exact h.elim
  | succ n ih =>
    intro v4 v5 S h
    replace h : wB_X6_idle_74 p1 p2 p3 k (wL_X6_idle_74 p1 p2 p3 k n) v4 v5 S := h
    unfold wB_X6_idle_74 at h
    refine go_iload C 74 76 5 5 dX6_idle_74 rfl rfl ?_
    refine go_aload_n C 76 77 0 0 dX6_idle_76 rfl rfl rfl ?_
    refine go_getI C 77 80 iw6 25 (lu25 ex) rfl 8 (by decide) k529_ rfl rfl dX6_idle_77 rfl ?_
    refine go_icmp_ge C 80 83 161 dX6_idle_80 (by decide) rfl (fun hc => ?_) (fun hc => ?_)
    · have h := h.1 hc
      exact go_perm [0, 1, 2, 3, 4] rfl (hk _ _ _ h)
    · have h := h.2 hc
      refine go_iconst C 83 84 (0) dX6_idle_83 (by decide) rfl ?_
      refine go_istore C 84 86 6 [(6, .int _), (0, .ref _), (1, .int _), (2, .int _), (3, .int _), (4, .int _), (5, .int _)] dX6_idle_84 (by decide) rfl rfl ?_
      obtain ⟨fu4, h⟩ := h
      refine go_perm [1, 2, 3, 4, 5, 6, 0] rfl (L_X6_idle_86 C   _ _ _ _ (fun z2 z3 S1 h => ?_) _ _ _ _ h)
      refine go_iinc C 155 158 5 5 (v5 + 1) [(5, .int _), (0, .ref _), (1, .int _), (2, .int _), (3, .int _), (4, .int _)] dX6_idle_155 rfl rfl (by decide) rfl rfl ?_
      refine go_goto C 158 74 dX6_idle_158 (by decide) ?_
      exact go_perm [1, 2, 3, 4, 5, 0] rfl (ih _ _ _ h)
def wB_X6_idle_18 (p1 : Int32) (k rec : Int32 → Int32 → St → Prop) (v2 : Int32) (v3 : Int32) (S : St) : Prop :=
  ((S.1 25 8) ≤ v3 → k v2 v3 S) ∧ (¬ ((S.1 25 8) ≤ v3) → ∃ fu9, wL_X6_idle_32 p1 v2 v3 (fun (z2 : Int32) (z3 : Int32) (S1 : St) => ∃ fu8, wL_X6_idle_74 p1 v2 v3 (fun (z5 : Int32) (z6 : Int32) (S4 : St) => (¬ ((p1 >>> (v3 &&& 31)) &&& (1 : Int32)) = 0 → rec v2 (v3 + 1) S4) ∧ (((p1 >>> (v3 &&& 31)) &&& (1 : Int32)) = 0 → (¬ ((z5 >>> (v3 &&& 31)) &&& (1 : Int32)) = (1 : Int32) → rec v2 (v3 + 1) S4) ∧ (((z5 >>> (v3 &&& 31)) &&& (1 : Int32)) = (1 : Int32) → ∀ x7 : Int32, x7 = (v2 ||| ((1 : Int32) <<< (v3 &&& 31))) → rec x7 (v3 + 1) S4))) fu8 z2 (0 : Int32) S1) fu9 (0 : Int32) (0 : Int32) S)
def wL_X6_idle_18 (p1 : Int32) (k : Int32 → Int32 → St → Prop) : Nat → Int32 → Int32 → St → Prop
  | 0, _, _, _ => False
  | n + 1, v2, v3, S => wB_X6_idle_18 p1 k (wL_X6_idle_18 p1 k n) v2 v3 S
set_option maxHeartbeats 4000000 in
set_option maxRecDepth 100000 in
theorem L_X6_idle_18 {p : Program} {l : Launch} {e : Env} {s : State} {m : MethodId} {args : Array Value} {below : List Frame} {meth : Method} {c : Code} {D : va_G} {cA : Nat → ClassId} {ad : Nat → Nat} {ex : List Lay} {Q : State → Prop} (C : Cx p s m args meth c cX6_idle 8 (some .int) RX6 D cA ad (LU ++ ex))   (p1 : Int32) {k : Int32 → Int32 → St → Prop} (hk : ∀ (v2 : Int32) (v3 : Int32) (S : St), k v2 v3 S → Go p l e rX6_idle s m args below meth c D cA ad (LU ++ ex) 8 0 0 Q S 191 [(2, .int v2)] []) : ∀ (n : Nat) (v2 : Int32) (v3 : Int32) (S : St), wL_X6_idle_18 p1 k n v2 v3 S → Go p l e rX6_idle s m args below meth c D cA ad (LU ++ ex) 8 0 0 Q S 18 [(0, .ref (ad 25)), (1, .int p1), (2, .int v2), (3, .int v3)] [] := by
  intro n
  induction n with
  | zero => intro v2 v3 S h; exact h.elim
  | succ n ih =>
    intro v2 v3 S h
    replace h : wB_X6_idle_18 p1 k (wL_X6_idle_18 p1 k n) v2 v3 S := h
    unfold wB_X6_idle_18 at h
    refine go_iload_n C 18 19 3 3 dX6_idle_18 rfl rfl rfl ?_
    refine go_aload_n C 19 20 0 0 dX6_idle_19 rfl rfl rfl ?_
    refine go_getI C 20 23 iw6 25 (lu25 ex) rfl 8 (by decide) k529_ rfl rfl dX6_idle_20 rfl ?_
    refine go_icmp_ge C 23 26 191 dX6_idle_23 (by decide) rfl (fun hc => ?_) (fun hc => ?_)
    · have h := h.1 hc
      exact go_perm [2] rfl (hk _ _ _ h)
    · have h := h.2 hc
      refine go_iconst C 26 27 (0) dX6_idle_26 (by decide) rfl ?_
      refine go_istore C 27 29 4 [(4, .int _), (0, .ref _), (1, .int _), (2, .int _), (3, .int _)] dX6_idle_27 (by decide) rfl rfl ?_
      refine go_iconst C 29 30 (0) dX6_idle_29 (by decide) rfl ?_
      refine go_istore C 30 32 5 [(5, .int _), (4, .int _), (0, .ref _), (1, .int _), (2, .int _), (3, .int _)] dX6_idle_30 (by decide) rfl rfl ?_
      obtain ⟨fu9, h⟩ := h
      refine go_perm [2, 3, 4, 5, 1, 0] rfl (L_X6_idle_32 C   _ _ _ (fun z2 z3 S1 h => ?_) _ _ _ _ h)
      refine go_iconst C 71 72 (0) dX6_idle_71 (by decide) rfl ?_
      refine go_istore C 72 74 5 [(5, .int _), (0, .ref _), (1, .int _), (2, .int _), (3, .int _), (4, .int _)] dX6_idle_72 (by decide) rfl rfl ?_
      obtain ⟨fu8, h⟩ := h
      refine go_perm [1, 2, 3, 4, 5, 0] rfl (L_X6_idle_74 C   _ _ _ (fun z5 z6 S4 h => ?_) _ _ _ _ h)
      refine go_iload_n C 161 162 1 1 dX6_idle_161 rfl rfl rfl ?_
      refine go_iload_n C 162 163 3 3 dX6_idle_162 rfl rfl rfl ?_
      refine go_ishr C 163 164 dX6_idle_163 rfl ?_
      refine go_iconst C 164 165 (1) dX6_idle_164 (by decide) rfl ?_
      refine go_iand C 165 166 dX6_idle_165 rfl ?_
      refine go_if_ne C 166 169 185 dX6_idle_166 (by decide) rfl (fun hc => ?_) (fun hc => ?_)
      · have h := h.1 hc
        refine go_iinc C 185 188 3 3 (v3 + 1) [(3, .int _), (0, .ref _), (1, .int _), (2, .int _), (4, .int _)] dX6_idle_185 rfl rfl (by decide) rfl rfl ?_
        refine go_goto C 188 18 dX6_idle_188 (by decide) ?_
        exact go_perm [1, 2, 3, 0] rfl (ih _ _ _ h)
      · have h := h.2 hc
        refine go_iload C 169 171 4 4 dX6_idle_169 rfl rfl ?_
        refine go_iload_n C 171 172 3 3 dX6_idle_171 rfl rfl rfl ?_
        refine go_ishr C 172 173 dX6_idle_172 rfl ?_
        refine go_iconst C 173 174 (1) dX6_idle_173 (by decide) rfl ?_
        refine go_iand C 174 175 dX6_idle_174 rfl ?_
        refine go_iconst C 175 176 (1) dX6_idle_175 (by decide) rfl ?_
        refine go_icmp_ne C 176 179 185 dX6_idle_176 (by decide) rfl (fun hc => ?_) (fun hc => ?_)
        · have h := h.1 hc
          refine go_iinc C 185 188 3 3 (v3 + 1) [(3, .int _), (0, .ref _), (1, .int _), (2, .int _), (4, .int _)] dX6_idle_185 rfl rfl (by decide) rfl rfl ?_
          refine go_goto C 188 18 dX6_idle_188 (by decide) ?_
          exact go_perm [1, 2, 3, 0] rfl (ih _ _ _ h)
        · have h := h.2 hc
          refine go_iload_n C 179 180 2 2 dX6_idle_179 rfl rfl rfl ?_
          refine go_iconst C 180 181 (1) dX6_idle_180 (by decide) rfl ?_
          refine go_iload_n C 181 182 3 3 dX6_idle_181 rfl rfl rfl ?_
          refine go_ishl C 182 183 dX6_idle_182 rfl ?_
          refine go_ior C 183 184 dX6_idle_183 rfl ?_
          refine go_topi (fun x7 hx7 => ?_)
          replace h := h x7 hx7
          refine go_istore_n C 184 185 2 [(2, .int _), (0, .ref _), (1, .int _), (3, .int _), (4, .int _)] dX6_idle_184 rfl (by decide) rfl rfl ?_
          refine go_iinc C 185 188 3 3 (v3 + 1) [(3, .int _), (2, .int _), (0, .ref _), (1, .int _), (4, .int _)] dX6_idle_185 rfl rfl (by decide) rfl rfl ?_
          refine go_goto C 188 18 dX6_idle_188 (by decide) ?_
          exact go_perm [2, 3, 1, 0] rfl (ih _ _ _ h)
def wp_X6_idle (S : St) (post : Int32 → St → Prop) : Prop :=
  ∀ S1 : St, S1 = uI S 25 0 (0 : Int32) → wp_X6_thereSet S1 (fun (r3 : Int32) (S2 : St) => wp_X6_neededBy S2 r3 (fun (r5 : Int32) (S4 : St) => ∃ fu9, wL_X6_idle_18 r5 (fun (z7 : Int32) (z8 : Int32) (S6 : St) => post z7 S6) fu9 (0 : Int32) (0 : Int32) S4))
set_option maxHeartbeats 4000000 in
set_option maxRecDepth 100000 in
theorem c_X6_idle {l : Launch} {D : va_G} {cA : Nat → ClassId} {ad : Nat → Nat} {ex : List Lay} (S : St)  {post : Int32 → St → Prop} (h : wp_X6_idle S post) : MetI l yX6_idle cX6_idle 8 (some .int) rX6_idle D cA ad (LU ++ ex) [.ref (ad 25)] S post 0 0 := by
  refine MetI.of (by decide) (Nat.le_of_ble_eq_true rfl) ?_
  intro p e s m args below meth c C
  unfold wp_X6_idle at h
  show Go p l e rX6_idle s m args below meth c D cA ad (LU ++ ex) 8 0 0 _ S 0 [(0, .ref (ad 25))] []
  replace C : Cx p s m args meth c cX6_idle 8 (some .int) RX6 D cA ad (LU ++ ex) := C
  refine go_aload_n C 0 1 0 0 dX6_idle_0 rfl rfl rfl ?_
  refine go_iconst C 1 2 (0) dX6_idle_1 (by decide) rfl ?_
  refine go_putI C 2 5 iw6 25 (lu25 ex) rfl 0 (by decide) tyX6 tyX6_ok nmX6 k521_ rfl rfl rfl (by decide +kernel) dX6_idle_2 rfl ?_
  refine go_nm (fun S1 hS1 => ?_)
  replace h := h S1 hS1
  refine go_aload_n C 5 6 0 0 dX6_idle_5 rfl rfl rfl ?_
  refine go_aload_n C 6 7 0 0 dX6_idle_6 rfl rfl rfl ?_
  refine go_vi C 7 10 0 0 [] 25 (lu25 ex) rfl (c_X6_thereSet _  h) k646_ k649_ k57_ k648_ k38_ qX6_thereSet mhX6_thereSet (by decide) (by decide) rfl rfl rfl rfl (Nat.le_of_ble_eq_true rfl) rfl rfl dX6_idle_7 (fun r3 S2 h => ?_)
  refine go_vi C 10 13 0 0 [.int r3] 25 (lu25 ex) rfl (c_X6_neededBy _ _  h) k650_ k653_ k57_ k652_ k39_ qX6_neededBy mhX6_neededBy (by decide) (by decide) rfl rfl rfl rfl (Nat.le_of_ble_eq_true rfl) rfl rfl dX6_idle_10 (fun r5 S4 h => ?_)
  refine go_istore_n C 13 14 1 [(1, .int _), (0, .ref _)] dX6_idle_13 rfl (by decide) rfl rfl ?_
  refine go_iconst C 14 15 (0) dX6_idle_14 (by decide) rfl ?_
  refine go_istore_n C 15 16 2 [(2, .int _), (1, .int _), (0, .ref _)] dX6_idle_15 rfl (by decide) rfl rfl ?_
  refine go_iconst C 16 17 (0) dX6_idle_16 (by decide) rfl ?_
  refine go_istore_n C 17 18 3 [(3, .int _), (2, .int _), (1, .int _), (0, .ref _)] dX6_idle_17 rfl (by decide) rfl rfl ?_
  obtain ⟨fu9, h⟩ := h
  refine go_perm [3, 2, 1, 0] rfl (L_X6_idle_18 C   _ (fun z7 z8 S6 h => ?_) _ _ _ _ h)
  refine go_iload_n C 191 192 2 0 dX6_idle_191 rfl rfl rfl ?_
  exact go_iret C 192 rfl dX6_idle_192 h
-- BillHouseModel.total(I)I
theorem qX6_total : (parseMethodDescriptor yX6_total.desc).map (fun d => d.parameters.length) = some 1 := by decide +kernel
theorem mhX6_total : yX6_total.cls ≠ "java/lang/invoke/MethodHandle" ∧ yX6_total.cls ≠ "java/lang/invoke/VarHandle" := by decide +kernel
def rX6_total : Room := { frames := 1, cells := 0, slots := 0, locals := 25 }
def wp_X6_total (S : St) (a1 : Int32) (post : Int32 → St → Prop) : Prop :=
  ∀ S1 : St, S1 = uI S 25 0 (0 : Int32) → wp_X6_thereSet S1 (fun (r3 : Int32) (S2 : St) => wp_X6_neededBy S2 r3 (fun (r5 : Int32) (S4 : St) => wp_X6_isWork S4 a1 (fun (r7 : Int32) (S6 : St) => (r7 = 0 → post (-1 : Int32) S6) ∧ (¬ (r7 = 0) → (¬ ((r5 >>> (a1 &&& 31)) &&& (1 : Int32)) = (1 : Int32) → post (-1 : Int32) S6) ∧ (((r5 >>> (a1 &&& 31)) &&& (1 : Int32)) = (1 : Int32) → wp_X6_totalOf S6 a1 r3 r5 (fun (r9 : Int32) (S8 : St) => post r9 S8))))))
set_option maxHeartbeats 4000000 in
set_option maxRecDepth 100000 in
theorem c_X6_total {l : Launch} {D : va_G} {cA : Nat → ClassId} {ad : Nat → Nat} {ex : List Lay} (S : St) (a1 : Int32)  {post : Int32 → St → Prop} (h : wp_X6_total S a1 post) : MetI l yX6_total cX6_total 4 (some .int) rX6_total D cA ad (LU ++ ex) [.ref (ad 25), .int a1] S post 0 0 := by
  refine MetI.of (by decide) (Nat.le_of_ble_eq_true rfl) ?_
  intro p e s m args below meth c C
  unfold wp_X6_total at h
  show Go p l e rX6_total s m args below meth c D cA ad (LU ++ ex) 4 0 0 _ S 0 [(0, .ref (ad 25)), (1, .int a1)] []
  replace C : Cx p s m args meth c cX6_total 4 (some .int) RX6 D cA ad (LU ++ ex) := C
  refine go_aload_n C 0 1 0 0 dX6_total_0 rfl rfl rfl ?_
  refine go_iconst C 1 2 (0) dX6_total_1 (by decide) rfl ?_
  refine go_putI C 2 5 iw6 25 (lu25 ex) rfl 0 (by decide) tyX6 tyX6_ok nmX6 k521_ rfl rfl rfl (by decide +kernel) dX6_total_2 rfl ?_
  refine go_nm (fun S1 hS1 => ?_)
  replace h := h S1 hS1
  refine go_aload_n C 5 6 0 0 dX6_total_5 rfl rfl rfl ?_
  refine go_vi C 6 9 0 0 [] 25 (lu25 ex) rfl (c_X6_thereSet _  h) k646_ k649_ k57_ k648_ k38_ qX6_thereSet mhX6_thereSet (by decide) (by decide) rfl rfl rfl rfl (Nat.le_of_ble_eq_true rfl) rfl rfl dX6_total_6 (fun r3 S2 h => ?_)
  refine go_istore_n C 9 10 2 [(2, .int _), (0, .ref _), (1, .int _)] dX6_total_9 rfl (by decide) rfl rfl ?_
  refine go_aload_n C 10 11 0 1 dX6_total_10 rfl rfl rfl ?_
  refine go_iload_n C 11 12 2 0 dX6_total_11 rfl rfl rfl ?_
  refine go_vi C 12 15 0 0 [.int r3] 25 (lu25 ex) rfl (c_X6_neededBy _ _  h) k650_ k653_ k57_ k652_ k39_ qX6_neededBy mhX6_neededBy (by decide) (by decide) rfl rfl rfl rfl (Nat.le_of_ble_eq_true rfl) rfl rfl dX6_total_12 (fun r5 S4 h => ?_)
  refine go_istore_n C 15 16 3 [(3, .int _), (2, .int _), (0, .ref _), (1, .int _)] dX6_total_15 rfl (by decide) rfl rfl ?_
  refine go_aload_n C 16 17 0 2 dX6_total_16 rfl rfl rfl ?_
  refine go_iload_n C 17 18 1 3 dX6_total_17 rfl rfl rfl ?_
  refine go_vi C 18 21 0 0 [.int a1] 25 (lu25 ex) rfl (c_X6_isWork _ _  h) k616_ k619_ k57_ k618_ k36_ qX6_isWork mhX6_isWork (by decide) (by decide) rfl rfl rfl rfl (Nat.le_of_ble_eq_true rfl) rfl rfl dX6_total_18 (fun r7 S6 h => ?_)
  refine go_if_eq C 21 24 43 dX6_total_21 (by decide) rfl (fun hc => ?_) (fun hc => ?_)
  · have h := h.1 hc
    refine go_iconst C 43 44 (-1) dX6_total_43 (by decide) rfl ?_
    exact go_iret C 44 rfl dX6_total_44 h
  · have h := h.2 hc
    refine go_iload_n C 24 25 3 0 dX6_total_24 rfl rfl rfl ?_
    refine go_iload_n C 25 26 1 3 dX6_total_25 rfl rfl rfl ?_
    refine go_ishr C 26 27 dX6_total_26 rfl ?_
    refine go_iconst C 27 28 (1) dX6_total_27 (by decide) rfl ?_
    refine go_iand C 28 29 dX6_total_28 rfl ?_
    refine go_iconst C 29 30 (1) dX6_total_29 (by decide) rfl ?_
    refine go_icmp_ne C 30 33 43 dX6_total_30 (by decide) rfl (fun hc => ?_) (fun hc => ?_)
    · have h := h.1 hc
      refine go_iconst C 43 44 (-1) dX6_total_43 (by decide) rfl ?_
      exact go_iret C 44 rfl dX6_total_44 h
    · have h := h.2 hc
      refine go_aload_n C 33 34 0 2 dX6_total_33 rfl rfl rfl ?_
      refine go_iload_n C 34 35 1 3 dX6_total_34 rfl rfl rfl ?_
      refine go_iload_n C 35 36 2 1 dX6_total_35 rfl rfl rfl ?_
      refine go_iload_n C 36 37 3 0 dX6_total_36 rfl rfl rfl ?_
      refine go_vi C 37 40 0 0 [.int a1, .int r3, .int r5] 25 (lu25 ex) rfl (c_X6_totalOf _ _ _ _  h) k662_ k665_ k57_ k664_ k40_ qX6_totalOf mhX6_totalOf (by decide) (by decide) rfl rfl rfl rfl (Nat.le_of_ble_eq_true rfl) rfl rfl dX6_total_37 (fun r9 S8 h => ?_)
      refine go_goto C 40 44 dX6_total_40 (by decide) ?_
      exact go_iret C 44 rfl dX6_total_44 h
-- BillHouseModel.cost(I)I
theorem qX6_cost : (parseMethodDescriptor yX6_cost.desc).map (fun d => d.parameters.length) = some 1 := by decide +kernel
theorem mhX6_cost : yX6_cost.cls ≠ "java/lang/invoke/MethodHandle" ∧ yX6_cost.cls ≠ "java/lang/invoke/VarHandle" := by decide +kernel
def rX6_cost : Room := { frames := 2, cells := 0, slots := 0, locals := 49 }
def wp_X6_cost (S : St) (a1 : Int32) (post : Int32 → St → Prop) : Prop :=
  ∀ S1 : St, S1 = uI S 25 0 (0 : Int32) → wp_X6_isIn S1 a1 (0 : Int32) (((1 : Int32) <<< ((S1.1 25 9) &&& 31)) - (1 : Int32)) (fun (r3 : Int32) (S2 : St) => (r3 = 0 → post (-1 : Int32) S2) ∧ (¬ (r3 = 0) → wp_X6_costOf S2 a1 (fun (r5 : Int32) (S4 : St) => post r5 S4)))
set_option maxHeartbeats 4000000 in
set_option maxRecDepth 100000 in
theorem c_X6_cost {l : Launch} {D : va_G} {cA : Nat → ClassId} {ad : Nat → Nat} {ex : List Lay} (S : St) (a1 : Int32)  {post : Int32 → St → Prop} (h : wp_X6_cost S a1 post) : MetI l yX6_cost cX6_cost 2 (some .int) rX6_cost D cA ad (LU ++ ex) [.ref (ad 25), .int a1] S post 0 0 := by
  refine MetI.of (by decide) (Nat.le_of_ble_eq_true rfl) ?_
  intro p e s m args below meth c C
  unfold wp_X6_cost at h
  show Go p l e rX6_cost s m args below meth c D cA ad (LU ++ ex) 2 0 0 _ S 0 [(0, .ref (ad 25)), (1, .int a1)] []
  replace C : Cx p s m args meth c cX6_cost 2 (some .int) RX6 D cA ad (LU ++ ex) := C
  refine go_aload_n C 0 1 0 0 dX6_cost_0 rfl rfl rfl ?_
  refine go_iconst C 1 2 (0) dX6_cost_1 (by decide) rfl ?_
  refine go_putI C 2 5 iw6 25 (lu25 ex) rfl 0 (by decide) tyX6 tyX6_ok nmX6 k521_ rfl rfl rfl (by decide +kernel) dX6_cost_2 rfl ?_
  refine go_nm (fun S1 hS1 => ?_)
  replace h := h S1 hS1
  refine go_iload_n C 5 6 1 1 dX6_cost_5 rfl rfl rfl ?_
  refine go_iconst C 6 7 (0) dX6_cost_6 (by decide) rfl ?_
  refine go_iconst C 7 8 (1) dX6_cost_7 (by decide) rfl ?_
  refine go_aload_n C 8 9 0 0 dX6_cost_8 rfl rfl rfl ?_
  refine go_getI C 9 12 iw6 25 (lu25 ex) rfl 9 (by decide) k530_ rfl rfl dX6_cost_9 rfl ?_
  refine go_ishl C 12 13 dX6_cost_12 rfl ?_
  refine go_iconst C 13 14 (1) dX6_cost_13 (by decide) rfl ?_
  refine go_isub C 14 15 dX6_cost_14 rfl ?_
  refine go_si C 15 18 0 0 [.int a1, .int (0 : Int32), .int (((1 : Int32) <<< ((S1.1 25 9) &&& 31)) - (1 : Int32))] (c_X6_isIn _ _ _ _  h) k605_ k607_ k57_ k606_ qX6_isIn mhX6_isIn (by decide) (by decide) rfl rfl rfl rfl (Nat.le_of_ble_eq_true rfl) rfl rfl dX6_cost_15 (fun r3 S2 h => ?_)
  refine go_if_eq C 18 21 29 dX6_cost_18 (by decide) rfl (fun hc => ?_) (fun hc => ?_)
  · have h := h.1 hc
    refine go_iconst C 29 30 (-1) dX6_cost_29 (by decide) rfl ?_
    exact go_iret C 30 rfl dX6_cost_30 h
  · have h := h.2 hc
    refine go_aload_n C 21 22 0 0 dX6_cost_21 rfl rfl rfl ?_
    refine go_iload_n C 22 23 1 1 dX6_cost_22 rfl rfl rfl ?_
    refine go_vi C 23 26 0 0 [.int a1] 25 (lu25 ex) rfl (c_X6_costOf _ _  h) k670_ k673_ k57_ k672_ k41_ qX6_costOf mhX6_costOf (by decide) (by decide) rfl rfl rfl rfl (Nat.le_of_ble_eq_true rfl) rfl rfl dX6_cost_23 (fun r5 S4 h => ?_)
    refine go_goto C 26 30 dX6_cost_26 (by decide) ?_
    exact go_iret C 30 rfl dX6_cost_30 h
-- BillHouseModel.determinant(III)J
theorem qX6_determinant : (parseMethodDescriptor yX6_determinant.desc).map (fun d => d.parameters.length) = some 3 := by decide +kernel
theorem mhX6_determinant : yX6_determinant.cls ≠ "java/lang/invoke/MethodHandle" ∧ yX6_determinant.cls ≠ "java/lang/invoke/VarHandle" := by decide +kernel
def rX6_determinant (d : Nat) : Room := { frames := 0 + d, cells := 0, slots := 0, locals := 0 + d * 29 }
def wB_X6_determinant_19 (self : St → Int32 → Int32 → Int32 → (Int64 → St → Prop) → Prop) (p1 : Int32) (p2 : Int32) (p3 : Int32) (k rec : Int64 → Int32 → Int32 → St → Prop) (v4 : Int64) (v6 : Int32) (v7 : Int32) (S : St) : Prop :=
  ((S.1 25 19) ≤ v7 → k v4 v6 v7 S) ∧ (¬ ((S.1 25 19) ≤ v7) → (¬ ((p2 >>> (v7 &&& 31)) &&& (1 : Int32)) = (1 : Int32) → (¬ v7 = p3 → (vp_in (((6 : Int32) * p1) + v7) 36) ∧ (∀ x2 : Int64, x2 = (S.2 37 (((6 : Int32) * p1) + v7).toNatClampNeg) → (x2 = (0 : Int64) → ∀ x3 : Int32, x3 = (-v6) → rec v4 x3 (v7 + 1) S) ∧ (¬ (x2 = (0 : Int64)) → self S (p1 + (1 : Int32)) (p2 ||| ((1 : Int32) <<< (v7 &&& 31))) p3 (fun (r5 : Int64) (S4 : St) => ∀ x6 : Int64, x6 = (v4 + ((v6.toInt64 * x2) * r5)) → ∀ x7 : Int32, x7 = (-v6) → rec x6 x7 (v7 + 1) S4)))) ∧ (v7 = p3 → (vp_in p1 6) ∧ (∀ x9 : Int64, x9 = (S.2 38 p1.toNatClampNeg) → (x9 = (0 : Int64) → ∀ x10 : Int32, x10 = (-v6) → rec v4 x10 (v7 + 1) S) ∧ (¬ (x9 = (0 : Int64)) → self S (p1 + (1 : Int32)) (p2 ||| ((1 : Int32) <<< (v7 &&& 31))) p3 (fun (r12 : Int64) (S11 : St) => ∀ x13 : Int64, x13 = (v4 + ((v6.toInt64 * x9) * r12)) → ∀ x14 : Int32, x14 = (-v6) → rec x13 x14 (v7 + 1) S11))))) ∧ (((p2 >>> (v7 &&& 31)) &&& (1 : Int32)) = (1 : Int32) → rec v4 v6 (v7 + 1) S))
def wL_X6_determinant_19 (self : St → Int32 → Int32 → Int32 → (Int64 → St → Prop) → Prop) (p1 : Int32) (p2 : Int32) (p3 : Int32) (k : Int64 → Int32 → Int32 → St → Prop) : Nat → Int64 → Int32 → Int32 → St → Prop
  | 0, _, _, _, _ => False
  | n + 1, v4, v6, v7, S => wB_X6_determinant_19 self p1 p2 p3 k (wL_X6_determinant_19 self p1 p2 p3 k n) v4 v6 v7 S
set_option maxHeartbeats 4000000 in
set_option maxRecDepth 100000 in
theorem L_X6_determinant_19 {p : Program} {l : Launch} {e : Env} {s : State} {m : MethodId} {args : Array Value} {below : List Frame} {meth : Method} {c : Code} {D : va_G} {cA : Nat → ClassId} {ad : Nat → Nat} {ex : List Lay} {Q : State → Prop} (d : Nat) (C : Cx p s m args meth c cX6_determinant 10 (some .long) RX6 D cA ad (LU ++ ex))   (self : St → Int32 → Int32 → Int32 → (Int64 → St → Prop) → Prop) (hself : ∀ (S : St) (a1 : Int32) (a2 : Int32) (a3 : Int32) (post : Int64 → St → Prop), self S a1 a2 a3 post → MetL l yX6_determinant cX6_determinant 10 (some .long) (rX6_determinant d) D cA ad (LU ++ ex) [.ref (ad 25), .int a1, .int a2, .int a3] S post 0 0) (p1 : Int32) (p2 : Int32) (p3 : Int32) {k : Int64 → Int32 → Int32 → St → Prop} (hk : ∀ (v4 : Int64) (v6 : Int32) (v7 : Int32) (S : St), k v4 v6 v7 S → Go p l e (rX6_determinant (d + 1)) s m args below meth c D cA ad (LU ++ ex) 10 0 0 Q S 114 [(4, .long v4)] []) : ∀ (n : Nat) (v4 : Int64) (v6 : Int32) (v7 : Int32) (S : St), wL_X6_determinant_19 self p1 p2 p3 k n v4 v6 v7 S → Go p l e (rX6_determinant (d + 1)) s m args below meth c D cA ad (LU ++ ex) 10 0 0 Q S 19 [(0, .ref (ad 25)), (1, .int p1), (2, .int p2), (3, .int p3), (4, .long v4), (6, .int v6), (7, .int v7)] [] := by
  intro n
  induction n with
  | zero => intro v4 v6 v7 S h; exact h.elim
  | succ n ih =>
    intro v4 v6 v7 S h
    replace h : wB_X6_determinant_19 self p1 p2 p3 k (wL_X6_determinant_19 self p1 p2 p3 k n) v4 v6 v7 S := h
    unfold wB_X6_determinant_19 at h
    refine go_iload C 19 21 7 6 dX6_determinant_19 rfl rfl ?_
    refine go_aload_n C 21 22 0 0 dX6_determinant_21 rfl rfl rfl ?_
    refine go_getI C 22 25 iw6 25 (lu25 ex) rfl 19 (by decide) k540_ rfl rfl dX6_determinant_22 rfl ?_
    refine go_icmp_ge C 25 28 114 dX6_determinant_25 (by decide) rfl (fun hc => ?_) (fun hc => ?_)
    · have h := h.1 hc
      exact go_perm [4] rfl (hk _ _ _ _ h)
    · have h := h.2 hc
      refine go_iload_n C 28 29 2 2 dX6_determinant_28 rfl rfl rfl ?_
      refine go_iload C 29 31 7 6 dX6_determinant_29 rfl rfl ?_
      refine go_ishr C 31 32 dX6_determinant_31 rfl ?_
      refine go_iconst C 32 33 (1) dX6_determinant_32 (by decide) rfl ?_
      refine go_iand C 33 34 dX6_determinant_33 rfl ?_
      refine go_iconst C 34 35 (1) dX6_determinant_34 (by decide) rfl ?_
      refine go_icmp_ne C 35 38 41 dX6_determinant_35 (by decide) rfl (fun hc => ?_) (fun hc => ?_)
      · have h := h.1 hc
        refine go_iload C 41 43 7 6 dX6_determinant_41 rfl rfl ?_
        refine go_iload_n C 43 44 3 3 dX6_determinant_43 rfl rfl rfl ?_
        refine go_icmp_ne C 44 47 56 dX6_determinant_44 (by decide) rfl (fun hc => ?_) (fun hc => ?_)
        · have h := h.1 hc
          refine go_aload_n C 56 57 0 0 dX6_determinant_56 rfl rfl rfl ?_
          refine go_getR C 57 60 iw6 25 (lu25 ex) rfl 16 (by decide) k537_ rfl rfl dX6_determinant_57 rfl ?_
          refine go_bipush C 60 62 (6) dX6_determinant_60 (by decide) rfl ?_
          refine go_iload_n C 62 63 1 1 dX6_determinant_62 rfl rfl rfl ?_
          refine go_imul C 63 64 dX6_determinant_63 rfl ?_
          refine go_iload C 64 66 7 6 dX6_determinant_64 rfl rfl ?_
          refine go_iadd C 66 67 dX6_determinant_66 rfl ?_
          obtain ⟨hi1, h⟩ := h
          refine go_lald C 67 68 37 (lu37 ex) hi1 dX6_determinant_67 rfl ?_
          refine go_topl (fun x2 hx2 => ?_)
          replace h := h x2 hx2
          refine go_lstore C 68 70 8 [(8, .long _), (0, .ref _), (1, .int _), (2, .int _), (3, .int _), (4, .long _), (6, .int _), (7, .int _)] dX6_determinant_68 (by decide) rfl rfl ?_
          refine go_lload C 70 72 8 0 dX6_determinant_70 rfl rfl ?_
          refine go_lconst C 72 73 0 dX6_determinant_72 rfl rfl ?_
          refine go_lcmp_eq C 73 77 103 dX6_determinant_73 dX6_determinant_74 (by decide) rfl (fun hc => ?_) (fun hc => ?_)
          · have h := h.1 hc
            refine go_iload C 103 105 6 6 dX6_determinant_103 rfl rfl ?_
            refine go_ineg C 105 106 dX6_determinant_105 rfl ?_
            refine go_topi (fun x3 hx3 => ?_)
            replace h := h x3 hx3
            refine go_istore C 106 108 6 [(6, .int _), (8, .long _), (0, .ref _), (1, .int _), (2, .int _), (3, .int _), (4, .long _), (7, .int _)] dX6_determinant_106 (by decide) rfl rfl ?_
            refine go_iinc C 108 111 7 7 (v7 + 1) [(7, .int _), (6, .int _), (8, .long _), (0, .ref _), (1, .int _), (2, .int _), (3, .int _), (4, .long _)] dX6_determinant_108 rfl rfl (by decide) rfl rfl ?_
            refine go_goto C 111 19 dX6_determinant_111 (by decide) ?_
            exact go_perm [3, 4, 5, 6, 7, 1, 0] rfl (ih _ _ _ _ h)
          · have h := h.2 hc
            refine go_lload C 77 79 4 5 dX6_determinant_77 rfl rfl ?_
            refine go_iload C 79 81 6 6 dX6_determinant_79 rfl rfl ?_
            refine go_i2l C 81 82 dX6_determinant_81 rfl ?_
            refine go_lload C 82 84 8 0 dX6_determinant_82 rfl rfl ?_
            refine go_lmul C 84 85 dX6_determinant_84 rfl ?_
            refine go_aload_n C 85 86 0 1 dX6_determinant_85 rfl rfl rfl ?_
            refine go_iload_n C 86 87 1 2 dX6_determinant_86 rfl rfl rfl ?_
            refine go_iconst C 87 88 (1) dX6_determinant_87 (by decide) rfl ?_
            refine go_iadd C 88 89 dX6_determinant_88 rfl ?_
            refine go_iload_n C 89 90 2 3 dX6_determinant_89 rfl rfl rfl ?_
            refine go_iconst C 90 91 (1) dX6_determinant_90 (by decide) rfl ?_
            refine go_iload C 91 93 7 7 dX6_determinant_91 rfl rfl ?_
            refine go_ishl C 93 94 dX6_determinant_93 rfl ?_
            refine go_ior C 94 95 dX6_determinant_94 rfl ?_
            refine go_iload_n C 95 96 3 4 dX6_determinant_95 rfl rfl rfl ?_
            refine go_vl C 96 99 0 0 [.int (p1 + (1 : Int32)), .int (p2 ||| ((1 : Int32) <<< (v7 &&& 31))), .int p3] 25 (lu25 ex) rfl (hself _ _ _ _ _ h) k687_ k690_ k57_ k689_ k44_ qX6_determinant mhX6_determinant (by constructor <;> simp only [rX6_determinant] <;> omega) ⟨Nat.le_refl _, Nat.le_refl _⟩ rfl rfl rfl rfl (Nat.le_of_ble_eq_true rfl) rfl rfl dX6_determinant_96 (fun r5 S4 h => ?_)
            refine go_lmul C 99 100 dX6_determinant_99 rfl ?_
            refine go_ladd C 100 101 dX6_determinant_100 rfl ?_
            refine go_topl (fun x6 hx6 => ?_)
            replace h := h x6 hx6
            refine go_lstore C 101 103 4 [(4, .long _), (8, .long _), (0, .ref _), (1, .int _), (2, .int _), (3, .int _), (6, .int _), (7, .int _)] dX6_determinant_101 (by decide) rfl rfl ?_
            refine go_iload C 103 105 6 6 dX6_determinant_103 rfl rfl ?_
            refine go_ineg C 105 106 dX6_determinant_105 rfl ?_
            refine go_topi (fun x7 hx7 => ?_)
            replace h := h x7 hx7
            refine go_istore C 106 108 6 [(6, .int _), (4, .long _), (8, .long _), (0, .ref _), (1, .int _), (2, .int _), (3, .int _), (7, .int _)] dX6_determinant_106 (by decide) rfl rfl ?_
            refine go_iinc C 108 111 7 7 (v7 + 1) [(7, .int _), (6, .int _), (4, .long _), (8, .long _), (0, .ref _), (1, .int _), (2, .int _), (3, .int _)] dX6_determinant_108 rfl rfl (by decide) rfl rfl ?_
            refine go_goto C 111 19 dX6_determinant_111 (by decide) ?_
            exact go_perm [4, 5, 6, 7, 2, 1, 0] rfl (ih _ _ _ _ h)
        · have h := h.2 hc
          refine go_aload_n C 47 48 0 0 dX6_determinant_47 rfl rfl rfl ?_
          refine go_getR C 48 51 iw6 25 (lu25 ex) rfl 17 (by decide) k538_ rfl rfl dX6_determinant_48 rfl ?_
          refine go_iload_n C 51 52 1 1 dX6_determinant_51 rfl rfl rfl ?_
          obtain ⟨hi8, h⟩ := h
          refine go_lald C 52 53 38 (lu38 ex) hi8 dX6_determinant_52 rfl ?_
          refine go_goto C 53 68 dX6_determinant_53 (by decide) ?_
          refine go_topl (fun x9 hx9 => ?_)
          replace h := h x9 hx9
          refine go_lstore C 68 70 8 [(8, .long _), (0, .ref _), (1, .int _), (2, .int _), (3, .int _), (4, .long _), (6, .int _), (7, .int _)] dX6_determinant_68 (by decide) rfl rfl ?_
          refine go_lload C 70 72 8 0 dX6_determinant_70 rfl rfl ?_
          refine go_lconst C 72 73 0 dX6_determinant_72 rfl rfl ?_
          refine go_lcmp_eq C 73 77 103 dX6_determinant_73 dX6_determinant_74 (by decide) rfl (fun hc => ?_) (fun hc => ?_)
          · have h := h.1 hc
            refine go_iload C 103 105 6 6 dX6_determinant_103 rfl rfl ?_
            refine go_ineg C 105 106 dX6_determinant_105 rfl ?_
            refine go_topi (fun x10 hx10 => ?_)
            replace h := h x10 hx10
            refine go_istore C 106 108 6 [(6, .int _), (8, .long _), (0, .ref _), (1, .int _), (2, .int _), (3, .int _), (4, .long _), (7, .int _)] dX6_determinant_106 (by decide) rfl rfl ?_
            refine go_iinc C 108 111 7 7 (v7 + 1) [(7, .int _), (6, .int _), (8, .long _), (0, .ref _), (1, .int _), (2, .int _), (3, .int _), (4, .long _)] dX6_determinant_108 rfl rfl (by decide) rfl rfl ?_
            refine go_goto C 111 19 dX6_determinant_111 (by decide) ?_
            exact go_perm [3, 4, 5, 6, 7, 1, 0] rfl (ih _ _ _ _ h)
          · have h := h.2 hc
            refine go_lload C 77 79 4 5 dX6_determinant_77 rfl rfl ?_
            refine go_iload C 79 81 6 6 dX6_determinant_79 rfl rfl ?_
            refine go_i2l C 81 82 dX6_determinant_81 rfl ?_
            refine go_lload C 82 84 8 0 dX6_determinant_82 rfl rfl ?_
            refine go_lmul C 84 85 dX6_determinant_84 rfl ?_
            refine go_aload_n C 85 86 0 1 dX6_determinant_85 rfl rfl rfl ?_
            refine go_iload_n C 86 87 1 2 dX6_determinant_86 rfl rfl rfl ?_
            refine go_iconst C 87 88 (1) dX6_determinant_87 (by decide) rfl ?_
            refine go_iadd C 88 89 dX6_determinant_88 rfl ?_
            refine go_iload_n C 89 90 2 3 dX6_determinant_89 rfl rfl rfl ?_
            refine go_iconst C 90 91 (1) dX6_determinant_90 (by decide) rfl ?_
            refine go_iload C 91 93 7 7 dX6_determinant_91 rfl rfl ?_
            refine go_ishl C 93 94 dX6_determinant_93 rfl ?_
            refine go_ior C 94 95 dX6_determinant_94 rfl ?_
            refine go_iload_n C 95 96 3 4 dX6_determinant_95 rfl rfl rfl ?_
            refine go_vl C 96 99 0 0 [.int (p1 + (1 : Int32)), .int (p2 ||| ((1 : Int32) <<< (v7 &&& 31))), .int p3] 25 (lu25 ex) rfl (hself _ _ _ _ _ h) k687_ k690_ k57_ k689_ k44_ qX6_determinant mhX6_determinant (by constructor <;> simp only [rX6_determinant] <;> omega) ⟨Nat.le_refl _, Nat.le_refl _⟩ rfl rfl rfl rfl (Nat.le_of_ble_eq_true rfl) rfl rfl dX6_determinant_96 (fun r12 S11 h => ?_)
            refine go_lmul C 99 100 dX6_determinant_99 rfl ?_
            refine go_ladd C 100 101 dX6_determinant_100 rfl ?_
            refine go_topl (fun x13 hx13 => ?_)
            replace h := h x13 hx13
            refine go_lstore C 101 103 4 [(4, .long _), (8, .long _), (0, .ref _), (1, .int _), (2, .int _), (3, .int _), (6, .int _), (7, .int _)] dX6_determinant_101 (by decide) rfl rfl ?_
            refine go_iload C 103 105 6 6 dX6_determinant_103 rfl rfl ?_
            refine go_ineg C 105 106 dX6_determinant_105 rfl ?_
            refine go_topi (fun x14 hx14 => ?_)
            replace h := h x14 hx14
            refine go_istore C 106 108 6 [(6, .int _), (4, .long _), (8, .long _), (0, .ref _), (1, .int _), (2, .int _), (3, .int _), (7, .int _)] dX6_determinant_106 (by decide) rfl rfl ?_
            refine go_iinc C 108 111 7 7 (v7 + 1) [(7, .int _), (6, .int _), (4, .long _), (8, .long _), (0, .ref _), (1, .int _), (2, .int _), (3, .int _)] dX6_determinant_108 rfl rfl (by decide) rfl rfl ?_
            refine go_goto C 111 19 dX6_determinant_111 (by decide) ?_
            exact go_perm [4, 5, 6, 7, 2, 1, 0] rfl (ih _ _ _ _ h)
      · have h := h.2 hc
        refine go_goto C 38 108 dX6_determinant_38 (by decide) ?_
        refine go_iinc C 108 111 7 6 (v7 + 1) [(7, .int _), (0, .ref _), (1, .int _), (2, .int _), (3, .int _), (4, .long _), (6, .int _)] dX6_determinant_108 rfl rfl (by decide) rfl rfl ?_
        refine go_goto C 111 19 dX6_determinant_111 (by decide) ?_
        exact go_perm [1, 2, 3, 4, 5, 6, 0] rfl (ih _ _ _ _ h)
def wR_X6_determinant (self : St → Int32 → Int32 → Int32 → (Int64 → St → Prop) → Prop) (S : St) (a1 : Int32) (a2 : Int32) (a3 : Int32) (post : Int64 → St → Prop) : Prop :=
  (¬ a1 = (S.1 25 19) → ∃ fu5, wL_X6_determinant_19 self a1 a2 a3 (fun (z2 : Int64) (z3 : Int32) (z4 : Int32) (S1 : St) => post z2 S1) fu5 (0 : Int64) (1 : Int32) (0 : Int32) S) ∧ (a1 = (S.1 25 19) → post (1 : Int64) S)
def wp_X6_determinant : Nat → St → Int32 → Int32 → Int32 → (Int64 → St → Prop) → Prop
  | 0, _, _, _, _, _ => False
  | d + 1, S, a1, a2, a3, post => wR_X6_determinant (wp_X6_determinant d) S a1 a2 a3 post
set_option maxHeartbeats 4000000 in
set_option maxRecDepth 100000 in
theorem c_X6_determinant {l : Launch} {D : va_G} {cA : Nat → ClassId} {ad : Nat → Nat} {ex : List Lay} (d : Nat) : ∀ (S : St) (a1 : Int32) (a2 : Int32) (a3 : Int32) {post : Int64 → St → Prop}, wp_X6_determinant d S a1 a2 a3 post → MetL l yX6_determinant cX6_determinant 10 (some .long) (rX6_determinant d) D cA ad (LU ++ ex) [.ref (ad 25), .int a1, .int a2, .int a3] S post 0 0 := by
  induction d with
  | zero => intro S a1 a2 a3 post h; exact h.elim
  | succ d ihd =>
    intro S a1 a2 a3 post h
    replace h : wR_X6_determinant (wp_X6_determinant d) S a1 a2 a3 post := h
    have hself : ∀ (S : St) (a1 : Int32) (a2 : Int32) (a3 : Int32) (post : Int64 → St → Prop), wp_X6_determinant d S a1 a2 a3 post → MetL l yX6_determinant cX6_determinant 10 (some .long) (rX6_determinant d) D cA ad (LU ++ ex) [.ref (ad 25), .int a1, .int a2, .int a3] S post 0 0 := fun S a1 a2 a3 post h => ihd S a1 a2 a3 h
    generalize wp_X6_determinant d = self at h hself
    refine MetL.of (by decide) (Nat.le_of_ble_eq_true rfl) ?_
    intro p e s m args below meth c C
    unfold wR_X6_determinant at h
    show Go p l e (rX6_determinant (d + 1)) s m args below meth c D cA ad (LU ++ ex) 10 0 0 _ S 0 [(0, .ref (ad 25)), (1, .int a1), (2, .int a2), (3, .int a3)] []
    replace C : Cx p s m args meth c cX6_determinant 10 (some .long) RX6 D cA ad (LU ++ ex) := C
    refine go_iload_n C 0 1 1 1 dX6_determinant_0 rfl rfl rfl ?_
    refine go_aload_n C 1 2 0 0 dX6_determinant_1 rfl rfl rfl ?_
    refine go_getI C 2 5 iw6 25 (lu25 ex) rfl 19 (by decide) k540_ rfl rfl dX6_determinant_2 rfl ?_
    refine go_icmp_ne C 5 8 10 dX6_determinant_5 (by decide) rfl (fun hc => ?_) (fun hc => ?_)
    · have h := h.1 hc
      refine go_lconst C 10 11 0 dX6_determinant_10 rfl rfl ?_
      refine go_lstore C 11 13 4 [(4, .long _), (0, .ref _), (1, .int _), (2, .int _), (3, .int _)] dX6_determinant_11 (by decide) rfl rfl ?_
      refine go_iconst C 13 14 (1) dX6_determinant_13 (by decide) rfl ?_
      refine go_istore C 14 16 6 [(6, .int _), (4, .long _), (0, .ref _), (1, .int _), (2, .int _), (3, .int _)] dX6_determinant_14 (by decide) rfl rfl ?_
      refine go_iconst C 16 17 (0) dX6_determinant_16 (by decide) rfl ?_
      refine go_istore C 17 19 7 [(7, .int _), (6, .int _), (4, .long _), (0, .ref _), (1, .int _), (2, .int _), (3, .int _)] dX6_determinant_17 (by decide) rfl rfl ?_
      obtain ⟨fu5, h⟩ := h
      refine go_perm [3, 4, 5, 6, 2, 1, 0] rfl (L_X6_determinant_19 d C   self hself _ _ _ (fun z2 z3 z4 S1 h => ?_) _ _ _ _ _ h)
      refine go_lload C 114 116 4 0 dX6_determinant_114 rfl rfl ?_
      exact go_lret C 116 rfl dX6_determinant_116 h
    · have h := h.2 hc
      refine go_lconst C 8 9 1 dX6_determinant_8 rfl rfl ?_
      exact go_lret C 9 rfl dX6_determinant_9 h
-- BillHouseModel.prices()V
theorem qX6_prices : (parseMethodDescriptor yX6_prices.desc).map (fun d => d.parameters.length) = some 0 := by decide +kernel
theorem mhX6_prices : yX6_prices.cls ≠ "java/lang/invoke/MethodHandle" ∧ yX6_prices.cls ≠ "java/lang/invoke/VarHandle" := by decide +kernel
def rX6_prices : Room := { frames := 9, cells := 0, slots := 0, locals := 261 }
def wB_X6_prices_18 (p1 : Int32) (p2 : Int32) (k rec : Int32 → St → Prop) (v3 : Int32) (S : St) : Prop :=
  ((S.1 25 8) ≤ v3 → k v3 S) ∧ (¬ ((S.1 25 8) ≤ v3) → (vp_in v3 6) ∧ (∀ S2 : St, S2 = uJ S 39 v3.toNatClampNeg (0 : Int64) → (¬ ((p2 >>> (v3 &&& 31)) &&& (1 : Int32)) = 0 → (vp_in (S2.1 25 19) 6) ∧ (∀ S4 : St, S4 = uI S2 36 ((S2.1 25 19).toNatClampNeg) v3 → ∀ S5 : St, S5 = uI S4 25 19 ((S4.1 25 19) + (1 : Int32)) → rec (v3 + 1) S5)) ∧ (((p2 >>> (v3 &&& 31)) &&& (1 : Int32)) = 0 → rec (v3 + 1) S2)))
def wL_X6_prices_18 (p1 : Int32) (p2 : Int32) (k : Int32 → St → Prop) : Nat → Int32 → St → Prop
  | 0, _, _ => False
  | n + 1, v3, S => wB_X6_prices_18 p1 p2 k (wL_X6_prices_18 p1 p2 k n) v3 S
set_option maxHeartbeats 4000000 in
set_option maxRecDepth 100000 in
theorem L_X6_prices_18 {p : Program} {l : Launch} {e : Env} {s : State} {m : MethodId} {args : Array Value} {below : List Frame} {meth : Method} {c : Code} {D : va_G} {cA : Nat → ClassId} {ad : Nat → Nat} {ex : List Lay} {Q : State → Prop} (C : Cx p s m args meth c cX6_prices 7 none RX6 D cA ad (LU ++ ex))   (p1 : Int32) (p2 : Int32) {k : Int32 → St → Prop} (hk : ∀ (v3 : Int32) (S : St), k v3 S → Go p l e rX6_prices s m args below meth c D cA ad (LU ++ ex) 7 0 0 Q S 70 [(0, .ref (ad 25)), (1, .int p1), (2, .int p2)] []) : ∀ (n : Nat) (v3 : Int32) (S : St), wL_X6_prices_18 p1 p2 k n v3 S → Go p l e rX6_prices s m args below meth c D cA ad (LU ++ ex) 7 0 0 Q S 18 [(0, .ref (ad 25)), (1, .int p1), (2, .int p2), (3, .int v3)] [] := by
  intro n
  induction n with
  | zero => intro v3 S h; exact h.elim
  | succ n ih =>
    intro v3 S h
    replace h : wB_X6_prices_18 p1 p2 k (wL_X6_prices_18 p1 p2 k n) v3 S := h
    unfold wB_X6_prices_18 at h
    refine go_iload_n C 18 19 3 3 dX6_prices_18 rfl rfl rfl ?_
    refine go_aload_n C 19 20 0 0 dX6_prices_19 rfl rfl rfl ?_
    refine go_getI C 20 23 iw6 25 (lu25 ex) rfl 8 (by decide) k529_ rfl rfl dX6_prices_20 rfl ?_
    refine go_icmp_ge C 23 26 70 dX6_prices_23 (by decide) rfl (fun hc => ?_) (fun hc => ?_)
    · have h := h.1 hc
      exact go_perm [0, 1, 2] rfl (hk _ _ h)
    · have h := h.2 hc
      refine go_aload_n C 26 27 0 0 dX6_prices_26 rfl rfl rfl ?_
      refine go_getR C 27 30 iw6 25 (lu25 ex) rfl 18 (by decide) k539_ rfl rfl dX6_prices_27 rfl ?_
      refine go_iload_n C 30 31 3 3 dX6_prices_30 rfl rfl rfl ?_
      refine go_lconst C 31 32 0 dX6_prices_31 rfl rfl ?_
      obtain ⟨hi1, h⟩ := h
      refine go_last C 32 33 39 (lu39 ex) hi1 dX6_prices_32 rfl ?_
      refine go_nm (fun S2 hS2 => ?_)
      replace h := h S2 hS2
      refine go_iload_n C 33 34 2 2 dX6_prices_33 rfl rfl rfl ?_
      refine go_iload_n C 34 35 3 3 dX6_prices_34 rfl rfl rfl ?_
      refine go_ishr C 35 36 dX6_prices_35 rfl ?_
      refine go_iconst C 36 37 (1) dX6_prices_36 (by decide) rfl ?_
      refine go_iand C 37 38 dX6_prices_37 rfl ?_
      refine go_if_ne C 38 41 44 dX6_prices_38 (by decide) rfl (fun hc => ?_) (fun hc => ?_)
      · have h := h.1 hc
        refine go_aload_n C 44 45 0 0 dX6_prices_44 rfl rfl rfl ?_
        refine go_getR C 45 48 iw6 25 (lu25 ex) rfl 15 (by decide) k536_ rfl rfl dX6_prices_45 rfl ?_
        refine go_aload_n C 48 49 0 0 dX6_prices_48 rfl rfl rfl ?_
        refine go_getI C 49 52 iw6 25 (lu25 ex) rfl 19 (by decide) k540_ rfl rfl dX6_prices_49 rfl ?_
        refine go_iload_n C 52 53 3 3 dX6_prices_52 rfl rfl rfl ?_
        obtain ⟨hi3, h⟩ := h
        refine go_iast C 53 54 36 (lu36 ex) hi3 dX6_prices_53 rfl ?_
        refine go_nm (fun S4 hS4 => ?_)
        replace h := h S4 hS4
        refine go_aload_n C 54 55 0 0 dX6_prices_54 rfl rfl rfl ?_
        refine go_dup C 55 56 rfl dX6_prices_55 rfl ?_
        refine go_getI C 56 59 iw6 25 (lu25 ex) rfl 19 (by decide) k540_ rfl rfl dX6_prices_56 rfl ?_
        refine go_iconst C 59 60 (1) dX6_prices_59 (by decide) rfl ?_
        refine go_iadd C 60 61 dX6_prices_60 rfl ?_
        refine go_putI C 61 64 iw6 25 (lu25 ex) rfl 19 (by decide) tyX6 tyX6_ok nmX6 k540_ rfl rfl rfl (by decide +kernel) dX6_prices_61 rfl ?_
        refine go_nm (fun S5 hS5 => ?_)
        replace h := h S5 hS5
        refine go_iinc C 64 67 3 3 (v3 + 1) [(3, .int _), (0, .ref _), (1, .int _), (2, .int _)] dX6_prices_64 rfl rfl (by decide) rfl rfl ?_
        refine go_goto C 67 18 dX6_prices_67 (by decide) ?_
        exact go_perm [1, 2, 3, 0] rfl (ih _ _ h)
      · have h := h.2 hc
        refine go_goto C 41 64 dX6_prices_41 (by decide) ?_
        refine go_iinc C 64 67 3 3 (v3 + 1) [(3, .int _), (0, .ref _), (1, .int _), (2, .int _)] dX6_prices_64 rfl rfl (by decide) rfl rfl ?_
        refine go_goto C 67 18 dX6_prices_67 (by decide) ?_
        exact go_perm [1, 2, 3, 0] rfl (ih _ _ h)
def wB_X6_prices_116 (p1 : Int32) (p2 : Int32) (p3 : Int32) (p4 : Int32) (p5 : Int32) (k rec : Int32 → St → Prop) (v6 : Int32) (S : St) : Prop :=
  ((S.1 25 19) ≤ v6 → k v6 S) ∧ (¬ ((S.1 25 19) ≤ v6) → (¬ p3 = v6 → (vp_in v6 6) ∧ ((vp_in (((6 : Int32) * (S.1 36 v6.toNatClampNeg)) + p4) 36) ∧ ((vp_in (((6 : Int32) * p3) + v6) 36) ∧ (∀ S4 : St, S4 = uJ S 37 ((((6 : Int32) * p3) + v6).toNatClampNeg) ((-(S.1 29 (((6 : Int32) * (S.1 36 v6.toNatClampNeg)) + p4).toNatClampNeg)).toInt64) → rec (v6 + 1) S4)))) ∧ (p3 = v6 → (vp_in (((6 : Int32) * p3) + v6) 36) ∧ (∀ S6 : St, S6 = uJ S 37 ((((6 : Int32) * p3) + v6).toNatClampNeg) p5.toInt64 → rec (v6 + 1) S6)))
def wL_X6_prices_116 (p1 : Int32) (p2 : Int32) (p3 : Int32) (p4 : Int32) (p5 : Int32) (k : Int32 → St → Prop) : Nat → Int32 → St → Prop
  | 0, _, _ => False
  | n + 1, v6, S => wB_X6_prices_116 p1 p2 p3 p4 p5 k (wL_X6_prices_116 p1 p2 p3 p4 p5 k n) v6 S
set_option maxHeartbeats 4000000 in
set_option maxRecDepth 100000 in
theorem L_X6_prices_116 {p : Program} {l : Launch} {e : Env} {s : State} {m : MethodId} {args : Array Value} {below : List Frame} {meth : Method} {c : Code} {D : va_G} {cA : Nat → ClassId} {ad : Nat → Nat} {ex : List Lay} {Q : State → Prop} (C : Cx p s m args meth c cX6_prices 7 none RX6 D cA ad (LU ++ ex))   (p1 : Int32) (p2 : Int32) (p3 : Int32) (p4 : Int32) (p5 : Int32) {k : Int32 → St → Prop} (hk : ∀ (v6 : Int32) (S : St), k v6 S → Go p l e rX6_prices s m args below meth c D cA ad (LU ++ ex) 7 0 0 Q S 175 [(0, .ref (ad 25)), (1, .int p1), (2, .int p2), (3, .int p3)] []) : ∀ (n : Nat) (v6 : Int32) (S : St), wL_X6_prices_116 p1 p2 p3 p4 p5 k n v6 S → Go p l e rX6_prices s m args below meth c D cA ad (LU ++ ex) 7 0 0 Q S 116 [(0, .ref (ad 25)), (1, .int p1), (2, .int p2), (3, .int p3), (4, .int p4), (5, .int p5), (6, .int v6)] [] := by
  intro n
  induction n with
  | zero => intro v6 S h; exact h.elim
  | succ n ih =>
    intro v6 S h
    replace h : wB_X6_prices_116 p1 p2 p3 p4 p5 k (wL_X6_prices_116 p1 p2 p3 p4 p5 k n) v6 S := h
    unfold wB_X6_prices_116 at h
    refine go_iload C 116 118 6 6 dX6_prices_116 rfl rfl ?_
    refine go_aload_n C 118 119 0 0 dX6_prices_118 rfl rfl rfl ?_
    refine go_getI C 119 122 iw6 25 (lu25 ex) rfl 19 (by decide) k540_ rfl rfl dX6_prices_119 rfl ?_
    refine go_icmp_ge C 122 125 175 dX6_prices_122 (by decide) rfl (fun hc => ?_) (fun hc => ?_)
    · have h := h.1 hc
      exact go_perm [0, 1, 2, 3] rfl (hk _ _ h)
    · have h := h.2 hc
      refine go_aload_n C 125 126 0 0 dX6_prices_125 rfl rfl rfl ?_
      refine go_getR C 126 129 iw6 25 (lu25 ex) rfl 16 (by decide) k537_ rfl rfl dX6_prices_126 rfl ?_
      refine go_bipush C 129 131 (6) dX6_prices_129 (by decide) rfl ?_
      refine go_iload_n C 131 132 3 3 dX6_prices_131 rfl rfl rfl ?_
      refine go_imul C 132 133 dX6_prices_132 rfl ?_
      refine go_iload C 133 135 6 6 dX6_prices_133 rfl rfl ?_
      refine go_iadd C 135 136 dX6_prices_135 rfl ?_
      refine go_iload_n C 136 137 3 3 dX6_prices_136 rfl rfl rfl ?_
      refine go_iload C 137 139 6 6 dX6_prices_137 rfl rfl ?_
      refine go_icmp_ne C 139 142 148 dX6_prices_139 (by decide) rfl (fun hc => ?_) (fun hc => ?_)
      · have h := h.1 hc
        refine go_aload_n C 148 149 0 0 dX6_prices_148 rfl rfl rfl ?_
        refine go_getR C 149 152 iw6 25 (lu25 ex) rfl 4 (by decide) k525_ rfl rfl dX6_prices_149 rfl ?_
        refine go_bipush C 152 154 (6) dX6_prices_152 (by decide) rfl ?_
        refine go_aload_n C 154 155 0 0 dX6_prices_154 rfl rfl rfl ?_
        refine go_getR C 155 158 iw6 25 (lu25 ex) rfl 15 (by decide) k536_ rfl rfl dX6_prices_155 rfl ?_
        refine go_iload C 158 160 6 6 dX6_prices_158 rfl rfl ?_
        obtain ⟨hi1, h⟩ := h
        refine go_iald C 160 161 36 (lu36 ex) hi1 dX6_prices_160 rfl ?_
        refine go_imul C 161 162 dX6_prices_161 rfl ?_
        refine go_iload C 162 164 4 4 dX6_prices_162 rfl rfl ?_
        refine go_iadd C 164 165 dX6_prices_164 rfl ?_
        obtain ⟨hi2, h⟩ := h
        refine go_iald C 165 166 29 (lu29 ex) hi2 dX6_prices_165 rfl ?_
        refine go_ineg C 166 167 dX6_prices_166 rfl ?_
        refine go_i2l C 167 168 dX6_prices_167 rfl ?_
        obtain ⟨hi3, h⟩ := h
        refine go_last C 168 169 37 (lu37 ex) hi3 dX6_prices_168 rfl ?_
        refine go_nm (fun S4 hS4 => ?_)
        replace h := h S4 hS4
        refine go_iinc C 169 172 6 6 (v6 + 1) [(6, .int _), (0, .ref _), (1, .int _), (2, .int _), (3, .int _), (4, .int _), (5, .int _)] dX6_prices_169 rfl rfl (by decide) rfl rfl ?_
        refine go_goto C 172 116 dX6_prices_172 (by decide) ?_
        exact go_perm [1, 2, 3, 4, 5, 6, 0] rfl (ih _ _ h)
      · have h := h.2 hc
        refine go_iload C 142 144 5 5 dX6_prices_142 rfl rfl ?_
        refine go_i2l C 144 145 dX6_prices_144 rfl ?_
        refine go_goto C 145 168 dX6_prices_145 (by decide) ?_
        obtain ⟨hi5, h⟩ := h
        refine go_last C 168 169 37 (lu37 ex) hi5 dX6_prices_168 rfl ?_
        refine go_nm (fun S6 hS6 => ?_)
        replace h := h S6 hS6
        refine go_iinc C 169 172 6 6 (v6 + 1) [(6, .int _), (0, .ref _), (1, .int _), (2, .int _), (3, .int _), (4, .int _), (5, .int _)] dX6_prices_169 rfl rfl (by decide) rfl rfl ?_
        refine go_goto C 172 116 dX6_prices_172 (by decide) ?_
        exact go_perm [1, 2, 3, 4, 5, 6, 0] rfl (ih _ _ h)
def wB_X6_prices_72 (p1 : Int32) (p2 : Int32) (k rec : Int32 → St → Prop) (v3 : Int32) (S : St) : Prop :=
  ((S.1 25 19) ≤ v3 → k v3 S) ∧ (¬ ((S.1 25 19) ≤ v3) → (vp_in v3 6) ∧ (∀ x2 : Int32, x2 = (S.1 36 v3.toNatClampNeg) → wp_X6_totalOf S x2 p1 p2 (fun (r4 : Int32) (S3 : St) => wp_X6_workCost S3 x2 r4 (fun (r6 : Int32) (S5 : St) => (vp_in v3 6) ∧ (∀ S8 : St, S8 = uJ S5 38 v3.toNatClampNeg r6.toInt64 → ∃ fu11, wL_X6_prices_116 p1 p2 v3 x2 r4 (fun (z10 : Int32) (S9 : St) => rec (v3 + 1) S9) fu11 (0 : Int32) S8)))))
def wL_X6_prices_72 (p1 : Int32) (p2 : Int32) (k : Int32 → St → Prop) : Nat → Int32 → St → Prop
  | 0, _, _ => False
  | n + 1, v3, S => wB_X6_prices_72 p1 p2 k (wL_X6_prices_72 p1 p2 k n) v3 S
set_option maxHeartbeats 4000000 in
set_option maxRecDepth 100000 in
theorem L_X6_prices_72 {p : Program} {l : Launch} {e : Env} {s : State} {m : MethodId} {args : Array Value} {below : List Frame} {meth : Method} {c : Code} {D : va_G} {cA : Nat → ClassId} {ad : Nat → Nat} {ex : List Lay} {Q : State → Prop} (C : Cx p s m args meth c cX6_prices 7 none RX6 D cA ad (LU ++ ex))   (p1 : Int32) (p2 : Int32) {k : Int32 → St → Prop} (hk : ∀ (v3 : Int32) (S : St), k v3 S → Go p l e rX6_prices s m args below meth c D cA ad (LU ++ ex) 7 0 0 Q S 181 [(0, .ref (ad 25))] []) : ∀ (n : Nat) (v3 : Int32) (S : St), wL_X6_prices_72 p1 p2 k n v3 S → Go p l e rX6_prices s m args below meth c D cA ad (LU ++ ex) 7 0 0 Q S 72 [(0, .ref (ad 25)), (1, .int p1), (2, .int p2), (3, .int v3)] [] := by
  intro n
  induction n with
  | zero => intro v3 S h; exact h.elim
  | succ n ih =>
    intro v3 S h
    replace h : wB_X6_prices_72 p1 p2 k (wL_X6_prices_72 p1 p2 k n) v3 S := h
    unfold wB_X6_prices_72 at h
    refine go_iload_n C 72 73 3 3 dX6_prices_72 rfl rfl rfl ?_
    refine go_aload_n C 73 74 0 0 dX6_prices_73 rfl rfl rfl ?_
    refine go_getI C 74 77 iw6 25 (lu25 ex) rfl 19 (by decide) k540_ rfl rfl dX6_prices_74 rfl ?_
    refine go_icmp_ge C 77 80 181 dX6_prices_77 (by decide) rfl (fun hc => ?_) (fun hc => ?_)
    · have h := h.1 hc
      exact go_perm [0] rfl (hk _ _ h)
    · have h := h.2 hc
      refine go_aload_n C 80 81 0 0 dX6_prices_80 rfl rfl rfl ?_
      refine go_getR C 81 84 iw6 25 (lu25 ex) rfl 15 (by decide) k536_ rfl rfl dX6_prices_81 rfl ?_
      refine go_iload_n C 84 85 3 3 dX6_prices_84 rfl rfl rfl ?_
      obtain ⟨hi1, h⟩ := h
      refine go_iald C 85 86 36 (lu36 ex) hi1 dX6_prices_85 rfl ?_
      refine go_topi (fun x2 hx2 => ?_)
      replace h := h x2 hx2
      refine go_istore C 86 88 4 [(4, .int _), (0, .ref _), (1, .int _), (2, .int _), (3, .int _)] dX6_prices_86 (by decide) rfl rfl ?_
      refine go_aload_n C 88 89 0 1 dX6_prices_88 rfl rfl rfl ?_
      refine go_iload C 89 91 4 0 dX6_prices_89 rfl rfl ?_
      refine go_iload_n C 91 92 1 2 dX6_prices_91 rfl rfl rfl ?_
      refine go_iload_n C 92 93 2 3 dX6_prices_92 rfl rfl rfl ?_
      refine go_vi C 93 96 0 0 [.int x2, .int p1, .int p2] 25 (lu25 ex) rfl (c_X6_totalOf _ _ _ _  h) k662_ k665_ k57_ k664_ k40_ qX6_totalOf mhX6_totalOf (by decide) (by decide) rfl rfl rfl rfl (Nat.le_of_ble_eq_true rfl) rfl rfl dX6_prices_93 (fun r4 S3 h => ?_)
      refine go_istore C 96 98 5 [(5, .int _), (4, .int _), (0, .ref _), (1, .int _), (2, .int _), (3, .int _)] dX6_prices_96 (by decide) rfl rfl ?_
      refine go_aload_n C 98 99 0 2 dX6_prices_98 rfl rfl rfl ?_
      refine go_getR C 99 102 iw6 25 (lu25 ex) rfl 17 (by decide) k538_ rfl rfl dX6_prices_99 rfl ?_
      refine go_iload_n C 102 103 3 5 dX6_prices_102 rfl rfl rfl ?_
      refine go_aload_n C 103 104 0 2 dX6_prices_103 rfl rfl rfl ?_
      refine go_iload C 104 106 4 1 dX6_prices_104 rfl rfl ?_
      refine go_iload C 106 108 5 0 dX6_prices_106 rfl rfl ?_
      refine go_vi C 108 111 0 0 [.int x2, .int r4] 25 (lu25 ex) rfl (c_X6_workCost _ _ _  h) k674_ k677_ k57_ k676_ k42_ qX6_workCost mhX6_workCost (by decide) (by decide) rfl rfl rfl rfl (Nat.le_of_ble_eq_true rfl) rfl rfl dX6_prices_108 (fun r6 S5 h => ?_)
      refine go_i2l C 111 112 dX6_prices_111 rfl ?_
      obtain ⟨hi7, h⟩ := h
      refine go_last C 112 113 38 (lu38 ex) hi7 dX6_prices_112 rfl ?_
      refine go_nm (fun S8 hS8 => ?_)
      replace h := h S8 hS8
      refine go_iconst C 113 114 (0) dX6_prices_113 (by decide) rfl ?_
      refine go_istore C 114 116 6 [(6, .int _), (5, .int _), (4, .int _), (0, .ref _), (1, .int _), (2, .int _), (3, .int _)] dX6_prices_114 (by decide) rfl rfl ?_
      obtain ⟨fu11, h⟩ := h
      refine go_perm [3, 4, 5, 6, 2, 1, 0] rfl (L_X6_prices_116 C   _ _ _ _ _ (fun z10 S9 h => ?_) _ _ _ h)
      refine go_iinc C 175 178 3 3 (v3 + 1) [(3, .int _), (0, .ref _), (1, .int _), (2, .int _)] dX6_prices_175 rfl rfl (by decide) rfl rfl ?_
      refine go_goto C 178 72 dX6_prices_178 (by decide) ?_
      exact go_perm [1, 2, 3, 0] rfl (ih _ _ h)
def wB_X6_prices_194 (k rec : Int32 → St → Prop) (v3 : Int32) (S : St) : Prop :=
  ((S.1 25 19) ≤ v3 → k v3 S) ∧ (¬ ((S.1 25 19) ≤ v3) → (vp_in v3 6) ∧ (wp_X6_determinant 8 S (0 : Int32) (0 : Int32) v3 (fun (r3 : Int64) (S2 : St) => (vp_in (S.1 36 v3.toNatClampNeg) 6) ∧ (∀ S5 : St, S5 = uJ S2 39 ((S.1 36 v3.toNatClampNeg).toNatClampNeg) r3 → rec (v3 + 1) S5))))
def wL_X6_prices_194 (k : Int32 → St → Prop) : Nat → Int32 → St → Prop
  | 0, _, _ => False
  | n + 1, v3, S => wB_X6_prices_194 k (wL_X6_prices_194 k n) v3 S
set_option maxHeartbeats 4000000 in
set_option maxRecDepth 100000 in
theorem L_X6_prices_194 {p : Program} {l : Launch} {e : Env} {s : State} {m : MethodId} {args : Array Value} {below : List Frame} {meth : Method} {c : Code} {D : va_G} {cA : Nat → ClassId} {ad : Nat → Nat} {ex : List Lay} {Q : State → Prop} (C : Cx p s m args meth c cX6_prices 7 none RX6 D cA ad (LU ++ ex))   {k : Int32 → St → Prop} (hk : ∀ (v3 : Int32) (S : St), k v3 S → Go p l e rX6_prices s m args below meth c D cA ad (LU ++ ex) 7 0 0 Q S 226 [] []) : ∀ (n : Nat) (v3 : Int32) (S : St), wL_X6_prices_194 k n v3 S → Go p l e rX6_prices s m args below meth c D cA ad (LU ++ ex) 7 0 0 Q S 194 [(0, .ref (ad 25)), (3, .int v3)] [] := by
  intro n
  induction n with
  | zero => intro v3 S h; exact h.elim
  | succ n ih =>
    intro v3 S h
    replace h : wB_X6_prices_194 k (wL_X6_prices_194 k n) v3 S := h
    unfold wB_X6_prices_194 at h
    refine go_iload_n C 194 195 3 1 dX6_prices_194 rfl rfl rfl ?_
    refine go_aload_n C 195 196 0 0 dX6_prices_195 rfl rfl rfl ?_
    refine go_getI C 196 199 iw6 25 (lu25 ex) rfl 19 (by decide) k540_ rfl rfl dX6_prices_196 rfl ?_
    refine go_icmp_ge C 199 202 226 dX6_prices_199 (by decide) rfl (fun hc => ?_) (fun hc => ?_)
    · have h := h.1 hc
      exact go_perm [] rfl (hk _ _ h)
    · have h := h.2 hc
      refine go_aload_n C 202 203 0 0 dX6_prices_202 rfl rfl rfl ?_
      refine go_getR C 203 206 iw6 25 (lu25 ex) rfl 18 (by decide) k539_ rfl rfl dX6_prices_203 rfl ?_
      refine go_aload_n C 206 207 0 0 dX6_prices_206 rfl rfl rfl ?_
      refine go_getR C 207 210 iw6 25 (lu25 ex) rfl 15 (by decide) k536_ rfl rfl dX6_prices_207 rfl ?_
      refine go_iload_n C 210 211 3 1 dX6_prices_210 rfl rfl rfl ?_
      obtain ⟨hi1, h⟩ := h
      refine go_iald C 211 212 36 (lu36 ex) hi1 dX6_prices_211 rfl ?_
      refine go_aload_n C 212 213 0 0 dX6_prices_212 rfl rfl rfl ?_
      refine go_iconst C 213 214 (0) dX6_prices_213 (by decide) rfl ?_
      refine go_iconst C 214 215 (0) dX6_prices_214 (by decide) rfl ?_
      refine go_iload_n C 215 216 3 1 dX6_prices_215 rfl rfl rfl ?_
      refine go_vl C 216 219 0 0 [.int (0 : Int32), .int (0 : Int32), .int v3] 25 (lu25 ex) rfl (c_X6_determinant 8 _ _ _ _  h) k687_ k690_ k57_ k689_ k44_ qX6_determinant mhX6_determinant (by decide) (by decide) rfl rfl rfl rfl (Nat.le_of_ble_eq_true rfl) rfl rfl dX6_prices_216 (fun r3 S2 h => ?_)
      obtain ⟨hi4, h⟩ := h
      refine go_last C 219 220 39 (lu39 ex) hi4 dX6_prices_219 rfl ?_
      refine go_nm (fun S5 hS5 => ?_)
      replace h := h S5 hS5
      refine go_iinc C 220 223 3 1 (v3 + 1) [(3, .int _), (0, .ref _)] dX6_prices_220 rfl rfl (by decide) rfl rfl ?_
      refine go_goto C 223 194 dX6_prices_223 (by decide) ?_
      exact go_perm [1, 0] rfl (ih _ _ h)
def wp_X6_prices (S : St) (post : St → Prop) : Prop :=
  wp_X6_thereSet S (fun (r2 : Int32) (S1 : St) => wp_X6_neededBy S1 r2 (fun (r4 : Int32) (S3 : St) => ∀ S5 : St, S5 = uI S3 25 19 (0 : Int32) → ∃ fu17, wL_X6_prices_18 r2 r4 (fun (z7 : Int32) (S6 : St) => ∃ fu16, wL_X6_prices_72 r2 r4 (fun (z9 : Int32) (S8 : St) => wp_X6_determinant 8 S8 (0 : Int32) (0 : Int32) (-1 : Int32) (fun (r11 : Int64) (S10 : St) => ∀ S12 : St, S12 = uJ S10 25 20 r11 → ∃ fu15, wL_X6_prices_194 (fun (z14 : Int32) (S13 : St) => post S13) fu15 (0 : Int32) S12)) fu16 (0 : Int32) S6) fu17 (0 : Int32) S5))
set_option maxHeartbeats 4000000 in
set_option maxRecDepth 100000 in
theorem c_X6_prices {l : Launch} {D : va_G} {cA : Nat → ClassId} {ad : Nat → Nat} {ex : List Lay} (S : St)  {post : St → Prop} (h : wp_X6_prices S post) : MetV l yX6_prices cX6_prices 7 none rX6_prices D cA ad (LU ++ ex) [.ref (ad 25)] S post 0 0 := by
  refine MetV.of (by decide) (Nat.le_of_ble_eq_true rfl) ?_
  intro p e s m args below meth c C
  unfold wp_X6_prices at h
  show Go p l e rX6_prices s m args below meth c D cA ad (LU ++ ex) 7 0 0 _ S 0 [(0, .ref (ad 25))] []
  replace C : Cx p s m args meth c cX6_prices 7 none RX6 D cA ad (LU ++ ex) := C
  refine go_aload_n C 0 1 0 0 dX6_prices_0 rfl rfl rfl ?_
  refine go_vi C 1 4 0 0 [] 25 (lu25 ex) rfl (c_X6_thereSet _  h) k646_ k649_ k57_ k648_ k38_ qX6_thereSet mhX6_thereSet (by decide) (by decide) rfl rfl rfl rfl (Nat.le_of_ble_eq_true rfl) rfl rfl dX6_prices_1 (fun r2 S1 h => ?_)
  refine go_istore_n C 4 5 1 [(1, .int _), (0, .ref _)] dX6_prices_4 rfl (by decide) rfl rfl ?_
  refine go_aload_n C 5 6 0 1 dX6_prices_5 rfl rfl rfl ?_
  refine go_iload_n C 6 7 1 0 dX6_prices_6 rfl rfl rfl ?_
  refine go_vi C 7 10 0 0 [.int r2] 25 (lu25 ex) rfl (c_X6_neededBy _ _  h) k650_ k653_ k57_ k652_ k39_ qX6_neededBy mhX6_neededBy (by decide) (by decide) rfl rfl rfl rfl (Nat.le_of_ble_eq_true rfl) rfl rfl dX6_prices_7 (fun r4 S3 h => ?_)
  refine go_istore_n C 10 11 2 [(2, .int _), (1, .int _), (0, .ref _)] dX6_prices_10 rfl (by decide) rfl rfl ?_
  refine go_aload_n C 11 12 0 2 dX6_prices_11 rfl rfl rfl ?_
  refine go_iconst C 12 13 (0) dX6_prices_12 (by decide) rfl ?_
  refine go_putI C 13 16 iw6 25 (lu25 ex) rfl 19 (by decide) tyX6 tyX6_ok nmX6 k540_ rfl rfl rfl (by decide +kernel) dX6_prices_13 rfl ?_
  refine go_nm (fun S5 hS5 => ?_)
  replace h := h S5 hS5
  refine go_iconst C 16 17 (0) dX6_prices_16 (by decide) rfl ?_
  refine go_istore_n C 17 18 3 [(3, .int _), (2, .int _), (1, .int _), (0, .ref _)] dX6_prices_17 rfl (by decide) rfl rfl ?_
  obtain ⟨fu17, h⟩ := h
  refine go_perm [3, 2, 1, 0] rfl (L_X6_prices_18 C   _ _ (fun z7 S6 h => ?_) _ _ _ h)
  refine go_iconst C 70 71 (0) dX6_prices_70 (by decide) rfl ?_
  refine go_istore_n C 71 72 3 [(3, .int _), (0, .ref _), (1, .int _), (2, .int _)] dX6_prices_71 rfl (by decide) rfl rfl ?_
  obtain ⟨fu16, h⟩ := h
  refine go_perm [1, 2, 3, 0] rfl (L_X6_prices_72 C   _ _ (fun z9 S8 h => ?_) _ _ _ h)
  refine go_aload_n C 181 182 0 0 dX6_prices_181 rfl rfl rfl ?_
  refine go_aload_n C 182 183 0 0 dX6_prices_182 rfl rfl rfl ?_
  refine go_iconst C 183 184 (0) dX6_prices_183 (by decide) rfl ?_
  refine go_iconst C 184 185 (0) dX6_prices_184 (by decide) rfl ?_
  refine go_iconst C 185 186 (-1) dX6_prices_185 (by decide) rfl ?_
  refine go_vl C 186 189 0 0 [.int (0 : Int32), .int (0 : Int32), .int (-1 : Int32)] 25 (lu25 ex) rfl (c_X6_determinant 8 _ _ _ _  h) k687_ k690_ k57_ k689_ k44_ qX6_determinant mhX6_determinant (by decide) (by decide) rfl rfl rfl rfl (Nat.le_of_ble_eq_true rfl) rfl rfl dX6_prices_186 (fun r11 S10 h => ?_)
  refine go_putJ C 189 192 iw6 25 (lu25 ex) rfl 20 (by decide) tyX6 tyX6_ok nmX6 k541_ rfl rfl rfl (by decide +kernel) dX6_prices_189 rfl ?_
  refine go_nm (fun S12 hS12 => ?_)
  replace h := h S12 hS12
  refine go_iconst C 192 193 (0) dX6_prices_192 (by decide) rfl ?_
  refine go_istore_n C 193 194 3 [(3, .int _), (0, .ref _)] dX6_prices_193 rfl (by decide) rfl rfl ?_
  obtain ⟨fu15, h⟩ := h
  refine go_perm [1, 0] rfl (L_X6_prices_194 C   (fun z14 S13 h => ?_) _ _ _ h)
  exact go_vret C 226 rfl dX6_prices_226 h
-- BillHouseModel.common(JJ)J
theorem qX6_common : (parseMethodDescriptor yX6_common.desc).map (fun d => d.parameters.length) = some 2 := by decide +kernel
theorem mhX6_common : yX6_common.cls ≠ "java/lang/invoke/MethodHandle" ∧ yX6_common.cls ≠ "java/lang/invoke/VarHandle" := by decide +kernel
def rX6_common : Room := { frames := 1, cells := 0, slots := 0, locals := 21 }
def wB_X6_common_12 (k rec : Int64 → Int64 → St → Prop) (v4 : Int64) (v6 : Int64) (S : St) : Prop :=
  (v6 = (0 : Int64) → k v4 v6 S) ∧ (¬ (v6 = (0 : Int64)) → (¬ v6 = 0) ∧ (∀ x2 : Int64, x2 = (v4 - v4 / v6 * v6) → rec v6 x2 S))
def wL_X6_common_12 (k : Int64 → Int64 → St → Prop) : Nat → Int64 → Int64 → St → Prop
  | 0, _, _, _ => False
  | n + 1, v4, v6, S => wB_X6_common_12 k (wL_X6_common_12 k n) v4 v6 S
set_option maxHeartbeats 4000000 in
set_option maxRecDepth 100000 in
theorem L_X6_common_12 {p : Program} {l : Launch} {e : Env} {s : State} {m : MethodId} {args : Array Value} {below : List Frame} {meth : Method} {c : Code} {D : va_G} {cA : Nat → ClassId} {ad : Nat → Nat} {ex : List Lay} {Q : State → Prop} (C : Cx p s m args meth c cX6_common 10 (some .long) RX6 D cA ad (LU ++ ex))   {k : Int64 → Int64 → St → Prop} (hk : ∀ (v4 : Int64) (v6 : Int64) (S : St), k v4 v6 S → Go p l e rX6_common s m args below meth c D cA ad (LU ++ ex) 10 0 0 Q S 37 [(4, .long v4)] []) : ∀ (n : Nat) (v4 : Int64) (v6 : Int64) (S : St), wL_X6_common_12 k n v4 v6 S → Go p l e rX6_common s m args below meth c D cA ad (LU ++ ex) 10 0 0 Q S 12 [(4, .long v4), (6, .long v6)] [] := by
  intro n
  induction n with
  | zero => intro v4 v6 S h; exact h.elim
  | succ n ih =>
    intro v4 v6 S h
    replace h : wB_X6_common_12 k (wL_X6_common_12 k n) v4 v6 S := h
    unfold wB_X6_common_12 at h
    refine go_lload C 12 14 6 1 dX6_common_12 rfl rfl ?_
    refine go_lconst C 14 15 0 dX6_common_14 rfl rfl ?_
    refine go_lcmp_eq C 15 19 37 dX6_common_15 dX6_common_16 (by decide) rfl (fun hc => ?_) (fun hc => ?_)
    · have h := h.1 hc
      exact go_perm [0] rfl (hk _ _ _ h)
    · have h := h.2 hc
      refine go_lload C 19 21 4 0 dX6_common_19 rfl rfl ?_
      refine go_lload C 21 23 6 1 dX6_common_21 rfl rfl ?_
      obtain ⟨hi1, h⟩ := h
      refine go_lrem C 23 24 hi1 dX6_common_23 rfl ?_
      refine go_topl (fun x2 hx2 => ?_)
      replace h := h x2 hx2
      refine go_lstore C 24 26 8 [(8, .long _), (4, .long _), (6, .long _)] dX6_common_24 (by decide) rfl rfl ?_
      refine go_lload C 26 28 6 2 dX6_common_26 rfl rfl ?_
      refine go_lstore C 28 30 4 [(4, .long _), (8, .long _), (6, .long _)] dX6_common_28 (by decide) rfl rfl ?_
      refine go_lload C 30 32 8 1 dX6_common_30 rfl rfl ?_
      refine go_lstore C 32 34 6 [(6, .long _), (4, .long _), (8, .long _)] dX6_common_32 (by decide) rfl rfl ?_
      refine go_goto C 34 12 dX6_common_34 (by decide) ?_
      exact go_perm [1, 0] rfl (ih _ _ _ h)
def wp_X6_common (S : St) (a1 : Int64) (a2 : Int64) (post : Int64 → St → Prop) : Prop :=
  ∀ x1 : Int64, x1 = (if 0 < a1 then a1 else -a1) → ∀ x2 : Int64, x2 = (if 0 < a2 then a2 else -a2) → ∃ fu6, wL_X6_common_12 (fun (z4 : Int64) (z5 : Int64) (S3 : St) => post z4 S3) fu6 x1 x2 S
set_option maxHeartbeats 4000000 in
set_option maxRecDepth 100000 in
theorem c_X6_common {l : Launch} {D : va_G} {cA : Nat → ClassId} {ad : Nat → Nat} {ex : List Lay} (S : St) (a1 : Int64) (a2 : Int64)  {post : Int64 → St → Prop} (h : wp_X6_common S a1 a2 post) : MetL l yX6_common cX6_common 10 (some .long) rX6_common D cA ad (LU ++ ex) [.long a1, .long a2] S post 0 0 := by
  refine MetL.of (by decide) (Nat.le_of_ble_eq_true rfl) ?_
  intro p e s m args below meth c C
  unfold wp_X6_common at h
  show Go p l e rX6_common s m args below meth c D cA ad (LU ++ ex) 10 0 0 _ S 0 [(0, .long a1), (2, .long a2)] []
  replace C : Cx p s m args meth c cX6_common 10 (some .long) RX6 D cA ad (LU ++ ex) := C
  refine go_lload_n C 0 1 0 0 dX6_common_0 rfl rfl rfl ?_
  refine go_absL C 1 4 k697_ k407_ k59_ k408_ (by decide) (Nat.le_of_ble_eq_true rfl) (by decide) (by decide) dX6_common_1 rfl ?_
  refine go_topl (fun x1 hx1 => ?_)
  replace h := h x1 hx1
  refine go_lstore C 4 6 4 [(4, .long _), (0, .long _), (2, .long _)] dX6_common_4 (by decide) rfl rfl ?_
  refine go_lload_n C 6 7 2 2 dX6_common_6 rfl rfl rfl ?_
  refine go_absL C 7 10 k697_ k407_ k59_ k408_ (by decide) (Nat.le_of_ble_eq_true rfl) (by decide) (by decide) dX6_common_7 rfl ?_
  refine go_topl (fun x2 hx2 => ?_)
  replace h := h x2 hx2
  refine go_lstore C 10 12 6 [(6, .long _), (4, .long _), (0, .long _), (2, .long _)] dX6_common_10 (by decide) rfl rfl ?_
  obtain ⟨fu6, h⟩ := h
  refine go_perm [1, 0] rfl (L_X6_common_12 C   (fun z4 z5 S3 h => ?_) _ _ _ _ h)
  refine go_lload C 37 39 4 0 dX6_common_37 rfl rfl ?_
  exact go_lret C 39 rfl dX6_common_39 h
-- BillHouseModel.part(JJI)J
theorem qX6_part : (parseMethodDescriptor yX6_part.desc).map (fun d => d.parameters.length) = some 3 := by decide +kernel
theorem mhX6_part : yX6_part.cls ≠ "java/lang/invoke/MethodHandle" ∧ yX6_part.cls ≠ "java/lang/invoke/VarHandle" := by decide +kernel
def rX6_part : Room := { frames := 2, cells := 0, slots := 0, locals := 50 }
def wp_X6_part (S : St) (a1 : Int64) (a2 : Int64) (a3 : Int32) (post : Int64 → St → Prop) : Prop :=
  wp_X6_common S a1 a2 (fun (r2 : Int64) (S1 : St) => (¬ a3 = 0 → (¬ r2 = 0) ∧ (post (a2 / r2) S1)) ∧ (a3 = 0 → (¬ r2 = 0) ∧ (post (a1 / r2) S1)))
set_option maxHeartbeats 4000000 in
set_option maxRecDepth 100000 in
theorem c_X6_part {l : Launch} {D : va_G} {cA : Nat → ClassId} {ad : Nat → Nat} {ex : List Lay} (S : St) (a1 : Int64) (a2 : Int64) (a3 : Int32)  {post : Int64 → St → Prop} (h : wp_X6_part S a1 a2 a3 post) : MetL l yX6_part cX6_part 7 (some .long) rX6_part D cA ad (LU ++ ex) [.long a1, .long a2, .int a3] S post 0 0 := by
  refine MetL.of (by decide) (Nat.le_of_ble_eq_true rfl) ?_
  intro p e s m args below meth c C
  unfold wp_X6_part at h
  show Go p l e rX6_part s m args below meth c D cA ad (LU ++ ex) 7 0 0 _ S 0 [(0, .long a1), (2, .long a2), (4, .int a3)] []
  replace C : Cx p s m args meth c cX6_part 7 (some .long) RX6 D cA ad (LU ++ ex) := C
  refine go_lload_n C 0 1 0 0 dX6_part_0 rfl rfl rfl ?_
  refine go_lload_n C 1 2 2 1 dX6_part_1 rfl rfl rfl ?_
  refine go_sl C 2 5 0 0 [.long a1, .long a2] (c_X6_common _ _ _  h) k694_ k696_ k57_ k695_ qX6_common mhX6_common (by decide) (by decide) rfl rfl rfl rfl (Nat.le_of_ble_eq_true rfl) rfl rfl dX6_part_2 (fun r2 S1 h => ?_)
  refine go_lstore C 5 7 5 [(5, .long _), (0, .long _), (2, .long _), (4, .int _)] dX6_part_5 (by decide) rfl rfl ?_
  refine go_iload C 7 9 4 3 dX6_part_7 rfl rfl ?_
  refine go_if_ne C 9 12 19 dX6_part_9 (by decide) rfl (fun hc => ?_) (fun hc => ?_)
  · have h := h.1 hc
    refine go_lload_n C 19 20 2 2 dX6_part_19 rfl rfl rfl ?_
    refine go_lload C 20 22 5 0 dX6_part_20 rfl rfl ?_
    obtain ⟨hi3, h⟩ := h
    refine go_ldiv C 22 23 hi3 dX6_part_22 rfl ?_
    exact go_lret C 23 rfl dX6_part_23 h
  · have h := h.2 hc
    refine go_lload_n C 12 13 0 1 dX6_part_12 rfl rfl rfl ?_
    refine go_lload C 13 15 5 0 dX6_part_13 rfl rfl ?_
    obtain ⟨hi4, h⟩ := h
    refine go_ldiv C 15 16 hi4 dX6_part_15 rfl ?_
    refine go_goto C 16 23 dX6_part_16 (by decide) ?_
    exact go_lret C 23 rfl dX6_part_23 h
-- BillHouseModel.price(II)J
theorem qX6_price : (parseMethodDescriptor yX6_price.desc).map (fun d => d.parameters.length) = some 2 := by decide +kernel
theorem mhX6_price : yX6_price.cls ≠ "java/lang/invoke/MethodHandle" ∧ yX6_price.cls ≠ "java/lang/invoke/VarHandle" := by decide +kernel
def rX6_price : Room := { frames := 10, cells := 0, slots := 0, locals := 287 }
def wp_X6_price (S : St) (a1 : Int32) (a2 : Int32) (post : Int64 → St → Prop) : Prop :=
  ∀ S1 : St, S1 = uI S 25 0 (0 : Int32) → wp_X6_isWork S1 a1 (fun (r3 : Int32) (S2 : St) => (r3 = 0 → post (-1000000000000 : Int64) S2) ∧ (¬ (r3 = 0) → wp_X6_isIn S2 a2 (0 : Int32) (1 : Int32) (fun (r5 : Int32) (S4 : St) => (r5 = 0 → post (-1000000000000 : Int64) S4) ∧ (¬ (r5 = 0) → wp_X6_thereSet S4 (fun (r7 : Int32) (S6 : St) => wp_X6_neededBy S6 r7 (fun (r9 : Int32) (S8 : St) => (¬ ((r9 >>> (a1 &&& 31)) &&& (1 : Int32)) = 0 → wp_X6_prices S8 (fun (S10 : St) => (vp_in a1 6) ∧ (wp_X6_part S10 (S10.2 39 a1.toNatClampNeg) (S10.2 25 20) a2 (fun (r14 : Int64) (S13 : St) => post r14 S13)))) ∧ (((r9 >>> (a1 &&& 31)) &&& (1 : Int32)) = 0 → post (-1000000000000 : Int64) S8)))))))
set_option maxHeartbeats 4000000 in
set_option maxRecDepth 100000 in
theorem c_X6_price {l : Launch} {D : va_G} {cA : Nat → ClassId} {ad : Nat → Nat} {ex : List Lay} (S : St) (a1 : Int32) (a2 : Int32)  {post : Int64 → St → Prop} (h : wp_X6_price S a1 a2 post) : MetL l yX6_price cX6_price 3 (some .long) rX6_price D cA ad (LU ++ ex) [.ref (ad 25), .int a1, .int a2] S post 0 0 := by
  refine MetL.of (by decide) (Nat.le_of_ble_eq_true rfl) ?_
  intro p e s m args below meth c C
  unfold wp_X6_price at h
  show Go p l e rX6_price s m args below meth c D cA ad (LU ++ ex) 3 0 0 _ S 0 [(0, .ref (ad 25)), (1, .int a1), (2, .int a2)] []
  replace C : Cx p s m args meth c cX6_price 3 (some .long) RX6 D cA ad (LU ++ ex) := C
  refine go_aload_n C 0 1 0 0 dX6_price_0 rfl rfl rfl ?_
  refine go_iconst C 1 2 (0) dX6_price_1 (by decide) rfl ?_
  refine go_putI C 2 5 iw6 25 (lu25 ex) rfl 0 (by decide) tyX6 tyX6_ok nmX6 k521_ rfl rfl rfl (by decide +kernel) dX6_price_2 rfl ?_
  refine go_nm (fun S1 hS1 => ?_)
  replace h := h S1 hS1
  refine go_aload_n C 5 6 0 0 dX6_price_5 rfl rfl rfl ?_
  refine go_iload_n C 6 7 1 1 dX6_price_6 rfl rfl rfl ?_
  refine go_vi C 7 10 0 0 [.int a1] 25 (lu25 ex) rfl (c_X6_isWork _ _  h) k616_ k619_ k57_ k618_ k36_ qX6_isWork mhX6_isWork (by decide) (by decide) rfl rfl rfl rfl (Nat.le_of_ble_eq_true rfl) rfl rfl dX6_price_7 (fun r3 S2 h => ?_)
  refine go_if_eq C 10 13 37 dX6_price_10 (by decide) rfl (fun hc => ?_) (fun hc => ?_)
  · have h := h.1 hc
    refine go_ldc2 C 37 40 k682_ dX6_price_37 rfl ?_
    exact go_lret C 40 rfl dX6_price_40 h
  · have h := h.2 hc
    refine go_iload_n C 13 14 2 2 dX6_price_13 rfl rfl rfl ?_
    refine go_iconst C 14 15 (0) dX6_price_14 (by decide) rfl ?_
    refine go_iconst C 15 16 (1) dX6_price_15 (by decide) rfl ?_
    refine go_si C 16 19 0 0 [.int a2, .int (0 : Int32), .int (1 : Int32)] (c_X6_isIn _ _ _ _  h) k605_ k607_ k57_ k606_ qX6_isIn mhX6_isIn (by decide) (by decide) rfl rfl rfl rfl (Nat.le_of_ble_eq_true rfl) rfl rfl dX6_price_16 (fun r5 S4 h => ?_)
    refine go_if_eq C 19 22 37 dX6_price_19 (by decide) rfl (fun hc => ?_) (fun hc => ?_)
    · have h := h.1 hc
      refine go_ldc2 C 37 40 k682_ dX6_price_37 rfl ?_
      exact go_lret C 40 rfl dX6_price_40 h
    · have h := h.2 hc
      refine go_aload_n C 22 23 0 0 dX6_price_22 rfl rfl rfl ?_
      refine go_aload_n C 23 24 0 0 dX6_price_23 rfl rfl rfl ?_
      refine go_vi C 24 27 0 0 [] 25 (lu25 ex) rfl (c_X6_thereSet _  h) k646_ k649_ k57_ k648_ k38_ qX6_thereSet mhX6_thereSet (by decide) (by decide) rfl rfl rfl rfl (Nat.le_of_ble_eq_true rfl) rfl rfl dX6_price_24 (fun r7 S6 h => ?_)
      refine go_vi C 27 30 0 0 [.int r7] 25 (lu25 ex) rfl (c_X6_neededBy _ _  h) k650_ k653_ k57_ k652_ k39_ qX6_neededBy mhX6_neededBy (by decide) (by decide) rfl rfl rfl rfl (Nat.le_of_ble_eq_true rfl) rfl rfl dX6_price_27 (fun r9 S8 h => ?_)
      refine go_iload_n C 30 31 1 1 dX6_price_30 rfl rfl rfl ?_
      refine go_ishr C 31 32 dX6_price_31 rfl ?_
      refine go_iconst C 32 33 (1) dX6_price_32 (by decide) rfl ?_
      refine go_iand C 33 34 dX6_price_33 rfl ?_
      refine go_if_ne C 34 37 41 dX6_price_34 (by decide) rfl (fun hc => ?_) (fun hc => ?_)
      · have h := h.1 hc
        refine go_aload_n C 41 42 0 0 dX6_price_41 rfl rfl rfl ?_
        refine go_vv C 42 45 0 0 [] 25 (lu25 ex) rfl (c_X6_prices _  h) k683_ k686_ k57_ k685_ k43_ qX6_prices mhX6_prices (by decide) (by decide) rfl rfl rfl rfl (Nat.le_of_ble_eq_true rfl) rfl rfl dX6_price_42 (fun S10 h => ?_)
        refine go_aload_n C 45 46 0 0 dX6_price_45 rfl rfl rfl ?_
        refine go_getR C 46 49 iw6 25 (lu25 ex) rfl 18 (by decide) k539_ rfl rfl dX6_price_46 rfl ?_
        refine go_iload_n C 49 50 1 1 dX6_price_49 rfl rfl rfl ?_
        obtain ⟨hi12, h⟩ := h
        refine go_lald C 50 51 39 (lu39 ex) hi12 dX6_price_50 rfl ?_
        refine go_aload_n C 51 52 0 0 dX6_price_51 rfl rfl rfl ?_
        refine go_getJ C 52 55 iw6 25 (lu25 ex) rfl 20 (by decide) k541_ rfl rfl dX6_price_52 rfl ?_
        refine go_iload_n C 55 56 2 2 dX6_price_55 rfl rfl rfl ?_
        refine go_sl C 56 59 0 0 [.long (S10.2 39 a1.toNatClampNeg), .long (S10.2 25 20), .int a2] (c_X6_part _ _ _ _  h) k691_ k693_ k57_ k692_ qX6_part mhX6_part (by decide) (by decide) rfl rfl rfl rfl (Nat.le_of_ble_eq_true rfl) rfl rfl dX6_price_56 (fun r14 S13 h => ?_)
        exact go_lret C 59 rfl dX6_price_59 h
      · have h := h.2 hc
        refine go_ldc2 C 37 40 k682_ dX6_price_37 rfl ?_
        exact go_lret C 40 rfl dX6_price_40 h
-- BillHouseModel.comes(I)V
theorem qX6_comes : (parseMethodDescriptor yX6_comes.desc).map (fun d => d.parameters.length) = some 1 := by decide +kernel
theorem mhX6_comes : yX6_comes.cls ≠ "java/lang/invoke/MethodHandle" ∧ yX6_comes.cls ≠ "java/lang/invoke/VarHandle" := by decide +kernel
def rX6_comes (d : Nat) : Room := { frames := 0 + d, cells := 0, slots := 0, locals := 0 + d * 24 }
def wB_X6_comes_21 (self : St → Int32 → (St → Prop) → Prop) (p1 : Int32) (k rec : Int32 → St → Prop) (v2 : Int32) (S : St) : Prop :=
  ((S.1 25 9) ≤ v2 → k v2 S) ∧ (¬ ((S.1 25 9) ≤ v2) → (¬ ((((S.1 25 24) &&& (p1 ^^^ (-1 : Int32))) >>> (v2 &&& 31)) &&& (1 : Int32)) = 0 → ∀ x1 : Int64, x1 = (S.2 25 22) → self S (p1 ||| ((1 : Int32) <<< (v2 &&& 31))) (fun (S2 : St) => (vp_in v2 8) ∧ ((vp_in (p1 ||| ((1 : Int32) <<< (v2 &&& 31))) 256) ∧ ((vp_in p1 256) ∧ ((vp_in v2 8) ∧ (∀ S8 : St, S8 = uJ S2 40 v2.toNatClampNeg ((S2.2 40 v2.toNatClampNeg) + (((S2.2 25 22) - x1) * (((S2.1 41 (p1 ||| ((1 : Int32) <<< (v2 &&& 31))).toNatClampNeg) - (S2.1 41 p1.toNatClampNeg)).toInt64))) → rec (v2 + 1) S8)))))) ∧ (((((S.1 25 24) &&& (p1 ^^^ (-1 : Int32))) >>> (v2 &&& 31)) &&& (1 : Int32)) = 0 → rec (v2 + 1) S))
def wL_X6_comes_21 (self : St → Int32 → (St → Prop) → Prop) (p1 : Int32) (k : Int32 → St → Prop) : Nat → Int32 → St → Prop
  | 0, _, _ => False
  | n + 1, v2, S => wB_X6_comes_21 self p1 k (wL_X6_comes_21 self p1 k n) v2 S
set_option maxHeartbeats 4000000 in
set_option maxRecDepth 100000 in
theorem L_X6_comes_21 {p : Program} {l : Launch} {e : Env} {s : State} {m : MethodId} {args : Array Value} {below : List Frame} {meth : Method} {c : Code} {D : va_G} {cA : Nat → ClassId} {ad : Nat → Nat} {ex : List Lay} {Q : State → Prop} (d : Nat) (C : Cx p s m args meth c cX6_comes 5 none RX6 D cA ad (LU ++ ex))   (self : St → Int32 → (St → Prop) → Prop) (hself : ∀ (S : St) (a1 : Int32) (post : St → Prop), self S a1 post → MetV l yX6_comes cX6_comes 5 none (rX6_comes d) D cA ad (LU ++ ex) [.ref (ad 25), .int a1] S post 0 0) (p1 : Int32) {k : Int32 → St → Prop} (hk : ∀ (v2 : Int32) (S : St), k v2 S → Go p l e (rX6_comes (d + 1)) s m args below meth c D cA ad (LU ++ ex) 5 0 0 Q S 101 [] []) : ∀ (n : Nat) (v2 : Int32) (S : St), wL_X6_comes_21 self p1 k n v2 S → Go p l e (rX6_comes (d + 1)) s m args below meth c D cA ad (LU ++ ex) 5 0 0 Q S 21 [(0, .ref (ad 25)), (1, .int p1), (2, .int v2)] [] := by
  intro n
  induction n with
  | zero => intro v2 S h; exact h.elim
  | succ n ih =>
    intro v2 S h
    replace h : wB_X6_comes_21 self p1 k (wL_X6_comes_21 self p1 k n) v2 S := h
    unfold wB_X6_comes_21 at h
    refine go_iload_n C 21 22 2 2 dX6_comes_21 rfl rfl rfl ?_
    refine go_aload_n C 22 23 0 0 dX6_comes_22 rfl rfl rfl ?_
    refine go_getI C 23 26 iw6 25 (lu25 ex) rfl 9 (by decide) k530_ rfl rfl dX6_comes_23 rfl ?_
    refine go_icmp_ge C 26 29 101 dX6_comes_26 (by decide) rfl (fun hc => ?_) (fun hc => ?_)
    · have h := h.1 hc
      exact go_perm [] rfl (hk _ _ h)
    · have h := h.2 hc
      refine go_aload_n C 29 30 0 0 dX6_comes_29 rfl rfl rfl ?_
      refine go_getI C 30 33 iw6 25 (lu25 ex) rfl 24 (by decide) k545_ rfl rfl dX6_comes_30 rfl ?_
      refine go_iload_n C 33 34 1 1 dX6_comes_33 rfl rfl rfl ?_
      refine go_iconst C 34 35 (-1) dX6_comes_34 (by decide) rfl ?_
      refine go_ixor C 35 36 dX6_comes_35 rfl ?_
      refine go_iand C 36 37 dX6_comes_36 rfl ?_
      refine go_iload_n C 37 38 2 2 dX6_comes_37 rfl rfl rfl ?_
      refine go_ishr C 38 39 dX6_comes_38 rfl ?_
      refine go_iconst C 39 40 (1) dX6_comes_39 (by decide) rfl ?_
      refine go_iand C 40 41 dX6_comes_40 rfl ?_
      refine go_if_ne C 41 44 47 dX6_comes_41 (by decide) rfl (fun hc => ?_) (fun hc => ?_)
      · have h := h.1 hc
        refine go_aload_n C 47 48 0 0 dX6_comes_47 rfl rfl rfl ?_
        refine go_getJ C 48 51 iw6 25 (lu25 ex) rfl 22 (by decide) k543_ rfl rfl dX6_comes_48 rfl ?_
        refine go_topl (fun x1 hx1 => ?_)
        replace h := h x1 hx1
        refine go_lstore_n C 51 52 3 [(3, .long _), (0, .ref _), (1, .int _), (2, .int _)] dX6_comes_51 rfl (by decide) rfl rfl ?_
        refine go_aload_n C 52 53 0 1 dX6_comes_52 rfl rfl rfl ?_
        refine go_iload_n C 53 54 1 2 dX6_comes_53 rfl rfl rfl ?_
        refine go_iconst C 54 55 (1) dX6_comes_54 (by decide) rfl ?_
        refine go_iload_n C 55 56 2 3 dX6_comes_55 rfl rfl rfl ?_
        refine go_ishl C 56 57 dX6_comes_56 rfl ?_
        refine go_ior C 57 58 dX6_comes_57 rfl ?_
        refine go_vv C 58 61 0 0 [.int (p1 ||| ((1 : Int32) <<< (v2 &&& 31)))] 25 (lu25 ex) rfl (hself _ _ _ h) k713_ k716_ k57_ k715_ k47_ qX6_comes mhX6_comes (by constructor <;> simp only [rX6_comes] <;> omega) ⟨Nat.le_refl _, Nat.le_refl _⟩ rfl rfl rfl rfl (Nat.le_of_ble_eq_true rfl) rfl rfl dX6_comes_58 (fun S2 h => ?_)
        refine go_aload_n C 61 62 0 1 dX6_comes_61 rfl rfl rfl ?_
        refine go_getR C 62 65 iw6 25 (lu25 ex) rfl 21 (by decide) k542_ rfl rfl dX6_comes_62 rfl ?_
        refine go_iload_n C 65 66 2 3 dX6_comes_65 rfl rfl rfl ?_
        refine go_dup2 C 66 67 rfl rfl dX6_comes_66 rfl ?_
        obtain ⟨hi4, h⟩ := h
        refine go_lald C 67 68 40 (lu40 ex) hi4 dX6_comes_67 rfl ?_
        refine go_aload_n C 68 69 0 1 dX6_comes_68 rfl rfl rfl ?_
        refine go_getJ C 69 72 iw6 25 (lu25 ex) rfl 22 (by decide) k543_ rfl rfl dX6_comes_69 rfl ?_
        refine go_lload_n C 72 73 3 0 dX6_comes_72 rfl rfl rfl ?_
        refine go_lsub C 73 74 dX6_comes_73 rfl ?_
        refine go_aload_n C 74 75 0 1 dX6_comes_74 rfl rfl rfl ?_
        refine go_getR C 75 78 iw6 25 (lu25 ex) rfl 23 (by decide) k544_ rfl rfl dX6_comes_75 rfl ?_
        refine go_iload_n C 78 79 1 2 dX6_comes_78 rfl rfl rfl ?_
        refine go_iconst C 79 80 (1) dX6_comes_79 (by decide) rfl ?_
        refine go_iload_n C 80 81 2 3 dX6_comes_80 rfl rfl rfl ?_
        refine go_ishl C 81 82 dX6_comes_81 rfl ?_
        refine go_ior C 82 83 dX6_comes_82 rfl ?_
        obtain ⟨hi5, h⟩ := h
        refine go_iald C 83 84 41 (lu41 ex) hi5 dX6_comes_83 rfl ?_
        refine go_aload_n C 84 85 0 1 dX6_comes_84 rfl rfl rfl ?_
        refine go_getR C 85 88 iw6 25 (lu25 ex) rfl 23 (by decide) k544_ rfl rfl dX6_comes_85 rfl ?_
        refine go_iload_n C 88 89 1 2 dX6_comes_88 rfl rfl rfl ?_
        obtain ⟨hi6, h⟩ := h
        refine go_iald C 89 90 41 (lu41 ex) hi6 dX6_comes_89 rfl ?_
        refine go_isub C 90 91 dX6_comes_90 rfl ?_
        refine go_i2l C 91 92 dX6_comes_91 rfl ?_
        refine go_lmul C 92 93 dX6_comes_92 rfl ?_
        refine go_ladd C 93 94 dX6_comes_93 rfl ?_
        obtain ⟨hi7, h⟩ := h
        refine go_last C 94 95 40 (lu40 ex) hi7 dX6_comes_94 rfl ?_
        refine go_nm (fun S8 hS8 => ?_)
        replace h := h S8 hS8
        refine go_iinc C 95 98 2 3 (v2 + 1) [(2, .int _), (3, .long _), (0, .ref _), (1, .int _)] dX6_comes_95 rfl rfl (by decide) rfl rfl ?_
        refine go_goto C 98 21 dX6_comes_98 (by decide) ?_
        exact go_perm [2, 3, 0] rfl (ih _ _ h)
      · have h := h.2 hc
        refine go_goto C 44 95 dX6_comes_44 (by decide) ?_
        refine go_iinc C 95 98 2 2 (v2 + 1) [(2, .int _), (0, .ref _), (1, .int _)] dX6_comes_95 rfl rfl (by decide) rfl rfl ?_
        refine go_goto C 98 21 dX6_comes_98 (by decide) ?_
        exact go_perm [1, 2, 0] rfl (ih _ _ h)
def wR_X6_comes (self : St → Int32 → (St → Prop) → Prop) (S : St) (a1 : Int32) (post : St → Prop) : Prop :=
  (¬ a1 = (S.1 25 24) → ∃ fu3, wL_X6_comes_21 self a1 (fun (z2 : Int32) (S1 : St) => post S1) fu3 (0 : Int32) S) ∧ (a1 = (S.1 25 24) → ∀ S4 : St, S4 = uJ S 25 22 ((S.2 25 22) + (1 : Int64)) → post S4)
def wp_X6_comes : Nat → St → Int32 → (St → Prop) → Prop
  | 0, _, _, _ => False
  | d + 1, S, a1, post => wR_X6_comes (wp_X6_comes d) S a1 post
set_option maxHeartbeats 4000000 in
set_option maxRecDepth 100000 in
theorem c_X6_comes {l : Launch} {D : va_G} {cA : Nat → ClassId} {ad : Nat → Nat} {ex : List Lay} (d : Nat) : ∀ (S : St) (a1 : Int32) {post : St → Prop}, wp_X6_comes d S a1 post → MetV l yX6_comes cX6_comes 5 none (rX6_comes d) D cA ad (LU ++ ex) [.ref (ad 25), .int a1] S post 0 0 := by
  induction d with
  | zero => intro S a1 post h; exact h.elim
  | succ d ihd =>
    intro S a1 post h
    replace h : wR_X6_comes (wp_X6_comes d) S a1 post := h
    have hself : ∀ (S : St) (a1 : Int32) (post : St → Prop), wp_X6_comes d S a1 post → MetV l yX6_comes cX6_comes 5 none (rX6_comes d) D cA ad (LU ++ ex) [.ref (ad 25), .int a1] S post 0 0 := fun S a1 post h => ihd S a1 h
    generalize wp_X6_comes d = self at h hself
    refine MetV.of (by decide) (Nat.le_of_ble_eq_true rfl) ?_
    intro p e s m args below meth c C
    unfold wR_X6_comes at h
    show Go p l e (rX6_comes (d + 1)) s m args below meth c D cA ad (LU ++ ex) 5 0 0 _ S 0 [(0, .ref (ad 25)), (1, .int a1)] []
    replace C : Cx p s m args meth c cX6_comes 5 none RX6 D cA ad (LU ++ ex) := C
    refine go_iload_n C 0 1 1 1 dX6_comes_0 rfl rfl rfl ?_
    refine go_aload_n C 1 2 0 0 dX6_comes_1 rfl rfl rfl ?_
    refine go_getI C 2 5 iw6 25 (lu25 ex) rfl 24 (by decide) k545_ rfl rfl dX6_comes_2 rfl ?_
    refine go_icmp_ne C 5 8 19 dX6_comes_5 (by decide) rfl (fun hc => ?_) (fun hc => ?_)
    · have h := h.1 hc
      refine go_iconst C 19 20 (0) dX6_comes_19 (by decide) rfl ?_
      refine go_istore_n C 20 21 2 [(2, .int _), (0, .ref _), (1, .int _)] dX6_comes_20 rfl (by decide) rfl rfl ?_
      obtain ⟨fu3, h⟩ := h
      refine go_perm [1, 2, 0] rfl (L_X6_comes_21 d C   self hself _ (fun z2 S1 h => ?_) _ _ _ h)
      exact go_vret C 101 rfl dX6_comes_101 h
    · have h := h.2 hc
      refine go_aload_n C 8 9 0 0 dX6_comes_8 rfl rfl rfl ?_
      refine go_dup C 9 10 rfl dX6_comes_9 rfl ?_
      refine go_getJ C 10 13 iw6 25 (lu25 ex) rfl 22 (by decide) k543_ rfl rfl dX6_comes_10 rfl ?_
      refine go_lconst C 13 14 1 dX6_comes_13 rfl rfl ?_
      refine go_ladd C 14 15 dX6_comes_14 rfl ?_
      refine go_putJ C 15 18 iw6 25 (lu25 ex) rfl 22 (by decide) tyX6 tyX6_ok nmX6 k543_ rfl rfl rfl (by decide +kernel) dX6_comes_15 rfl ?_
      refine go_nm (fun S4 hS4 => ?_)
      replace h := h S4 hS4
      exact go_vret C 18 rfl dX6_comes_18 h
-- BillHouseModel.bills(I)V
theorem qX6_bills : (parseMethodDescriptor yX6_bills.desc).map (fun d => d.parameters.length) = some 1 := by decide +kernel
theorem mhX6_bills : yX6_bills.cls ≠ "java/lang/invoke/MethodHandle" ∧ yX6_bills.cls ≠ "java/lang/invoke/VarHandle" := by decide +kernel
def rX6_bills : Room := { frames := 11, cells := 0, slots := 0, locals := 287 }
def wB_X6_bills_10 (p1 : Int32) (k rec : Int32 → St → Prop) (v2 : Int32) (S : St) : Prop :=
  ((S.1 25 9) ≤ v2 → k v2 S) ∧ (¬ ((S.1 25 9) ≤ v2) → (vp_in v2 8) ∧ (∀ S2 : St, S2 = uJ S 40 v2.toNatClampNeg (0 : Int64) → rec (v2 + 1) S2))
def wL_X6_bills_10 (p1 : Int32) (k : Int32 → St → Prop) : Nat → Int32 → St → Prop
  | 0, _, _ => False
  | n + 1, v2, S => wB_X6_bills_10 p1 k (wL_X6_bills_10 p1 k n) v2 S
set_option maxHeartbeats 4000000 in
set_option maxRecDepth 100000 in
theorem L_X6_bills_10 {p : Program} {l : Launch} {e : Env} {s : State} {m : MethodId} {args : Array Value} {below : List Frame} {meth : Method} {c : Code} {D : va_G} {cA : Nat → ClassId} {ad : Nat → Nat} {ex : List Lay} {Q : State → Prop} (C : Cx p s m args meth c cX6_bills 5 none RX6 D cA ad (LU ++ ex))   (p1 : Int32) {k : Int32 → St → Prop} (hk : ∀ (v2 : Int32) (S : St), k v2 S → Go p l e rX6_bills s m args below meth c D cA ad (LU ++ ex) 5 0 0 Q S 31 [(0, .ref (ad 25)), (1, .int p1)] []) : ∀ (n : Nat) (v2 : Int32) (S : St), wL_X6_bills_10 p1 k n v2 S → Go p l e rX6_bills s m args below meth c D cA ad (LU ++ ex) 5 0 0 Q S 10 [(0, .ref (ad 25)), (1, .int p1), (2, .int v2)] [] := by
  intro n
  induction n with
  | zero => intro v2 S h; exact h.elim
  | succ n ih =>
    intro v2 S h
    replace h : wB_X6_bills_10 p1 k (wL_X6_bills_10 p1 k n) v2 S := h
    unfold wB_X6_bills_10 at h
    refine go_iload_n C 10 11 2 2 dX6_bills_10 rfl rfl rfl ?_
    refine go_aload_n C 11 12 0 0 dX6_bills_11 rfl rfl rfl ?_
    refine go_getI C 12 15 iw6 25 (lu25 ex) rfl 9 (by decide) k530_ rfl rfl dX6_bills_12 rfl ?_
    refine go_icmp_ge C 15 18 31 dX6_bills_15 (by decide) rfl (fun hc => ?_) (fun hc => ?_)
    · have h := h.1 hc
      exact go_perm [0, 1] rfl (hk _ _ h)
    · have h := h.2 hc
      refine go_aload_n C 18 19 0 0 dX6_bills_18 rfl rfl rfl ?_
      refine go_getR C 19 22 iw6 25 (lu25 ex) rfl 21 (by decide) k542_ rfl rfl dX6_bills_19 rfl ?_
      refine go_iload_n C 22 23 2 2 dX6_bills_22 rfl rfl rfl ?_
      refine go_lconst C 23 24 0 dX6_bills_23 rfl rfl ?_
      obtain ⟨hi1, h⟩ := h
      refine go_last C 24 25 40 (lu40 ex) hi1 dX6_bills_24 rfl ?_
      refine go_nm (fun S2 hS2 => ?_)
      replace h := h S2 hS2
      refine go_iinc C 25 28 2 2 (v2 + 1) [(2, .int _), (0, .ref _), (1, .int _)] dX6_bills_25 rfl rfl (by decide) rfl rfl ?_
      refine go_goto C 28 10 dX6_bills_28 (by decide) ?_
      exact go_perm [1, 2, 0] rfl (ih _ _ h)
def wB_X6_bills_250 (k rec : Int32 → St → Prop) (v2 : Int32) (S : St) : Prop :=
  ((256 : Int32) ≤ v2 → k v2 S) ∧ (¬ ((256 : Int32) ≤ v2) → (¬ (v2 &&& ((S.1 25 24) ^^^ (-1 : Int32))) = 0 → (vp_in v2 256) ∧ (∀ S2 : St, S2 = uI S 41 v2.toNatClampNeg (0 : Int32) → rec (v2 + 1) S2)) ∧ ((v2 &&& ((S.1 25 24) ^^^ (-1 : Int32))) = 0 → wp_X6_costOf S v2 (fun (r4 : Int32) (S3 : St) => (vp_in v2 256) ∧ (∀ S6 : St, S6 = uI S3 41 v2.toNatClampNeg r4 → rec (v2 + 1) S6))))
def wL_X6_bills_250 (k : Int32 → St → Prop) : Nat → Int32 → St → Prop
  | 0, _, _ => False
  | n + 1, v2, S => wB_X6_bills_250 k (wL_X6_bills_250 k n) v2 S
set_option maxHeartbeats 4000000 in
set_option maxRecDepth 100000 in
theorem L_X6_bills_250 {p : Program} {l : Launch} {e : Env} {s : State} {m : MethodId} {args : Array Value} {below : List Frame} {meth : Method} {c : Code} {D : va_G} {cA : Nat → ClassId} {ad : Nat → Nat} {ex : List Lay} {Q : State → Prop} (C : Cx p s m args meth c cX6_bills 5 none RX6 D cA ad (LU ++ ex))   {k : Int32 → St → Prop} (hk : ∀ (v2 : Int32) (S : St), k v2 S → Go p l e rX6_bills s m args below meth c D cA ad (LU ++ ex) 5 0 0 Q S 289 [(0, .ref (ad 25))] []) : ∀ (n : Nat) (v2 : Int32) (S : St), wL_X6_bills_250 k n v2 S → Go p l e rX6_bills s m args below meth c D cA ad (LU ++ ex) 5 0 0 Q S 250 [(0, .ref (ad 25)), (2, .int v2)] [] := by
  intro n
  induction n with
  | zero => intro v2 S h; exact h.elim
  | succ n ih =>
    intro v2 S h
    replace h : wB_X6_bills_250 k (wL_X6_bills_250 k n) v2 S := h
    unfold wB_X6_bills_250 at h
    refine go_iload_n C 250 251 2 1 dX6_bills_250 rfl rfl rfl ?_
    refine go_sipush C 251 254 (256) dX6_bills_251 (by decide) rfl ?_
    refine go_icmp_ge C 254 257 289 dX6_bills_254 (by decide) rfl (fun hc => ?_) (fun hc => ?_)
    · have h := h.1 hc
      exact go_perm [0] rfl (hk _ _ h)
    · have h := h.2 hc
      refine go_aload_n C 257 258 0 0 dX6_bills_257 rfl rfl rfl ?_
      refine go_getR C 258 261 iw6 25 (lu25 ex) rfl 23 (by decide) k544_ rfl rfl dX6_bills_258 rfl ?_
      refine go_iload_n C 261 262 2 1 dX6_bills_261 rfl rfl rfl ?_
      refine go_iload_n C 262 263 2 1 dX6_bills_262 rfl rfl rfl ?_
      refine go_aload_n C 263 264 0 0 dX6_bills_263 rfl rfl rfl ?_
      refine go_getI C 264 267 iw6 25 (lu25 ex) rfl 24 (by decide) k545_ rfl rfl dX6_bills_264 rfl ?_
      refine go_iconst C 267 268 (-1) dX6_bills_267 (by decide) rfl ?_
      refine go_ixor C 268 269 dX6_bills_268 rfl ?_
      refine go_iand C 269 270 dX6_bills_269 rfl ?_
      refine go_if_ne C 270 273 281 dX6_bills_270 (by decide) rfl (fun hc => ?_) (fun hc => ?_)
      · have h := h.1 hc
        refine go_iconst C 281 282 (0) dX6_bills_281 (by decide) rfl ?_
        obtain ⟨hi1, h⟩ := h
        refine go_iast C 282 283 41 (lu41 ex) hi1 dX6_bills_282 rfl ?_
        refine go_nm (fun S2 hS2 => ?_)
        replace h := h S2 hS2
        refine go_iinc C 283 286 2 1 (v2 + 1) [(2, .int _), (0, .ref _)] dX6_bills_283 rfl rfl (by decide) rfl rfl ?_
        refine go_goto C 286 250 dX6_bills_286 (by decide) ?_
        exact go_perm [1, 0] rfl (ih _ _ h)
      · have h := h.2 hc
        refine go_aload_n C 273 274 0 0 dX6_bills_273 rfl rfl rfl ?_
        refine go_iload_n C 274 275 2 1 dX6_bills_274 rfl rfl rfl ?_
        refine go_vi C 275 278 0 0 [.int v2] 25 (lu25 ex) rfl (c_X6_costOf _ _  h) k670_ k673_ k57_ k672_ k41_ qX6_costOf mhX6_costOf (by decide) (by decide) rfl rfl rfl rfl (Nat.le_of_ble_eq_true rfl) rfl rfl dX6_bills_275 (fun r4 S3 h => ?_)
        refine go_goto C 278 282 dX6_bills_278 (by decide) ?_
        obtain ⟨hi5, h⟩ := h
        refine go_iast C 282 283 41 (lu41 ex) hi5 dX6_bills_282 rfl ?_
        refine go_nm (fun S6 hS6 => ?_)
        replace h := h S6 hS6
        refine go_iinc C 283 286 2 1 (v2 + 1) [(2, .int _), (0, .ref _)] dX6_bills_283 rfl rfl (by decide) rfl rfl ?_
        refine go_goto C 286 250 dX6_bills_286 (by decide) ?_
        exact go_perm [1, 0] rfl (ih _ _ h)
def wB_X6_bills_134 (k rec : Int64 → Int32 → St → Prop) (v2 : Int64) (v4 : Int32) (S : St) : Prop :=
  ((S.1 25 9) ≤ v4 → k v2 v4 S) ∧ (¬ ((S.1 25 9) ≤ v4) → (vp_in v4 8) ∧ (((S.1 32 v4.toNatClampNeg) = 0 → ∀ x2 : Int64, x2 = (v2 + (0 : Int64)) → rec x2 (v4 + 1) S) ∧ (¬ ((S.1 32 v4.toNatClampNeg) = 0) → wp_X6_costOf S ((1 : Int32) <<< (v4 &&& 31)) (fun (r4 : Int32) (S3 : St) => ∀ x5 : Int64, x5 = (v2 + r4.toInt64) → rec x5 (v4 + 1) S3))))
def wL_X6_bills_134 (k : Int64 → Int32 → St → Prop) : Nat → Int64 → Int32 → St → Prop
  | 0, _, _, _ => False
  | n + 1, v2, v4, S => wB_X6_bills_134 k (wL_X6_bills_134 k n) v2 v4 S
set_option maxHeartbeats 4000000 in
set_option maxRecDepth 100000 in
theorem L_X6_bills_134 {p : Program} {l : Launch} {e : Env} {s : State} {m : MethodId} {args : Array Value} {below : List Frame} {meth : Method} {c : Code} {D : va_G} {cA : Nat → ClassId} {ad : Nat → Nat} {ex : List Lay} {Q : State → Prop} (C : Cx p s m args meth c cX6_bills 5 none RX6 D cA ad (LU ++ ex))   {k : Int64 → Int32 → St → Prop} (hk : ∀ (v2 : Int64) (v4 : Int32) (S : St), k v2 v4 S → Go p l e rX6_bills s m args below meth c D cA ad (LU ++ ex) 5 0 0 Q S 175 [(0, .ref (ad 25)), (2, .long v2)] []) : ∀ (n : Nat) (v2 : Int64) (v4 : Int32) (S : St), wL_X6_bills_134 k n v2 v4 S → Go p l e rX6_bills s m args below meth c D cA ad (LU ++ ex) 5 0 0 Q S 134 [(0, .ref (ad 25)), (2, .long v2), (4, .int v4)] [] := by
  intro n
  induction n with
  | zero => intro v2 v4 S h; exact h.elim
  | succ n ih =>
    intro v2 v4 S h
    replace h : wB_X6_bills_134 k (wL_X6_bills_134 k n) v2 v4 S := h
    unfold wB_X6_bills_134 at h
    refine go_iload C 134 136 4 2 dX6_bills_134 rfl rfl ?_
    refine go_aload_n C 136 137 0 0 dX6_bills_136 rfl rfl rfl ?_
    refine go_getI C 137 140 iw6 25 (lu25 ex) rfl 9 (by decide) k530_ rfl rfl dX6_bills_137 rfl ?_
    refine go_icmp_ge C 140 143 175 dX6_bills_140 (by decide) rfl (fun hc => ?_) (fun hc => ?_)
    · have h := h.1 hc
      exact go_perm [0, 1] rfl (hk _ _ _ h)
    · have h := h.2 hc
      refine go_lload_n C 143 144 2 1 dX6_bills_143 rfl rfl rfl ?_
      refine go_aload_n C 144 145 0 0 dX6_bills_144 rfl rfl rfl ?_
      refine go_getR C 145 148 iw6 25 (lu25 ex) rfl 7 (by decide) k528_ rfl rfl dX6_bills_145 rfl ?_
      refine go_iload C 148 150 4 2 dX6_bills_148 rfl rfl ?_
      obtain ⟨hi1, h⟩ := h
      refine go_zald C 150 151 32 (lu32 ex) hi1 dX6_bills_150 rfl ?_
      refine go_if_eq C 151 154 166 dX6_bills_151 (by decide) rfl (fun hc => ?_) (fun hc => ?_)
      · have h := h.1 hc
        refine go_lconst C 166 167 0 dX6_bills_166 rfl rfl ?_
        refine go_ladd C 167 168 dX6_bills_167 rfl ?_
        refine go_topl (fun x2 hx2 => ?_)
        replace h := h x2 hx2
        refine go_lstore_n C 168 169 2 [(2, .long _), (0, .ref _), (4, .int _)] dX6_bills_168 rfl (by decide) rfl rfl ?_
        refine go_iinc C 169 172 4 2 (v4 + 1) [(4, .int _), (2, .long _), (0, .ref _)] dX6_bills_169 rfl rfl (by decide) rfl rfl ?_
        refine go_goto C 172 134 dX6_bills_172 (by decide) ?_
        exact go_perm [2, 1, 0] rfl (ih _ _ _ h)
      · have h := h.2 hc
        refine go_aload_n C 154 155 0 0 dX6_bills_154 rfl rfl rfl ?_
        refine go_iconst C 155 156 (1) dX6_bills_155 (by decide) rfl ?_
        refine go_iload C 156 158 4 2 dX6_bills_156 rfl rfl ?_
        refine go_ishl C 158 159 dX6_bills_158 rfl ?_
        refine go_vi C 159 162 0 0 [.int ((1 : Int32) <<< (v4 &&& 31))] 25 (lu25 ex) rfl (c_X6_costOf _ _  h) k670_ k673_ k57_ k672_ k41_ qX6_costOf mhX6_costOf (by decide) (by decide) rfl rfl rfl rfl (Nat.le_of_ble_eq_true rfl) rfl rfl dX6_bills_159 (fun r4 S3 h => ?_)
        refine go_i2l C 162 163 dX6_bills_162 rfl ?_
        refine go_goto C 163 167 dX6_bills_163 (by decide) ?_
        refine go_ladd C 167 168 dX6_bills_167 rfl ?_
        refine go_topl (fun x5 hx5 => ?_)
        replace h := h x5 hx5
        refine go_lstore_n C 168 169 2 [(2, .long _), (0, .ref _), (4, .int _)] dX6_bills_168 rfl (by decide) rfl rfl ?_
        refine go_iinc C 169 172 4 2 (v4 + 1) [(4, .int _), (2, .long _), (0, .ref _)] dX6_bills_169 rfl rfl (by decide) rfl rfl ?_
        refine go_goto C 172 134 dX6_bills_172 (by decide) ?_
        exact go_perm [2, 1, 0] rfl (ih _ _ _ h)
def wB_X6_bills_190 (k rec : Int32 → St → Prop) (v4 : Int32) (S : St) : Prop :=
  ((S.1 25 9) ≤ v4 → k v4 S) ∧ (¬ ((S.1 25 9) ≤ v4) → (vp_in v4 8) ∧ (((S.1 32 v4.toNatClampNeg) = 0 → (vp_in v4 8) ∧ (∀ S3 : St, S3 = uJ S 40 v4.toNatClampNeg (0 : Int64) → rec (v4 + 1) S3)) ∧ (¬ ((S.1 32 v4.toNatClampNeg) = 0) → wp_X6_costOf S (S.1 25 24) (fun (r5 : Int32) (S4 : St) => wp_X6_costOf S4 ((1 : Int32) <<< (v4 &&& 31)) (fun (r7 : Int32) (S6 : St) => (vp_in v4 8) ∧ (∀ S9 : St, S9 = uJ S6 40 v4.toNatClampNeg (r5.toInt64 * r7.toInt64) → rec (v4 + 1) S9))))))
def wL_X6_bills_190 (k : Int32 → St → Prop) : Nat → Int32 → St → Prop
  | 0, _, _ => False
  | n + 1, v4, S => wB_X6_bills_190 k (wL_X6_bills_190 k n) v4 S
set_option maxHeartbeats 4000000 in
set_option maxRecDepth 100000 in
theorem L_X6_bills_190 {p : Program} {l : Launch} {e : Env} {s : State} {m : MethodId} {args : Array Value} {below : List Frame} {meth : Method} {c : Code} {D : va_G} {cA : Nat → ClassId} {ad : Nat → Nat} {ex : List Lay} {Q : State → Prop} (C : Cx p s m args meth c cX6_bills 5 none RX6 D cA ad (LU ++ ex))   {k : Int32 → St → Prop} (hk : ∀ (v4 : Int32) (S : St), k v4 S → Go p l e rX6_bills s m args below meth c D cA ad (LU ++ ex) 5 0 0 Q S 245 [] []) : ∀ (n : Nat) (v4 : Int32) (S : St), wL_X6_bills_190 k n v4 S → Go p l e rX6_bills s m args below meth c D cA ad (LU ++ ex) 5 0 0 Q S 190 [(0, .ref (ad 25)), (4, .int v4)] [] := by
  intro n
  induction n with
  | zero => intro v4 S h; exact h.elim
  | succ n ih =>
    intro v4 S h
    replace h : wB_X6_bills_190 k (wL_X6_bills_190 k n) v4 S := h
    unfold wB_X6_bills_190 at h
    refine go_iload C 190 192 4 1 dX6_bills_190 rfl rfl ?_
    refine go_aload_n C 192 193 0 0 dX6_bills_192 rfl rfl rfl ?_
    refine go_getI C 193 196 iw6 25 (lu25 ex) rfl 9 (by decide) k530_ rfl rfl dX6_bills_193 rfl ?_
    refine go_icmp_ge C 196 199 245 dX6_bills_196 (by decide) rfl (fun hc => ?_) (fun hc => ?_)
    · have h := h.1 hc
      exact go_perm [] rfl (hk _ _ h)
    · have h := h.2 hc
      refine go_aload_n C 199 200 0 0 dX6_bills_199 rfl rfl rfl ?_
      refine go_getR C 200 203 iw6 25 (lu25 ex) rfl 21 (by decide) k542_ rfl rfl dX6_bills_200 rfl ?_
      refine go_iload C 203 205 4 1 dX6_bills_203 rfl rfl ?_
      refine go_aload_n C 205 206 0 0 dX6_bills_205 rfl rfl rfl ?_
      refine go_getR C 206 209 iw6 25 (lu25 ex) rfl 7 (by decide) k528_ rfl rfl dX6_bills_206 rfl ?_
      refine go_iload C 209 211 4 1 dX6_bills_209 rfl rfl ?_
      obtain ⟨hi1, h⟩ := h
      refine go_zald C 211 212 32 (lu32 ex) hi1 dX6_bills_211 rfl ?_
      refine go_if_eq C 212 215 237 dX6_bills_212 (by decide) rfl (fun hc => ?_) (fun hc => ?_)
      · have h := h.1 hc
        refine go_lconst C 237 238 0 dX6_bills_237 rfl rfl ?_
        obtain ⟨hi2, h⟩ := h
        refine go_last C 238 239 40 (lu40 ex) hi2 dX6_bills_238 rfl ?_
        refine go_nm (fun S3 hS3 => ?_)
        replace h := h S3 hS3
        refine go_iinc C 239 242 4 1 (v4 + 1) [(4, .int _), (0, .ref _)] dX6_bills_239 rfl rfl (by decide) rfl rfl ?_
        refine go_goto C 242 190 dX6_bills_242 (by decide) ?_
        exact go_perm [1, 0] rfl (ih _ _ h)
      · have h := h.2 hc
        refine go_aload_n C 215 216 0 0 dX6_bills_215 rfl rfl rfl ?_
        refine go_aload_n C 216 217 0 0 dX6_bills_216 rfl rfl rfl ?_
        refine go_getI C 217 220 iw6 25 (lu25 ex) rfl 24 (by decide) k545_ rfl rfl dX6_bills_217 rfl ?_
        refine go_vi C 220 223 0 0 [.int (S.1 25 24)] 25 (lu25 ex) rfl (c_X6_costOf _ _  h) k670_ k673_ k57_ k672_ k41_ qX6_costOf mhX6_costOf (by decide) (by decide) rfl rfl rfl rfl (Nat.le_of_ble_eq_true rfl) rfl rfl dX6_bills_220 (fun r5 S4 h => ?_)
        refine go_i2l C 223 224 dX6_bills_223 rfl ?_
        refine go_aload_n C 224 225 0 0 dX6_bills_224 rfl rfl rfl ?_
        refine go_iconst C 225 226 (1) dX6_bills_225 (by decide) rfl ?_
        refine go_iload C 226 228 4 1 dX6_bills_226 rfl rfl ?_
        refine go_ishl C 228 229 dX6_bills_228 rfl ?_
        refine go_vi C 229 232 0 0 [.int ((1 : Int32) <<< (v4 &&& 31))] 25 (lu25 ex) rfl (c_X6_costOf _ _  h) k670_ k673_ k57_ k672_ k41_ qX6_costOf mhX6_costOf (by decide) (by decide) rfl rfl rfl rfl (Nat.le_of_ble_eq_true rfl) rfl rfl dX6_bills_229 (fun r7 S6 h => ?_)
        refine go_i2l C 232 233 dX6_bills_232 rfl ?_
        refine go_lmul C 233 234 dX6_bills_233 rfl ?_
        refine go_goto C 234 238 dX6_bills_234 (by decide) ?_
        obtain ⟨hi8, h⟩ := h
        refine go_last C 238 239 40 (lu40 ex) hi8 dX6_bills_238 rfl ?_
        refine go_nm (fun S9 hS9 => ?_)
        replace h := h S9 hS9
        refine go_iinc C 239 242 4 1 (v4 + 1) [(4, .int _), (0, .ref _)] dX6_bills_239 rfl rfl (by decide) rfl rfl ?_
        refine go_goto C 242 190 dX6_bills_242 (by decide) ?_
        exact go_perm [1, 0] rfl (ih _ _ h)
def wB_X6_bills_64 (p2 : Int32) (k rec : Int32 → St → Prop) (v3 : Int32) (S : St) : Prop :=
  ((S.1 25 8) ≤ v3 → k v3 S) ∧ (¬ ((S.1 25 8) ≤ v3) → (vp_in p2 8) ∧ (((S.1 32 p2.toNatClampNeg) = 0 → rec (v3 + 1) S) ∧ (¬ ((S.1 32 p2.toNatClampNeg) = 0) → (vp_in p2 8) ∧ ((vp_in (((8 : Int32) * v3) + p2) 48) ∧ ((vp_in v3 6) ∧ ((vp_in p2 8) ∧ (∀ S6 : St, S6 = uJ S 40 p2.toNatClampNeg ((S.2 40 p2.toNatClampNeg) + (((S.1 28 (((8 : Int32) * v3) + p2).toNatClampNeg).toInt64) * (S.2 39 v3.toNatClampNeg))) → rec (v3 + 1) S6)))))))
def wL_X6_bills_64 (p2 : Int32) (k : Int32 → St → Prop) : Nat → Int32 → St → Prop
  | 0, _, _ => False
  | n + 1, v3, S => wB_X6_bills_64 p2 k (wL_X6_bills_64 p2 k n) v3 S
set_option maxHeartbeats 4000000 in
set_option maxRecDepth 100000 in
theorem L_X6_bills_64 {p : Program} {l : Launch} {e : Env} {s : State} {m : MethodId} {args : Array Value} {below : List Frame} {meth : Method} {c : Code} {D : va_G} {cA : Nat → ClassId} {ad : Nat → Nat} {ex : List Lay} {Q : State → Prop} (C : Cx p s m args meth c cX6_bills 5 none RX6 D cA ad (LU ++ ex))   (p2 : Int32) {k : Int32 → St → Prop} (hk : ∀ (v3 : Int32) (S : St), k v3 S → Go p l e rX6_bills s m args below meth c D cA ad (LU ++ ex) 5 0 0 Q S 115 [(0, .ref (ad 25)), (2, .int p2)] []) : ∀ (n : Nat) (v3 : Int32) (S : St), wL_X6_bills_64 p2 k n v3 S → Go p l e rX6_bills s m args below meth c D cA ad (LU ++ ex) 5 0 0 Q S 64 [(0, .ref (ad 25)), (2, .int p2), (3, .int v3)] [] := by
  intro n
  induction n with
  | zero => intro v3 S h; exact h.elim
  | succ n ih =>
    intro v3 S h
    replace h : wB_X6_bills_64 p2 k (wL_X6_bills_64 p2 k n) v3 S := h
    unfold wB_X6_bills_64 at h
    refine go_iload_n C 64 65 3 2 dX6_bills_64 rfl rfl rfl ?_
    refine go_aload_n C 65 66 0 0 dX6_bills_65 rfl rfl rfl ?_
    refine go_getI C 66 69 iw6 25 (lu25 ex) rfl 8 (by decide) k529_ rfl rfl dX6_bills_66 rfl ?_
    refine go_icmp_ge C 69 72 115 dX6_bills_69 (by decide) rfl (fun hc => ?_) (fun hc => ?_)
    · have h := h.1 hc
      exact go_perm [0, 1] rfl (hk _ _ h)
    · have h := h.2 hc
      refine go_aload_n C 72 73 0 0 dX6_bills_72 rfl rfl rfl ?_
      refine go_getR C 73 76 iw6 25 (lu25 ex) rfl 7 (by decide) k528_ rfl rfl dX6_bills_73 rfl ?_
      refine go_iload_n C 76 77 2 1 dX6_bills_76 rfl rfl rfl ?_
      obtain ⟨hi1, h⟩ := h
      refine go_zald C 77 78 32 (lu32 ex) hi1 dX6_bills_77 rfl ?_
      refine go_if_eq C 78 81 109 dX6_bills_78 (by decide) rfl (fun hc => ?_) (fun hc => ?_)
      · have h := h.1 hc
        refine go_iinc C 109 112 3 2 (v3 + 1) [(3, .int _), (0, .ref _), (2, .int _)] dX6_bills_109 rfl rfl (by decide) rfl rfl ?_
        refine go_goto C 112 64 dX6_bills_112 (by decide) ?_
        exact go_perm [1, 2, 0] rfl (ih _ _ h)
      · have h := h.2 hc
        refine go_aload_n C 81 82 0 0 dX6_bills_81 rfl rfl rfl ?_
        refine go_getR C 82 85 iw6 25 (lu25 ex) rfl 21 (by decide) k542_ rfl rfl dX6_bills_82 rfl ?_
        refine go_iload_n C 85 86 2 1 dX6_bills_85 rfl rfl rfl ?_
        refine go_dup2 C 86 87 rfl rfl dX6_bills_86 rfl ?_
        obtain ⟨hi2, h⟩ := h
        refine go_lald C 87 88 40 (lu40 ex) hi2 dX6_bills_87 rfl ?_
        refine go_aload_n C 88 89 0 0 dX6_bills_88 rfl rfl rfl ?_
        refine go_getR C 89 92 iw6 25 (lu25 ex) rfl 3 (by decide) k524_ rfl rfl dX6_bills_89 rfl ?_
        refine go_bipush C 92 94 (8) dX6_bills_92 (by decide) rfl ?_
        refine go_iload_n C 94 95 3 2 dX6_bills_94 rfl rfl rfl ?_
        refine go_imul C 95 96 dX6_bills_95 rfl ?_
        refine go_iload_n C 96 97 2 1 dX6_bills_96 rfl rfl rfl ?_
        refine go_iadd C 97 98 dX6_bills_97 rfl ?_
        obtain ⟨hi3, h⟩ := h
        refine go_iald C 98 99 28 (lu28 ex) hi3 dX6_bills_98 rfl ?_
        refine go_i2l C 99 100 dX6_bills_99 rfl ?_
        refine go_aload_n C 100 101 0 0 dX6_bills_100 rfl rfl rfl ?_
        refine go_getR C 101 104 iw6 25 (lu25 ex) rfl 18 (by decide) k539_ rfl rfl dX6_bills_101 rfl ?_
        refine go_iload_n C 104 105 3 2 dX6_bills_104 rfl rfl rfl ?_
        obtain ⟨hi4, h⟩ := h
        refine go_lald C 105 106 39 (lu39 ex) hi4 dX6_bills_105 rfl ?_
        refine go_lmul C 106 107 dX6_bills_106 rfl ?_
        refine go_ladd C 107 108 dX6_bills_107 rfl ?_
        obtain ⟨hi5, h⟩ := h
        refine go_last C 108 109 40 (lu40 ex) hi5 dX6_bills_108 rfl ?_
        refine go_nm (fun S6 hS6 => ?_)
        replace h := h S6 hS6
        refine go_iinc C 109 112 3 2 (v3 + 1) [(3, .int _), (0, .ref _), (2, .int _)] dX6_bills_109 rfl rfl (by decide) rfl rfl ?_
        refine go_goto C 112 64 dX6_bills_112 (by decide) ?_
        exact go_perm [1, 2, 0] rfl (ih _ _ h)
def wB_X6_bills_54 (k rec : Int32 → St → Prop) (v2 : Int32) (S : St) : Prop :=
  ((S.1 25 9) ≤ v2 → k v2 S) ∧ (¬ ((S.1 25 9) ≤ v2) → ∃ fu3, wL_X6_bills_64 v2 (fun (z2 : Int32) (S1 : St) => rec (v2 + 1) S1) fu3 (0 : Int32) S)
def wL_X6_bills_54 (k : Int32 → St → Prop) : Nat → Int32 → St → Prop
  | 0, _, _ => False
  | n + 1, v2, S => wB_X6_bills_54 k (wL_X6_bills_54 k n) v2 S
set_option maxHeartbeats 4000000 in
set_option maxRecDepth 100000 in
theorem L_X6_bills_54 {p : Program} {l : Launch} {e : Env} {s : State} {m : MethodId} {args : Array Value} {below : List Frame} {meth : Method} {c : Code} {D : va_G} {cA : Nat → ClassId} {ad : Nat → Nat} {ex : List Lay} {Q : State → Prop} (C : Cx p s m args meth c cX6_bills 5 none RX6 D cA ad (LU ++ ex))   {k : Int32 → St → Prop} (hk : ∀ (v2 : Int32) (S : St), k v2 S → Go p l e rX6_bills s m args below meth c D cA ad (LU ++ ex) 5 0 0 Q S 121 [] []) : ∀ (n : Nat) (v2 : Int32) (S : St), wL_X6_bills_54 k n v2 S → Go p l e rX6_bills s m args below meth c D cA ad (LU ++ ex) 5 0 0 Q S 54 [(0, .ref (ad 25)), (2, .int v2)] [] := by
  intro n
  induction n with
  | zero => intro v2 S h; exact h.elim
  | succ n ih =>
    intro v2 S h
    replace h : wB_X6_bills_54 k (wL_X6_bills_54 k n) v2 S := h
    unfold wB_X6_bills_54 at h
    refine go_iload_n C 54 55 2 1 dX6_bills_54 rfl rfl rfl ?_
    refine go_aload_n C 55 56 0 0 dX6_bills_55 rfl rfl rfl ?_
    refine go_getI C 56 59 iw6 25 (lu25 ex) rfl 9 (by decide) k530_ rfl rfl dX6_bills_56 rfl ?_
    refine go_icmp_ge C 59 62 121 dX6_bills_59 (by decide) rfl (fun hc => ?_) (fun hc => ?_)
    · have h := h.1 hc
      exact go_perm [] rfl (hk _ _ h)
    · have h := h.2 hc
      refine go_iconst C 62 63 (0) dX6_bills_62 (by decide) rfl ?_
      refine go_istore_n C 63 64 3 [(3, .int _), (0, .ref _), (2, .int _)] dX6_bills_63 rfl (by decide) rfl rfl ?_
      obtain ⟨fu3, h⟩ := h
      refine go_perm [1, 2, 0] rfl (L_X6_bills_64 C   _ (fun z2 S1 h => ?_) _ _ _ h)
      refine go_iinc C 115 118 2 1 (v2 + 1) [(2, .int _), (0, .ref _)] dX6_bills_115 rfl rfl (by decide) rfl rfl ?_
      refine go_goto C 118 54 dX6_bills_118 (by decide) ?_
      exact go_perm [1, 0] rfl (ih _ _ h)
def wp_X6_bills (S : St) (a1 : Int32) (post : St → Prop) : Prop :=
  wp_X6_thereSet S (fun (r2 : Int32) (S1 : St) => ∀ S3 : St, S3 = uI S1 25 24 r2 → ∃ fu27, wL_X6_bills_10 a1 (fun (z5 : Int32) (S4 : St) => ∀ S6 : St, S6 = uJ S4 25 22 (1 : Int64) → (¬ a1 = 0 → (¬ a1 = (1 : Int32) → ∃ fu12, wL_X6_bills_250 (fun (z8 : Int32) (S7 : St) => ∀ S9 : St, S9 = uJ S7 25 22 (0 : Int64) → wp_X6_comes 10 S9 (0 : Int32) (fun (S10 : St) => post S10)) fu12 (0 : Int32) S6) ∧ (a1 = (1 : Int32) → ∃ fu20, wL_X6_bills_134 (fun (z14 : Int64) (z15 : Int32) (S13 : St) => (¬ z14 = (0 : Int64) → ∀ S16 : St, S16 = uJ S13 25 22 z14 → ∃ fu19, wL_X6_bills_190 (fun (z18 : Int32) (S17 : St) => post S17) fu19 (0 : Int32) S16) ∧ (z14 = (0 : Int64) → post S13)) fu20 (0 : Int64) (0 : Int32) S6)) ∧ (a1 = 0 → wp_X6_prices S6 (fun (S21 : St) => ∀ S23 : St, S23 = uJ S21 25 22 (S21.2 25 20) → ∃ fu26, wL_X6_bills_54 (fun (z25 : Int32) (S24 : St) => post S24) fu26 (0 : Int32) S23))) fu27 (0 : Int32) S3)
set_option maxHeartbeats 4000000 in
set_option maxRecDepth 100000 in
theorem c_X6_bills {l : Launch} {D : va_G} {cA : Nat → ClassId} {ad : Nat → Nat} {ex : List Lay} (S : St) (a1 : Int32)  {post : St → Prop} (h : wp_X6_bills S a1 post) : MetV l yX6_bills cX6_bills 5 none rX6_bills D cA ad (LU ++ ex) [.ref (ad 25), .int a1] S post 0 0 := by
  refine MetV.of (by decide) (Nat.le_of_ble_eq_true rfl) ?_
  intro p e s m args below meth c C
  unfold wp_X6_bills at h
  show Go p l e rX6_bills s m args below meth c D cA ad (LU ++ ex) 5 0 0 _ S 0 [(0, .ref (ad 25)), (1, .int a1)] []
  replace C : Cx p s m args meth c cX6_bills 5 none RX6 D cA ad (LU ++ ex) := C
  refine go_aload_n C 0 1 0 0 dX6_bills_0 rfl rfl rfl ?_
  refine go_aload_n C 1 2 0 0 dX6_bills_1 rfl rfl rfl ?_
  refine go_vi C 2 5 0 0 [] 25 (lu25 ex) rfl (c_X6_thereSet _  h) k646_ k649_ k57_ k648_ k38_ qX6_thereSet mhX6_thereSet (by decide) (by decide) rfl rfl rfl rfl (Nat.le_of_ble_eq_true rfl) rfl rfl dX6_bills_2 (fun r2 S1 h => ?_)
  refine go_putI C 5 8 iw6 25 (lu25 ex) rfl 24 (by decide) tyX6 tyX6_ok nmX6 k545_ rfl rfl rfl (by decide +kernel) dX6_bills_5 rfl ?_
  refine go_nm (fun S3 hS3 => ?_)
  replace h := h S3 hS3
  refine go_iconst C 8 9 (0) dX6_bills_8 (by decide) rfl ?_
  refine go_istore_n C 9 10 2 [(2, .int _), (0, .ref _), (1, .int _)] dX6_bills_9 rfl (by decide) rfl rfl ?_
  obtain ⟨fu27, h⟩ := h
  refine go_perm [1, 2, 0] rfl (L_X6_bills_10 C   _ (fun z5 S4 h => ?_) _ _ _ h)
  refine go_aload_n C 31 32 0 0 dX6_bills_31 rfl rfl rfl ?_
  refine go_lconst C 32 33 1 dX6_bills_32 rfl rfl ?_
  refine go_putJ C 33 36 iw6 25 (lu25 ex) rfl 22 (by decide) tyX6 tyX6_ok nmX6 k543_ rfl rfl rfl (by decide +kernel) dX6_bills_33 rfl ?_
  refine go_nm (fun S6 hS6 => ?_)
  replace h := h S6 hS6
  refine go_iload_n C 36 37 1 1 dX6_bills_36 rfl rfl rfl ?_
  refine go_if_ne C 37 40 124 dX6_bills_37 (by decide) rfl (fun hc => ?_) (fun hc => ?_)
  · have h := h.1 hc
    refine go_iload_n C 124 125 1 1 dX6_bills_124 rfl rfl rfl ?_
    refine go_iconst C 125 126 (1) dX6_bills_125 (by decide) rfl ?_
    refine go_icmp_ne C 126 129 248 dX6_bills_126 (by decide) rfl (fun hc => ?_) (fun hc => ?_)
    · have h := h.1 hc
      refine go_iconst C 248 249 (0) dX6_bills_248 (by decide) rfl ?_
      refine go_istore_n C 249 250 2 [(2, .int _), (0, .ref _), (1, .int _)] dX6_bills_249 rfl (by decide) rfl rfl ?_
      obtain ⟨fu12, h⟩ := h
      refine go_perm [1, 0] rfl (L_X6_bills_250 C   (fun z8 S7 h => ?_) _ _ _ h)
      refine go_aload_n C 289 290 0 0 dX6_bills_289 rfl rfl rfl ?_
      refine go_lconst C 290 291 0 dX6_bills_290 rfl rfl ?_
      refine go_putJ C 291 294 iw6 25 (lu25 ex) rfl 22 (by decide) tyX6 tyX6_ok nmX6 k543_ rfl rfl rfl (by decide +kernel) dX6_bills_291 rfl ?_
      refine go_nm (fun S9 hS9 => ?_)
      replace h := h S9 hS9
      refine go_aload_n C 294 295 0 0 dX6_bills_294 rfl rfl rfl ?_
      refine go_iconst C 295 296 (0) dX6_bills_295 (by decide) rfl ?_
      refine go_vv C 296 299 0 0 [.int (0 : Int32)] 25 (lu25 ex) rfl (c_X6_comes 10 _ _  h) k713_ k716_ k57_ k715_ k47_ qX6_comes mhX6_comes (by decide) (by decide) rfl rfl rfl rfl (Nat.le_of_ble_eq_true rfl) rfl rfl dX6_bills_296 (fun S10 h => ?_)
      exact go_vret C 299 rfl dX6_bills_299 h
    · have h := h.2 hc
      refine go_lconst C 129 130 0 dX6_bills_129 rfl rfl ?_
      refine go_lstore_n C 130 131 2 [(2, .long _), (0, .ref _), (1, .int _)] dX6_bills_130 rfl (by decide) rfl rfl ?_
      refine go_iconst C 131 132 (0) dX6_bills_131 (by decide) rfl ?_
      refine go_istore C 132 134 4 [(4, .int _), (2, .long _), (0, .ref _), (1, .int _)] dX6_bills_132 (by decide) rfl rfl ?_
      obtain ⟨fu20, h⟩ := h
      refine go_perm [2, 1, 0] rfl (L_X6_bills_134 C   (fun z14 z15 S13 h => ?_) _ _ _ _ h)
      refine go_lload_n C 175 176 2 1 dX6_bills_175 rfl rfl rfl ?_
      refine go_lconst C 176 177 0 dX6_bills_176 rfl rfl ?_
      refine go_lcmp_ne C 177 181 182 dX6_bills_177 dX6_bills_178 (by decide) rfl (fun hc => ?_) (fun hc => ?_)
      · have h := h.1 hc
        refine go_aload_n C 182 183 0 0 dX6_bills_182 rfl rfl rfl ?_
        refine go_lload_n C 183 184 2 1 dX6_bills_183 rfl rfl rfl ?_
        refine go_putJ C 184 187 iw6 25 (lu25 ex) rfl 22 (by decide) tyX6 tyX6_ok nmX6 k543_ rfl rfl rfl (by decide +kernel) dX6_bills_184 rfl ?_
        refine go_nm (fun S16 hS16 => ?_)
        replace h := h S16 hS16
        refine go_iconst C 187 188 (0) dX6_bills_187 (by decide) rfl ?_
        refine go_istore C 188 190 4 [(4, .int _), (0, .ref _), (2, .long _)] dX6_bills_188 (by decide) rfl rfl ?_
        obtain ⟨fu19, h⟩ := h
        refine go_perm [1, 0] rfl (L_X6_bills_190 C   (fun z18 S17 h => ?_) _ _ _ h)
        refine go_goto C 245 299 dX6_bills_245 (by decide) ?_
        exact go_vret C 299 rfl dX6_bills_299 h
      · have h := h.2 hc
        exact go_vret C 181 rfl dX6_bills_181 h
  · have h := h.2 hc
    refine go_aload_n C 40 41 0 0 dX6_bills_40 rfl rfl rfl ?_
    refine go_vv C 41 44 0 0 [] 25 (lu25 ex) rfl (c_X6_prices _  h) k683_ k686_ k57_ k685_ k43_ qX6_prices mhX6_prices (by decide) (by decide) rfl rfl rfl rfl (Nat.le_of_ble_eq_true rfl) rfl rfl dX6_bills_41 (fun S21 h => ?_)
    refine go_aload_n C 44 45 0 0 dX6_bills_44 rfl rfl rfl ?_
    refine go_aload_n C 45 46 0 0 dX6_bills_45 rfl rfl rfl ?_
    refine go_getJ C 46 49 iw6 25 (lu25 ex) rfl 20 (by decide) k541_ rfl rfl dX6_bills_46 rfl ?_
    refine go_putJ C 49 52 iw6 25 (lu25 ex) rfl 22 (by decide) tyX6 tyX6_ok nmX6 k543_ rfl rfl rfl (by decide +kernel) dX6_bills_49 rfl ?_
    refine go_nm (fun S23 hS23 => ?_)
    replace h := h S23 hS23
    refine go_iconst C 52 53 (0) dX6_bills_52 (by decide) rfl ?_
    refine go_istore_n C 53 54 2 [(2, .int _), (0, .ref _), (1, .int _)] dX6_bills_53 rfl (by decide) rfl rfl ?_
    obtain ⟨fu26, h⟩ := h
    refine go_perm [1, 0] rfl (L_X6_bills_54 C   (fun z25 S24 h => ?_) _ _ _ h)
    refine go_goto C 121 299 dX6_bills_121 (by decide) ?_
    exact go_vret C 299 rfl dX6_bills_299 h
-- BillHouseModel.isRule(I)Z
theorem qX6_isRule : (parseMethodDescriptor yX6_isRule.desc).map (fun d => d.parameters.length) = some 1 := by decide +kernel
theorem mhX6_isRule : yX6_isRule.cls ≠ "java/lang/invoke/MethodHandle" ∧ yX6_isRule.cls ≠ "java/lang/invoke/VarHandle" := by decide +kernel
def rX6_isRule : Room := { frames := 1, cells := 0, slots := 0, locals := 22 }
def wp_X6_isRule (S : St) (a1 : Int32) (post : Int32 → St → Prop) : Prop :=
  wp_X6_isIn S a1 (0 : Int32) (2 : Int32) (fun (r2 : Int32) (S1 : St) => (narrow .boolean (.int r2) = .int r2) ∧ post r2 S1)
set_option maxHeartbeats 4000000 in
set_option maxRecDepth 100000 in
theorem c_X6_isRule {l : Launch} {D : va_G} {cA : Nat → ClassId} {ad : Nat → Nat} {ex : List Lay} (S : St) (a1 : Int32)  {post : Int32 → St → Prop} (h : wp_X6_isRule S a1 post) : MetI l yX6_isRule cX6_isRule 1 (some .boolean) rX6_isRule D cA ad (LU ++ ex) [.int a1] S post 0 0 := by
  refine MetI.of (by decide) (Nat.le_of_ble_eq_true rfl) ?_
  intro p e s m args below meth c C
  unfold wp_X6_isRule at h
  show Go p l e rX6_isRule s m args below meth c D cA ad (LU ++ ex) 1 0 0 _ S 0 [(0, .int a1)] []
  replace C : Cx p s m args meth c cX6_isRule 1 (some .boolean) RX6 D cA ad (LU ++ ex) := C
  refine go_iload_n C 0 1 0 0 dX6_isRule_0 rfl rfl rfl ?_
  refine go_iconst C 1 2 (0) dX6_isRule_1 (by decide) rfl ?_
  refine go_iconst C 2 3 (2) dX6_isRule_2 (by decide) rfl ?_
  refine go_si C 3 6 0 0 [.int a1, .int (0 : Int32), .int (2 : Int32)] (c_X6_isIn _ _ _ _  h) k605_ k607_ k57_ k606_ qX6_isIn mhX6_isIn (by decide) (by decide) rfl rfl rfl rfl (Nat.le_of_ble_eq_true rfl) rfl rfl dX6_isRule_3 (fun r2 S1 h => ?_)
  exact go_zret C 6 h.1 rfl dX6_isRule_6 h.2
-- BillHouseModel.bill(III)J
theorem qX6_bill : (parseMethodDescriptor yX6_bill.desc).map (fun d => d.parameters.length) = some 3 := by decide +kernel
theorem mhX6_bill : yX6_bill.cls ≠ "java/lang/invoke/MethodHandle" ∧ yX6_bill.cls ≠ "java/lang/invoke/VarHandle" := by decide +kernel
def rX6_bill : Room := { frames := 12, cells := 0, slots := 0, locals := 311 }
def wp_X6_bill (S : St) (a1 : Int32) (a2 : Int32) (a3 : Int32) (post : Int64 → St → Prop) : Prop :=
  ∀ S1 : St, S1 = uI S 25 0 (0 : Int32) → wp_X6_isRule S1 a1 (fun (r3 : Int32) (S2 : St) => (r3 = 0 → post (-1000000000000 : Int64) S2) ∧ (¬ (r3 = 0) → wp_X6_isThere S2 a2 (fun (r5 : Int32) (S4 : St) => (r5 = 0 → post (-1000000000000 : Int64) S4) ∧ (¬ (r5 = 0) → wp_X6_isIn S4 a3 (0 : Int32) (1 : Int32) (fun (r7 : Int32) (S6 : St) => (¬ r7 = 0 → wp_X6_bills S6 a1 (fun (S8 : St) => (vp_in a2 8) ∧ ((vp_in a2 8) ∧ (wp_X6_part S8 ((S8.2 40 a2.toNatClampNeg) + (((S8.1 30 a2.toNatClampNeg).toInt64) * (S8.2 25 22))) (S8.2 25 22) a3 (fun (r13 : Int64) (S12 : St) => post r13 S12))))) ∧ (r7 = 0 → post (-1000000000000 : Int64) S6))))))
set_option maxHeartbeats 4000000 in
set_option maxRecDepth 100000 in
theorem c_X6_bill {l : Launch} {D : va_G} {cA : Nat → ClassId} {ad : Nat → Nat} {ex : List Lay} (S : St) (a1 : Int32) (a2 : Int32) (a3 : Int32)  {post : Int64 → St → Prop} (h : wp_X6_bill S a1 a2 a3 post) : MetL l yX6_bill cX6_bill 4 (some .long) rX6_bill D cA ad (LU ++ ex) [.ref (ad 25), .int a1, .int a2, .int a3] S post 0 0 := by
  refine MetL.of (by decide) (Nat.le_of_ble_eq_true rfl) ?_
  intro p e s m args below meth c C
  unfold wp_X6_bill at h
  show Go p l e rX6_bill s m args below meth c D cA ad (LU ++ ex) 4 0 0 _ S 0 [(0, .ref (ad 25)), (1, .int a1), (2, .int a2), (3, .int a3)] []
  replace C : Cx p s m args meth c cX6_bill 4 (some .long) RX6 D cA ad (LU ++ ex) := C
  refine go_aload_n C 0 1 0 0 dX6_bill_0 rfl rfl rfl ?_
  refine go_iconst C 1 2 (0) dX6_bill_1 (by decide) rfl ?_
  refine go_putI C 2 5 iw6 25 (lu25 ex) rfl 0 (by decide) tyX6 tyX6_ok nmX6 k521_ rfl rfl rfl (by decide +kernel) dX6_bill_2 rfl ?_
  refine go_nm (fun S1 hS1 => ?_)
  replace h := h S1 hS1
  refine go_iload_n C 5 6 1 1 dX6_bill_5 rfl rfl rfl ?_
  refine go_si C 6 9 0 0 [.int a1] (c_X6_isRule _ _  h) k702_ k704_ k57_ k703_ qX6_isRule mhX6_isRule (by decide) (by decide) rfl rfl rfl rfl (Nat.le_of_ble_eq_true rfl) rfl rfl dX6_bill_6 (fun r3 S2 h => ?_)
  refine go_if_eq C 9 12 29 dX6_bill_9 (by decide) rfl (fun hc => ?_) (fun hc => ?_)
  · have h := h.1 hc
    refine go_ldc2 C 29 32 k682_ dX6_bill_29 rfl ?_
    exact go_lret C 32 rfl dX6_bill_32 h
  · have h := h.2 hc
    refine go_aload_n C 12 13 0 0 dX6_bill_12 rfl rfl rfl ?_
    refine go_iload_n C 13 14 2 2 dX6_bill_13 rfl rfl rfl ?_
    refine go_vi C 14 17 0 0 [.int a2] 25 (lu25 ex) rfl (c_X6_isThere _ _  h) k705_ k708_ k57_ k707_ k45_ qX6_isThere mhX6_isThere (by decide) (by decide) rfl rfl rfl rfl (Nat.le_of_ble_eq_true rfl) rfl rfl dX6_bill_14 (fun r5 S4 h => ?_)
    refine go_if_eq C 17 20 29 dX6_bill_17 (by decide) rfl (fun hc => ?_) (fun hc => ?_)
    · have h := h.1 hc
      refine go_ldc2 C 29 32 k682_ dX6_bill_29 rfl ?_
      exact go_lret C 32 rfl dX6_bill_32 h
    · have h := h.2 hc
      refine go_iload_n C 20 21 3 3 dX6_bill_20 rfl rfl rfl ?_
      refine go_iconst C 21 22 (0) dX6_bill_21 (by decide) rfl ?_
      refine go_iconst C 22 23 (1) dX6_bill_22 (by decide) rfl ?_
      refine go_si C 23 26 0 0 [.int a3, .int (0 : Int32), .int (1 : Int32)] (c_X6_isIn _ _ _ _  h) k605_ k607_ k57_ k606_ qX6_isIn mhX6_isIn (by decide) (by decide) rfl rfl rfl rfl (Nat.le_of_ble_eq_true rfl) rfl rfl dX6_bill_23 (fun r7 S6 h => ?_)
      refine go_if_ne C 26 29 33 dX6_bill_26 (by decide) rfl (fun hc => ?_) (fun hc => ?_)
      · have h := h.1 hc
        refine go_aload_n C 33 34 0 0 dX6_bill_33 rfl rfl rfl ?_
        refine go_iload_n C 34 35 1 1 dX6_bill_34 rfl rfl rfl ?_
        refine go_vv C 35 38 0 0 [.int a1] 25 (lu25 ex) rfl (c_X6_bills _ _  h) k709_ k712_ k57_ k711_ k46_ qX6_bills mhX6_bills (by decide) (by decide) rfl rfl rfl rfl (Nat.le_of_ble_eq_true rfl) rfl rfl dX6_bill_35 (fun S8 h => ?_)
        refine go_aload_n C 38 39 0 0 dX6_bill_38 rfl rfl rfl ?_
        refine go_getR C 39 42 iw6 25 (lu25 ex) rfl 21 (by decide) k542_ rfl rfl dX6_bill_39 rfl ?_
        refine go_iload_n C 42 43 2 2 dX6_bill_42 rfl rfl rfl ?_
        obtain ⟨hi10, h⟩ := h
        refine go_lald C 43 44 40 (lu40 ex) hi10 dX6_bill_43 rfl ?_
        refine go_aload_n C 44 45 0 0 dX6_bill_44 rfl rfl rfl ?_
        refine go_getR C 45 48 iw6 25 (lu25 ex) rfl 5 (by decide) k526_ rfl rfl dX6_bill_45 rfl ?_
        refine go_iload_n C 48 49 2 2 dX6_bill_48 rfl rfl rfl ?_
        obtain ⟨hi11, h⟩ := h
        refine go_iald C 49 50 30 (lu30 ex) hi11 dX6_bill_49 rfl ?_
        refine go_i2l C 50 51 dX6_bill_50 rfl ?_
        refine go_aload_n C 51 52 0 0 dX6_bill_51 rfl rfl rfl ?_
        refine go_getJ C 52 55 iw6 25 (lu25 ex) rfl 22 (by decide) k543_ rfl rfl dX6_bill_52 rfl ?_
        refine go_lmul C 55 56 dX6_bill_55 rfl ?_
        refine go_ladd C 56 57 dX6_bill_56 rfl ?_
        refine go_aload_n C 57 58 0 0 dX6_bill_57 rfl rfl rfl ?_
        refine go_getJ C 58 61 iw6 25 (lu25 ex) rfl 22 (by decide) k543_ rfl rfl dX6_bill_58 rfl ?_
        refine go_iload_n C 61 62 3 3 dX6_bill_61 rfl rfl rfl ?_
        refine go_sl C 62 65 0 0 [.long ((S8.2 40 a2.toNatClampNeg) + (((S8.1 30 a2.toNatClampNeg).toInt64) * (S8.2 25 22))), .long (S8.2 25 22), .int a3] (c_X6_part _ _ _ _  h) k691_ k693_ k57_ k692_ qX6_part mhX6_part (by decide) (by decide) rfl rfl rfl rfl (Nat.le_of_ble_eq_true rfl) rfl rfl dX6_bill_62 (fun r13 S12 h => ?_)
        exact go_lret C 65 rfl dX6_bill_65 h
      · have h := h.2 hc
        refine go_ldc2 C 29 32 k682_ dX6_bill_29 rfl ?_
        exact go_lret C 32 rfl dX6_bill_32 h
-- BillHouseModel.leaving(I)I
theorem qX6_leaving : (parseMethodDescriptor yX6_leaving.desc).map (fun d => d.parameters.length) = some 1 := by decide +kernel
theorem mhX6_leaving : yX6_leaving.cls ≠ "java/lang/invoke/MethodHandle" ∧ yX6_leaving.cls ≠ "java/lang/invoke/VarHandle" := by decide +kernel
def rX6_leaving : Room := { frames := 12, cells := 0, slots := 0, locals := 311 }
def wB_X6_leaving_47 (p2 : Int32) (k rec : Int64 → Int32 → St → Prop) (v3 : Int64) (v5 : Int32) (S : St) : Prop :=
  ((S.1 25 9) ≤ v5 → k v3 v5 S) ∧ (¬ ((S.1 25 9) ≤ v5) → (¬ ((p2 >>> (v5 &&& 31)) &&& (1 : Int32)) = (1 : Int32) → ∀ x1 : Int64, x1 = (v3 + (0 : Int64)) → rec x1 (v5 + 1) S) ∧ (((p2 >>> (v5 &&& 31)) &&& (1 : Int32)) = (1 : Int32) → (vp_in v5 8) ∧ (∀ x3 : Int64, x3 = (v3 + (S.2 40 v5.toNatClampNeg)) → rec x3 (v5 + 1) S)))
def wL_X6_leaving_47 (p2 : Int32) (k : Int64 → Int32 → St → Prop) : Nat → Int64 → Int32 → St → Prop
  | 0, _, _, _ => False
  | n + 1, v3, v5, S => wB_X6_leaving_47 p2 k (wL_X6_leaving_47 p2 k n) v3 v5 S
set_option maxHeartbeats 4000000 in
set_option maxRecDepth 100000 in
theorem L_X6_leaving_47 {p : Program} {l : Launch} {e : Env} {s : State} {m : MethodId} {args : Array Value} {below : List Frame} {meth : Method} {c : Code} {D : va_G} {cA : Nat → ClassId} {ad : Nat → Nat} {ex : List Lay} {Q : State → Prop} (C : Cx p s m args meth c cX6_leaving 6 (some .int) RX6 D cA ad (LU ++ ex))   (p2 : Int32) {k : Int64 → Int32 → St → Prop} (hk : ∀ (v3 : Int64) (v5 : Int32) (S : St), k v3 v5 S → Go p l e rX6_leaving s m args below meth c D cA ad (LU ++ ex) 6 0 0 Q S 86 [(0, .ref (ad 25)), (2, .int p2), (3, .long v3)] []) : ∀ (n : Nat) (v3 : Int64) (v5 : Int32) (S : St), wL_X6_leaving_47 p2 k n v3 v5 S → Go p l e rX6_leaving s m args below meth c D cA ad (LU ++ ex) 6 0 0 Q S 47 [(0, .ref (ad 25)), (2, .int p2), (3, .long v3), (5, .int v5)] [] := by
  intro n
  induction n with
  | zero => intro v3 v5 S h; exact h.elim
  | succ n ih =>
    intro v3 v5 S h
    replace h : wB_X6_leaving_47 p2 k (wL_X6_leaving_47 p2 k n) v3 v5 S := h
    unfold wB_X6_leaving_47 at h
    refine go_iload C 47 49 5 3 dX6_leaving_47 rfl rfl ?_
    refine go_aload_n C 49 50 0 0 dX6_leaving_49 rfl rfl rfl ?_
    refine go_getI C 50 53 iw6 25 (lu25 ex) rfl 9 (by decide) k530_ rfl rfl dX6_leaving_50 rfl ?_
    refine go_icmp_ge C 53 56 86 dX6_leaving_53 (by decide) rfl (fun hc => ?_) (fun hc => ?_)
    · have h := h.1 hc
      exact go_perm [0, 1, 2] rfl (hk _ _ _ h)
    · have h := h.2 hc
      refine go_lload_n C 56 57 3 2 dX6_leaving_56 rfl rfl rfl ?_
      refine go_iload_n C 57 58 2 1 dX6_leaving_57 rfl rfl rfl ?_
      refine go_iload C 58 60 5 3 dX6_leaving_58 rfl rfl ?_
      refine go_ishr C 60 61 dX6_leaving_60 rfl ?_
      refine go_iconst C 61 62 (1) dX6_leaving_61 (by decide) rfl ?_
      refine go_iand C 62 63 dX6_leaving_62 rfl ?_
      refine go_iconst C 63 64 (1) dX6_leaving_63 (by decide) rfl ?_
      refine go_icmp_ne C 64 67 77 dX6_leaving_64 (by decide) rfl (fun hc => ?_) (fun hc => ?_)
      · have h := h.1 hc
        refine go_lconst C 77 78 0 dX6_leaving_77 rfl rfl ?_
        refine go_ladd C 78 79 dX6_leaving_78 rfl ?_
        refine go_topl (fun x1 hx1 => ?_)
        replace h := h x1 hx1
        refine go_lstore_n C 79 80 3 [(3, .long _), (0, .ref _), (2, .int _), (5, .int _)] dX6_leaving_79 rfl (by decide) rfl rfl ?_
        refine go_iinc C 80 83 5 3 (v5 + 1) [(5, .int _), (3, .long _), (0, .ref _), (2, .int _)] dX6_leaving_80 rfl rfl (by decide) rfl rfl ?_
        refine go_goto C 83 47 dX6_leaving_83 (by decide) ?_
        exact go_perm [2, 3, 1, 0] rfl (ih _ _ _ h)
      · have h := h.2 hc
        refine go_aload_n C 67 68 0 0 dX6_leaving_67 rfl rfl rfl ?_
        refine go_getR C 68 71 iw6 25 (lu25 ex) rfl 21 (by decide) k542_ rfl rfl dX6_leaving_68 rfl ?_
        refine go_iload C 71 73 5 3 dX6_leaving_71 rfl rfl ?_
        obtain ⟨hi2, h⟩ := h
        refine go_lald C 73 74 40 (lu40 ex) hi2 dX6_leaving_73 rfl ?_
        refine go_goto C 74 78 dX6_leaving_74 (by decide) ?_
        refine go_ladd C 78 79 dX6_leaving_78 rfl ?_
        refine go_topl (fun x3 hx3 => ?_)
        replace h := h x3 hx3
        refine go_lstore_n C 79 80 3 [(3, .long _), (0, .ref _), (2, .int _), (5, .int _)] dX6_leaving_79 rfl (by decide) rfl rfl ?_
        refine go_iinc C 80 83 5 3 (v5 + 1) [(5, .int _), (3, .long _), (0, .ref _), (2, .int _)] dX6_leaving_80 rfl rfl (by decide) rfl rfl ?_
        refine go_goto C 83 47 dX6_leaving_83 (by decide) ?_
        exact go_perm [2, 3, 1, 0] rfl (ih _ _ _ h)
def wB_X6_leaving_21 (post : Int32 → St → Prop) (k rec : Int32 → St → Prop) (v2 : Int32) (S : St) : Prop :=
  ((256 : Int32) ≤ v2 → k v2 S) ∧ (¬ ((256 : Int32) ≤ v2) → ((v2 &&& ((S.1 25 24) ^^^ (-1 : Int32))) = 0 → ∃ fu6, wL_X6_leaving_47 v2 (fun (z2 : Int64) (z3 : Int32) (S1 : St) => wp_X6_costOf S1 v2 (fun (r5 : Int32) (S4 : St) => (z2 ≤ (r5.toInt64 * (S4.2 25 22)) → rec (v2 + 1) S4) ∧ (¬ (z2 ≤ (r5.toInt64 * (S4.2 25 22))) → post v2 S4))) fu6 (0 : Int64) (0 : Int32) S) ∧ (¬ ((v2 &&& ((S.1 25 24) ^^^ (-1 : Int32))) = 0) → rec (v2 + 1) S))
def wL_X6_leaving_21 (post : Int32 → St → Prop) (k : Int32 → St → Prop) : Nat → Int32 → St → Prop
  | 0, _, _ => False
  | n + 1, v2, S => wB_X6_leaving_21 post k (wL_X6_leaving_21 post k n) v2 S
set_option maxHeartbeats 4000000 in
set_option maxRecDepth 100000 in
theorem L_X6_leaving_21 {p : Program} {l : Launch} {e : Env} {s : State} {m : MethodId} {args : Array Value} {below : List Frame} {meth : Method} {c : Code} {D : va_G} {cA : Nat → ClassId} {ad : Nat → Nat} {ex : List Lay} {post : Int32 → St → Prop} (C : Cx p s m args meth c cX6_leaving 6 (some .int) RX6 D cA ad (LU ++ ex))   {k : Int32 → St → Prop} (hk : ∀ (v2 : Int32) (S : St), k v2 S → Go p l e rX6_leaving s m args below meth c D cA ad (LU ++ ex) 6 0 0 (QI D cA ad (LU ++ ex) below args s 0 0 post) S 110 [] []) : ∀ (n : Nat) (v2 : Int32) (S : St), wL_X6_leaving_21 post k n v2 S → Go p l e rX6_leaving s m args below meth c D cA ad (LU ++ ex) 6 0 0 (QI D cA ad (LU ++ ex) below args s 0 0 post) S 21 [(0, .ref (ad 25)), (2, .int v2)] [] := by
  intro n
  induction n with
  | zero => intro v2 S h; exact h.elim
  | succ n ih =>
    intro v2 S h
    replace h : wB_X6_leaving_21 post k (wL_X6_leaving_21 post k n) v2 S := h
    unfold wB_X6_leaving_21 at h
    refine go_iload_n C 21 22 2 1 dX6_leaving_21 rfl rfl rfl ?_
    refine go_sipush C 22 25 (256) dX6_leaving_22 (by decide) rfl ?_
    refine go_icmp_ge C 25 28 110 dX6_leaving_25 (by decide) rfl (fun hc => ?_) (fun hc => ?_)
    · have h := h.1 hc
      exact go_perm [] rfl (hk _ _ h)
    · have h := h.2 hc
      refine go_iload_n C 28 29 2 1 dX6_leaving_28 rfl rfl rfl ?_
      refine go_aload_n C 29 30 0 0 dX6_leaving_29 rfl rfl rfl ?_
      refine go_getI C 30 33 iw6 25 (lu25 ex) rfl 24 (by decide) k545_ rfl rfl dX6_leaving_30 rfl ?_
      refine go_iconst C 33 34 (-1) dX6_leaving_33 (by decide) rfl ?_
      refine go_ixor C 34 35 dX6_leaving_34 rfl ?_
      refine go_iand C 35 36 dX6_leaving_35 rfl ?_
      refine go_if_eq C 36 39 42 dX6_leaving_36 (by decide) rfl (fun hc => ?_) (fun hc => ?_)
      · have h := h.1 hc
        refine go_lconst C 42 43 0 dX6_leaving_42 rfl rfl ?_
        refine go_lstore_n C 43 44 3 [(3, .long _), (0, .ref _), (2, .int _)] dX6_leaving_43 rfl (by decide) rfl rfl ?_
        refine go_iconst C 44 45 (0) dX6_leaving_44 (by decide) rfl ?_
        refine go_istore C 45 47 5 [(5, .int _), (3, .long _), (0, .ref _), (2, .int _)] dX6_leaving_45 (by decide) rfl rfl ?_
        obtain ⟨fu6, h⟩ := h
        refine go_perm [2, 3, 1, 0] rfl (L_X6_leaving_47 C   _ (fun z2 z3 S1 h => ?_) _ _ _ _ h)
        refine go_lload_n C 86 87 3 2 dX6_leaving_86 rfl rfl rfl ?_
        refine go_aload_n C 87 88 0 0 dX6_leaving_87 rfl rfl rfl ?_
        refine go_iload_n C 88 89 2 1 dX6_leaving_88 rfl rfl rfl ?_
        refine go_vi C 89 92 0 0 [.int v2] 25 (lu25 ex) rfl (c_X6_costOf _ _  h) k670_ k673_ k57_ k672_ k41_ qX6_costOf mhX6_costOf (by decide) (by decide) rfl rfl rfl rfl (Nat.le_of_ble_eq_true rfl) rfl rfl dX6_leaving_89 (fun r5 S4 h => ?_)
        refine go_i2l C 92 93 dX6_leaving_92 rfl ?_
        refine go_aload_n C 93 94 0 0 dX6_leaving_93 rfl rfl rfl ?_
        refine go_getJ C 94 97 iw6 25 (lu25 ex) rfl 22 (by decide) k543_ rfl rfl dX6_leaving_94 rfl ?_
        refine go_lmul C 97 98 dX6_leaving_97 rfl ?_
        refine go_lcmp_le C 98 102 104 dX6_leaving_98 dX6_leaving_99 (by decide) rfl (fun hc => ?_) (fun hc => ?_)
        · have h := h.1 hc
          refine go_iinc C 104 107 2 1 (v2 + 1) [(2, .int _), (0, .ref _), (3, .long _)] dX6_leaving_104 rfl rfl (by decide) rfl rfl ?_
          refine go_goto C 107 21 dX6_leaving_107 (by decide) ?_
          exact go_perm [1, 0] rfl (ih _ _ h)
        · have h := h.2 hc
          refine go_iload_n C 102 103 2 1 dX6_leaving_102 rfl rfl rfl ?_
          exact go_iret C 103 rfl dX6_leaving_103 h
      · have h := h.2 hc
        refine go_goto C 39 104 dX6_leaving_39 (by decide) ?_
        refine go_iinc C 104 107 2 1 (v2 + 1) [(2, .int _), (0, .ref _)] dX6_leaving_104 rfl rfl (by decide) rfl rfl ?_
        refine go_goto C 107 21 dX6_leaving_107 (by decide) ?_
        exact go_perm [1, 0] rfl (ih _ _ h)
def wp_X6_leaving (S : St) (a1 : Int32) (post : Int32 → St → Prop) : Prop :=
  ∀ S1 : St, S1 = uI S 25 0 (0 : Int32) → wp_X6_isRule S1 a1 (fun (r3 : Int32) (S2 : St) => (¬ r3 = 0 → wp_X6_bills S2 a1 (fun (S4 : St) => ∃ fu8, wL_X6_leaving_21 post (fun (z7 : Int32) (S6 : St) => post (0 : Int32) S6) fu8 (1 : Int32) S4)) ∧ (r3 = 0 → post (-1 : Int32) S2))
set_option maxHeartbeats 4000000 in
set_option maxRecDepth 100000 in
theorem c_X6_leaving {l : Launch} {D : va_G} {cA : Nat → ClassId} {ad : Nat → Nat} {ex : List Lay} (S : St) (a1 : Int32)  {post : Int32 → St → Prop} (h : wp_X6_leaving S a1 post) : MetI l yX6_leaving cX6_leaving 6 (some .int) rX6_leaving D cA ad (LU ++ ex) [.ref (ad 25), .int a1] S post 0 0 := by
  refine MetI.of (by decide) (Nat.le_of_ble_eq_true rfl) ?_
  intro p e s m args below meth c C
  unfold wp_X6_leaving at h
  show Go p l e rX6_leaving s m args below meth c D cA ad (LU ++ ex) 6 0 0 _ S 0 [(0, .ref (ad 25)), (1, .int a1)] []
  replace C : Cx p s m args meth c cX6_leaving 6 (some .int) RX6 D cA ad (LU ++ ex) := C
  refine go_aload_n C 0 1 0 0 dX6_leaving_0 rfl rfl rfl ?_
  refine go_iconst C 1 2 (0) dX6_leaving_1 (by decide) rfl ?_
  refine go_putI C 2 5 iw6 25 (lu25 ex) rfl 0 (by decide) tyX6 tyX6_ok nmX6 k521_ rfl rfl rfl (by decide +kernel) dX6_leaving_2 rfl ?_
  refine go_nm (fun S1 hS1 => ?_)
  replace h := h S1 hS1
  refine go_iload_n C 5 6 1 1 dX6_leaving_5 rfl rfl rfl ?_
  refine go_si C 6 9 0 0 [.int a1] (c_X6_isRule _ _  h) k702_ k704_ k57_ k703_ qX6_isRule mhX6_isRule (by decide) (by decide) rfl rfl rfl rfl (Nat.le_of_ble_eq_true rfl) rfl rfl dX6_leaving_6 (fun r3 S2 h => ?_)
  refine go_if_ne C 9 12 14 dX6_leaving_9 (by decide) rfl (fun hc => ?_) (fun hc => ?_)
  · have h := h.1 hc
    refine go_aload_n C 14 15 0 0 dX6_leaving_14 rfl rfl rfl ?_
    refine go_iload_n C 15 16 1 1 dX6_leaving_15 rfl rfl rfl ?_
    refine go_vv C 16 19 0 0 [.int a1] 25 (lu25 ex) rfl (c_X6_bills _ _  h) k709_ k712_ k57_ k711_ k46_ qX6_bills mhX6_bills (by decide) (by decide) rfl rfl rfl rfl (Nat.le_of_ble_eq_true rfl) rfl rfl dX6_leaving_16 (fun S4 h => ?_)
    refine go_iconst C 19 20 (1) dX6_leaving_19 (by decide) rfl ?_
    refine go_istore_n C 20 21 2 [(2, .int _), (0, .ref _), (1, .int _)] dX6_leaving_20 rfl (by decide) rfl rfl ?_
    obtain ⟨fu8, h⟩ := h
    refine go_perm [1, 0] rfl (L_X6_leaving_21 C   (fun z7 S6 h => ?_) _ _ _ h)
    refine go_iconst C 110 111 (0) dX6_leaving_110 (by decide) rfl ?_
    exact go_iret C 111 rfl dX6_leaving_111 h
  · have h := h.2 hc
    refine go_iconst C 12 13 (-1) dX6_leaving_12 (by decide) rfl ?_
    exact go_iret C 13 rfl dX6_leaving_13 h
-- BillHouseModel.saved(I)I
theorem qX6_saved : (parseMethodDescriptor yX6_saved.desc).map (fun d => d.parameters.length) = some 1 := by decide +kernel
theorem mhX6_saved : yX6_saved.cls ≠ "java/lang/invoke/MethodHandle" ∧ yX6_saved.cls ≠ "java/lang/invoke/VarHandle" := by decide +kernel
def rX6_saved : Room := { frames := 2, cells := 0, slots := 0, locals := 49 }
def wp_X6_saved (S : St) (a1 : Int32) (post : Int32 → St → Prop) : Prop :=
  ∀ S1 : St, S1 = uI S 25 0 (0 : Int32) → wp_X6_isThere S1 a1 (fun (r3 : Int32) (S2 : St) => (r3 = 0 → post (-1 : Int32) S2) ∧ (¬ (r3 = 0) → wp_X6_thereSet S2 (fun (r5 : Int32) (S4 : St) => wp_X6_costOf S4 r5 (fun (r7 : Int32) (S6 : St) => wp_X6_thereSet S6 (fun (r9 : Int32) (S8 : St) => wp_X6_costOf S8 (r9 &&& (((1 : Int32) <<< (a1 &&& 31)) ^^^ (-1 : Int32))) (fun (r11 : Int32) (S10 : St) => post (r7 - r11) S10))))))
set_option maxHeartbeats 4000000 in
set_option maxRecDepth 100000 in
theorem c_X6_saved {l : Launch} {D : va_G} {cA : Nat → ClassId} {ad : Nat → Nat} {ex : List Lay} (S : St) (a1 : Int32)  {post : Int32 → St → Prop} (h : wp_X6_saved S a1 post) : MetI l yX6_saved cX6_saved 2 (some .int) rX6_saved D cA ad (LU ++ ex) [.ref (ad 25), .int a1] S post 0 0 := by
  refine MetI.of (by decide) (Nat.le_of_ble_eq_true rfl) ?_
  intro p e s m args below meth c C
  unfold wp_X6_saved at h
  show Go p l e rX6_saved s m args below meth c D cA ad (LU ++ ex) 2 0 0 _ S 0 [(0, .ref (ad 25)), (1, .int a1)] []
  replace C : Cx p s m args meth c cX6_saved 2 (some .int) RX6 D cA ad (LU ++ ex) := C
  refine go_aload_n C 0 1 0 0 dX6_saved_0 rfl rfl rfl ?_
  refine go_iconst C 1 2 (0) dX6_saved_1 (by decide) rfl ?_
  refine go_putI C 2 5 iw6 25 (lu25 ex) rfl 0 (by decide) tyX6 tyX6_ok nmX6 k521_ rfl rfl rfl (by decide +kernel) dX6_saved_2 rfl ?_
  refine go_nm (fun S1 hS1 => ?_)
  replace h := h S1 hS1
  refine go_aload_n C 5 6 0 0 dX6_saved_5 rfl rfl rfl ?_
  refine go_iload_n C 6 7 1 1 dX6_saved_6 rfl rfl rfl ?_
  refine go_vi C 7 10 0 0 [.int a1] 25 (lu25 ex) rfl (c_X6_isThere _ _  h) k705_ k708_ k57_ k707_ k45_ qX6_isThere mhX6_isThere (by decide) (by decide) rfl rfl rfl rfl (Nat.le_of_ble_eq_true rfl) rfl rfl dX6_saved_7 (fun r3 S2 h => ?_)
  refine go_if_eq C 10 13 39 dX6_saved_10 (by decide) rfl (fun hc => ?_) (fun hc => ?_)
  · have h := h.1 hc
    refine go_iconst C 39 40 (-1) dX6_saved_39 (by decide) rfl ?_
    exact go_iret C 40 rfl dX6_saved_40 h
  · have h := h.2 hc
    refine go_aload_n C 13 14 0 0 dX6_saved_13 rfl rfl rfl ?_
    refine go_aload_n C 14 15 0 0 dX6_saved_14 rfl rfl rfl ?_
    refine go_vi C 15 18 0 0 [] 25 (lu25 ex) rfl (c_X6_thereSet _  h) k646_ k649_ k57_ k648_ k38_ qX6_thereSet mhX6_thereSet (by decide) (by decide) rfl rfl rfl rfl (Nat.le_of_ble_eq_true rfl) rfl rfl dX6_saved_15 (fun r5 S4 h => ?_)
    refine go_vi C 18 21 0 0 [.int r5] 25 (lu25 ex) rfl (c_X6_costOf _ _  h) k670_ k673_ k57_ k672_ k41_ qX6_costOf mhX6_costOf (by decide) (by decide) rfl rfl rfl rfl (Nat.le_of_ble_eq_true rfl) rfl rfl dX6_saved_18 (fun r7 S6 h => ?_)
    refine go_aload_n C 21 22 0 0 dX6_saved_21 rfl rfl rfl ?_
    refine go_aload_n C 22 23 0 0 dX6_saved_22 rfl rfl rfl ?_
    refine go_vi C 23 26 0 0 [] 25 (lu25 ex) rfl (c_X6_thereSet _  h) k646_ k649_ k57_ k648_ k38_ qX6_thereSet mhX6_thereSet (by decide) (by decide) rfl rfl rfl rfl (Nat.le_of_ble_eq_true rfl) rfl rfl dX6_saved_23 (fun r9 S8 h => ?_)
    refine go_iconst C 26 27 (1) dX6_saved_26 (by decide) rfl ?_
    refine go_iload_n C 27 28 1 1 dX6_saved_27 rfl rfl rfl ?_
    refine go_ishl C 28 29 dX6_saved_28 rfl ?_
    refine go_iconst C 29 30 (-1) dX6_saved_29 (by decide) rfl ?_
    refine go_ixor C 30 31 dX6_saved_30 rfl ?_
    refine go_iand C 31 32 dX6_saved_31 rfl ?_
    refine go_vi C 32 35 0 0 [.int (r9 &&& (((1 : Int32) <<< (a1 &&& 31)) ^^^ (-1 : Int32)))] 25 (lu25 ex) rfl (c_X6_costOf _ _  h) k670_ k673_ k57_ k672_ k41_ qX6_costOf mhX6_costOf (by decide) (by decide) rfl rfl rfl rfl (Nat.le_of_ble_eq_true rfl) rfl rfl dX6_saved_32 (fun r11 S10 h => ?_)
    refine go_isub C 35 36 dX6_saved_35 rfl ?_
    refine go_goto C 36 40 dX6_saved_36 (by decide) ?_
    exact go_iret C 40 rfl dX6_saved_40 h
-- BillHouseModel.booked(I)I
theorem qX6_booked : (parseMethodDescriptor yX6_booked.desc).map (fun d => d.parameters.length) = some 1 := by decide +kernel
theorem mhX6_booked : yX6_booked.cls ≠ "java/lang/invoke/MethodHandle" ∧ yX6_booked.cls ≠ "java/lang/invoke/VarHandle" := by decide +kernel
def rX6_booked : Room := { frames := 1, cells := 0, slots := 0, locals := 21 }
def wp_X6_booked (S : St) (a1 : Int32) (post : Int32 → St → Prop) : Prop :=
  ∀ S1 : St, S1 = uI S 25 0 (0 : Int32) → wp_X6_isUser S1 a1 (fun (r3 : Int32) (S2 : St) => (r3 = 0 → post (0 : Int32) S2) ∧ (¬ (r3 = 0) → (vp_in a1 8) ∧ (post (S2.1 31 a1.toNatClampNeg) S2)))
set_option maxHeartbeats 4000000 in
set_option maxRecDepth 100000 in
theorem c_X6_booked {l : Launch} {D : va_G} {cA : Nat → ClassId} {ad : Nat → Nat} {ex : List Lay} (S : St) (a1 : Int32)  {post : Int32 → St → Prop} (h : wp_X6_booked S a1 post) : MetI l yX6_booked cX6_booked 2 (some .int) rX6_booked D cA ad (LU ++ ex) [.ref (ad 25), .int a1] S post 0 0 := by
  refine MetI.of (by decide) (Nat.le_of_ble_eq_true rfl) ?_
  intro p e s m args below meth c C
  unfold wp_X6_booked at h
  show Go p l e rX6_booked s m args below meth c D cA ad (LU ++ ex) 2 0 0 _ S 0 [(0, .ref (ad 25)), (1, .int a1)] []
  replace C : Cx p s m args meth c cX6_booked 2 (some .int) RX6 D cA ad (LU ++ ex) := C
  refine go_aload_n C 0 1 0 0 dX6_booked_0 rfl rfl rfl ?_
  refine go_iconst C 1 2 (0) dX6_booked_1 (by decide) rfl ?_
  refine go_putI C 2 5 iw6 25 (lu25 ex) rfl 0 (by decide) tyX6 tyX6_ok nmX6 k521_ rfl rfl rfl (by decide +kernel) dX6_booked_2 rfl ?_
  refine go_nm (fun S1 hS1 => ?_)
  replace h := h S1 hS1
  refine go_aload_n C 5 6 0 0 dX6_booked_5 rfl rfl rfl ?_
  refine go_iload_n C 6 7 1 1 dX6_booked_6 rfl rfl rfl ?_
  refine go_vi C 7 10 0 0 [.int a1] 25 (lu25 ex) rfl (c_X6_isUser _ _  h) k624_ k627_ k57_ k626_ k37_ qX6_isUser mhX6_isUser (by decide) (by decide) rfl rfl rfl rfl (Nat.le_of_ble_eq_true rfl) rfl rfl dX6_booked_7 (fun r3 S2 h => ?_)
  refine go_if_eq C 10 13 22 dX6_booked_10 (by decide) rfl (fun hc => ?_) (fun hc => ?_)
  · have h := h.1 hc
    refine go_iconst C 22 23 (0) dX6_booked_22 (by decide) rfl ?_
    exact go_iret C 23 rfl dX6_booked_23 h
  · have h := h.2 hc
    refine go_aload_n C 13 14 0 0 dX6_booked_13 rfl rfl rfl ?_
    refine go_getR C 14 17 iw6 25 (lu25 ex) rfl 6 (by decide) k527_ rfl rfl dX6_booked_14 rfl ?_
    refine go_iload_n C 17 18 1 1 dX6_booked_17 rfl rfl rfl ?_
    obtain ⟨hi4, h⟩ := h
    refine go_iald C 18 19 31 (lu31 ex) hi4 dX6_booked_18 rfl ?_
    refine go_goto C 19 23 dX6_booked_19 (by decide) ?_
    exact go_iret C 23 rfl dX6_booked_23 h
-- BillHouseModel.line(II)I
theorem qX6_line : (parseMethodDescriptor yX6_line.desc).map (fun d => d.parameters.length) = some 2 := by decide +kernel
theorem mhX6_line : yX6_line.cls ≠ "java/lang/invoke/MethodHandle" ∧ yX6_line.cls ≠ "java/lang/invoke/VarHandle" := by decide +kernel
def rX6_line : Room := { frames := 0, cells := 0, slots := 0, locals := 0 }
def wp_X6_line (S : St) (a1 : Int32) (a2 : Int32) (post : Int32 → St → Prop) : Prop :=
  ∀ S1 : St, S1 = uI S 25 0 (0 : Int32) → (a1 < 0 → post (-1000000 : Int32) S1) ∧ (¬ (a1 < 0) → (a1 < (S1.1 25 10) → (¬ a2 = 0 → (¬ a2 = (1 : Int32) → (¬ a2 = (2 : Int32) → post (-1000000 : Int32) S1) ∧ (a2 = (2 : Int32) → (vp_in a1 400) ∧ (post (S1.1 35 a1.toNatClampNeg) S1))) ∧ (a2 = (1 : Int32) → (vp_in a1 400) ∧ (post (S1.1 34 a1.toNatClampNeg) S1))) ∧ (a2 = 0 → (vp_in a1 400) ∧ (post (S1.1 33 a1.toNatClampNeg) S1))) ∧ (¬ (a1 < (S1.1 25 10)) → post (-1000000 : Int32) S1))
set_option maxHeartbeats 4000000 in
set_option maxRecDepth 100000 in
theorem c_X6_line {l : Launch} {D : va_G} {cA : Nat → ClassId} {ad : Nat → Nat} {ex : List Lay} (S : St) (a1 : Int32) (a2 : Int32)  {post : Int32 → St → Prop} (h : wp_X6_line S a1 a2 post) : MetI l yX6_line cX6_line 3 (some .int) rX6_line D cA ad (LU ++ ex) [.ref (ad 25), .int a1, .int a2] S post 0 0 := by
  refine MetI.of (by decide) (Nat.le_of_ble_eq_true rfl) ?_
  intro p e s m args below meth c C
  unfold wp_X6_line at h
  show Go p l e rX6_line s m args below meth c D cA ad (LU ++ ex) 3 0 0 _ S 0 [(0, .ref (ad 25)), (1, .int a1), (2, .int a2)] []
  replace C : Cx p s m args meth c cX6_line 3 (some .int) RX6 D cA ad (LU ++ ex) := C
  refine go_aload_n C 0 1 0 0 dX6_line_0 rfl rfl rfl ?_
  refine go_iconst C 1 2 (0) dX6_line_1 (by decide) rfl ?_
  refine go_putI C 2 5 iw6 25 (lu25 ex) rfl 0 (by decide) tyX6 tyX6_ok nmX6 k521_ rfl rfl rfl (by decide +kernel) dX6_line_2 rfl ?_
  refine go_nm (fun S1 hS1 => ?_)
  replace h := h S1 hS1
  refine go_iload_n C 5 6 1 1 dX6_line_5 rfl rfl rfl ?_
  refine go_if_lt C 6 9 17 dX6_line_6 (by decide) rfl (fun hc => ?_) (fun hc => ?_)
  · have h := h.1 hc
    refine go_ldc C 17 19 k721_ dX6_line_17 rfl ?_
    exact go_iret C 19 rfl dX6_line_19 h
  · have h := h.2 hc
    refine go_iload_n C 9 10 1 1 dX6_line_9 rfl rfl rfl ?_
    refine go_aload_n C 10 11 0 0 dX6_line_10 rfl rfl rfl ?_
    refine go_getI C 11 14 iw6 25 (lu25 ex) rfl 10 (by decide) k531_ rfl rfl dX6_line_11 rfl ?_
    refine go_icmp_lt C 14 17 20 dX6_line_14 (by decide) rfl (fun hc => ?_) (fun hc => ?_)
    · have h := h.1 hc
      refine go_iload_n C 20 21 2 2 dX6_line_20 rfl rfl rfl ?_
      refine go_if_ne C 21 24 33 dX6_line_21 (by decide) rfl (fun hc => ?_) (fun hc => ?_)
      · have h := h.1 hc
        refine go_iload_n C 33 34 2 2 dX6_line_33 rfl rfl rfl ?_
        refine go_iconst C 34 35 (1) dX6_line_34 (by decide) rfl ?_
        refine go_icmp_ne C 35 38 47 dX6_line_35 (by decide) rfl (fun hc => ?_) (fun hc => ?_)
        · have h := h.1 hc
          refine go_iload_n C 47 48 2 2 dX6_line_47 rfl rfl rfl ?_
          refine go_iconst C 48 49 (2) dX6_line_48 (by decide) rfl ?_
          refine go_icmp_ne C 49 52 61 dX6_line_49 (by decide) rfl (fun hc => ?_) (fun hc => ?_)
          · have h := h.1 hc
            refine go_ldc C 61 63 k721_ dX6_line_61 rfl ?_
            exact go_iret C 63 rfl dX6_line_63 h
          · have h := h.2 hc
            refine go_aload_n C 52 53 0 0 dX6_line_52 rfl rfl rfl ?_
            refine go_getR C 53 56 iw6 25 (lu25 ex) rfl 14 (by decide) k535_ rfl rfl dX6_line_53 rfl ?_
            refine go_iload_n C 56 57 1 1 dX6_line_56 rfl rfl rfl ?_
            obtain ⟨hi2, h⟩ := h
            refine go_iald C 57 58 35 (lu35 ex) hi2 dX6_line_57 rfl ?_
            refine go_goto C 58 63 dX6_line_58 (by decide) ?_
            exact go_iret C 63 rfl dX6_line_63 h
        · have h := h.2 hc
          refine go_aload_n C 38 39 0 0 dX6_line_38 rfl rfl rfl ?_
          refine go_getR C 39 42 iw6 25 (lu25 ex) rfl 13 (by decide) k534_ rfl rfl dX6_line_39 rfl ?_
          refine go_iload_n C 42 43 1 1 dX6_line_42 rfl rfl rfl ?_
          obtain ⟨hi3, h⟩ := h
          refine go_iald C 43 44 34 (lu34 ex) hi3 dX6_line_43 rfl ?_
          refine go_goto C 44 63 dX6_line_44 (by decide) ?_
          exact go_iret C 63 rfl dX6_line_63 h
      · have h := h.2 hc
        refine go_aload_n C 24 25 0 0 dX6_line_24 rfl rfl rfl ?_
        refine go_getR C 25 28 iw6 25 (lu25 ex) rfl 12 (by decide) k533_ rfl rfl dX6_line_25 rfl ?_
        refine go_iload_n C 28 29 1 1 dX6_line_28 rfl rfl rfl ?_
        obtain ⟨hi4, h⟩ := h
        refine go_iald C 29 30 33 (lu33 ex) hi4 dX6_line_29 rfl ?_
        refine go_goto C 30 63 dX6_line_30 (by decide) ?_
        exact go_iret C 63 rfl dX6_line_63 h
    · have h := h.2 hc
      refine go_ldc C 17 19 k721_ dX6_line_17 rfl ?_
      exact go_iret C 19 rfl dX6_line_19 h
-- BillHouseModel.count(I)I
theorem qX6_count : (parseMethodDescriptor yX6_count.desc).map (fun d => d.parameters.length) = some 1 := by decide +kernel
theorem mhX6_count : yX6_count.cls ≠ "java/lang/invoke/MethodHandle" ∧ yX6_count.cls ≠ "java/lang/invoke/VarHandle" := by decide +kernel
def rX6_count : Room := { frames := 1, cells := 0, slots := 0, locals := 22 }
def wB_X6_count_82 (k rec : Int32 → Int32 → St → Prop) (v2 : Int32) (v3 : Int32) (S : St) : Prop :=
  ((S.1 25 9) ≤ v3 → k v2 v3 S) ∧ (¬ ((S.1 25 9) ≤ v3) → (vp_in v3 8) ∧ (((S.1 32 v3.toNatClampNeg) = 0 → ∀ x2 : Int32, x2 = (v2 + (0 : Int32)) → rec x2 (v3 + 1) S) ∧ (¬ ((S.1 32 v3.toNatClampNeg) = 0) → (vp_in v3 8) ∧ (∀ x4 : Int32, x4 = (v2 + (S.1 30 v3.toNatClampNeg)) → rec x4 (v3 + 1) S))))
def wL_X6_count_82 (k : Int32 → Int32 → St → Prop) : Nat → Int32 → Int32 → St → Prop
  | 0, _, _, _ => False
  | n + 1, v2, v3, S => wB_X6_count_82 k (wL_X6_count_82 k n) v2 v3 S
set_option maxHeartbeats 4000000 in
set_option maxRecDepth 100000 in
theorem L_X6_count_82 {p : Program} {l : Launch} {e : Env} {s : State} {m : MethodId} {args : Array Value} {below : List Frame} {meth : Method} {c : Code} {D : va_G} {cA : Nat → ClassId} {ad : Nat → Nat} {ex : List Lay} {Q : State → Prop} (C : Cx p s m args meth c cX6_count 4 (some .int) RX6 D cA ad (LU ++ ex))   {k : Int32 → Int32 → St → Prop} (hk : ∀ (v2 : Int32) (v3 : Int32) (S : St), k v2 v3 S → Go p l e rX6_count s m args below meth c D cA ad (LU ++ ex) 4 0 0 Q S 118 [(2, .int v2)] []) : ∀ (n : Nat) (v2 : Int32) (v3 : Int32) (S : St), wL_X6_count_82 k n v2 v3 S → Go p l e rX6_count s m args below meth c D cA ad (LU ++ ex) 4 0 0 Q S 82 [(0, .ref (ad 25)), (2, .int v2), (3, .int v3)] [] := by
  intro n
  induction n with
  | zero => intro v2 v3 S h; exact h.elim
  | succ n ih =>
    intro v2 v3 S h
    replace h : wB_X6_count_82 k (wL_X6_count_82 k n) v2 v3 S := h
    unfold wB_X6_count_82 at h
    refine go_iload_n C 82 83 3 2 dX6_count_82 rfl rfl rfl ?_
    refine go_aload_n C 83 84 0 0 dX6_count_83 rfl rfl rfl ?_
    refine go_getI C 84 87 iw6 25 (lu25 ex) rfl 9 (by decide) k530_ rfl rfl dX6_count_84 rfl ?_
    refine go_icmp_ge C 87 90 118 dX6_count_87 (by decide) rfl (fun hc => ?_) (fun hc => ?_)
    · have h := h.1 hc
      exact go_perm [1] rfl (hk _ _ _ h)
    · have h := h.2 hc
      refine go_iload_n C 90 91 2 1 dX6_count_90 rfl rfl rfl ?_
      refine go_aload_n C 91 92 0 0 dX6_count_91 rfl rfl rfl ?_
      refine go_getR C 92 95 iw6 25 (lu25 ex) rfl 7 (by decide) k528_ rfl rfl dX6_count_92 rfl ?_
      refine go_iload_n C 95 96 3 2 dX6_count_95 rfl rfl rfl ?_
      obtain ⟨hi1, h⟩ := h
      refine go_zald C 96 97 32 (lu32 ex) hi1 dX6_count_96 rfl ?_
      refine go_if_eq C 97 100 109 dX6_count_97 (by decide) rfl (fun hc => ?_) (fun hc => ?_)
      · have h := h.1 hc
        refine go_iconst C 109 110 (0) dX6_count_109 (by decide) rfl ?_
        refine go_iadd C 110 111 dX6_count_110 rfl ?_
        refine go_topi (fun x2 hx2 => ?_)
        replace h := h x2 hx2
        refine go_istore_n C 111 112 2 [(2, .int _), (0, .ref _), (3, .int _)] dX6_count_111 rfl (by decide) rfl rfl ?_
        refine go_iinc C 112 115 3 2 (v3 + 1) [(3, .int _), (2, .int _), (0, .ref _)] dX6_count_112 rfl rfl (by decide) rfl rfl ?_
        refine go_goto C 115 82 dX6_count_115 (by decide) ?_
        exact go_perm [2, 1, 0] rfl (ih _ _ _ h)
      · have h := h.2 hc
        refine go_aload_n C 100 101 0 0 dX6_count_100 rfl rfl rfl ?_
        refine go_getR C 101 104 iw6 25 (lu25 ex) rfl 5 (by decide) k526_ rfl rfl dX6_count_101 rfl ?_
        refine go_iload_n C 104 105 3 2 dX6_count_104 rfl rfl rfl ?_
        obtain ⟨hi3, h⟩ := h
        refine go_iald C 105 106 30 (lu30 ex) hi3 dX6_count_105 rfl ?_
        refine go_goto C 106 110 dX6_count_106 (by decide) ?_
        refine go_iadd C 110 111 dX6_count_110 rfl ?_
        refine go_topi (fun x4 hx4 => ?_)
        replace h := h x4 hx4
        refine go_istore_n C 111 112 2 [(2, .int _), (0, .ref _), (3, .int _)] dX6_count_111 rfl (by decide) rfl rfl ?_
        refine go_iinc C 112 115 3 2 (v3 + 1) [(3, .int _), (2, .int _), (0, .ref _)] dX6_count_112 rfl rfl (by decide) rfl rfl ?_
        refine go_goto C 115 82 dX6_count_115 (by decide) ?_
        exact go_perm [2, 1, 0] rfl (ih _ _ _ h)
def wB_X6_count_122 (k rec : Int32 → Int32 → St → Prop) (v2 : Int32) (v3 : Int32) (S : St) : Prop :=
  ((S.1 25 9) ≤ v3 → k v2 v3 S) ∧ (¬ ((S.1 25 9) ≤ v3) → (vp_in v3 8) ∧ (∀ x2 : Int32, x2 = (v2 + (S.1 31 v3.toNatClampNeg)) → rec x2 (v3 + 1) S))
def wL_X6_count_122 (k : Int32 → Int32 → St → Prop) : Nat → Int32 → Int32 → St → Prop
  | 0, _, _, _ => False
  | n + 1, v2, v3, S => wB_X6_count_122 k (wL_X6_count_122 k n) v2 v3 S
set_option maxHeartbeats 4000000 in
set_option maxRecDepth 100000 in
theorem L_X6_count_122 {p : Program} {l : Launch} {e : Env} {s : State} {m : MethodId} {args : Array Value} {below : List Frame} {meth : Method} {c : Code} {D : va_G} {cA : Nat → ClassId} {ad : Nat → Nat} {ex : List Lay} {Q : State → Prop} (C : Cx p s m args meth c cX6_count 4 (some .int) RX6 D cA ad (LU ++ ex))   {k : Int32 → Int32 → St → Prop} (hk : ∀ (v2 : Int32) (v3 : Int32) (S : St), k v2 v3 S → Go p l e rX6_count s m args below meth c D cA ad (LU ++ ex) 4 0 0 Q S 145 [(2, .int v2)] []) : ∀ (n : Nat) (v2 : Int32) (v3 : Int32) (S : St), wL_X6_count_122 k n v2 v3 S → Go p l e rX6_count s m args below meth c D cA ad (LU ++ ex) 4 0 0 Q S 122 [(0, .ref (ad 25)), (2, .int v2), (3, .int v3)] [] := by
  intro n
  induction n with
  | zero => intro v2 v3 S h; exact h.elim
  | succ n ih =>
    intro v2 v3 S h
    replace h : wB_X6_count_122 k (wL_X6_count_122 k n) v2 v3 S := h
    unfold wB_X6_count_122 at h
    refine go_iload_n C 122 123 3 2 dX6_count_122 rfl rfl rfl ?_
    refine go_aload_n C 123 124 0 0 dX6_count_123 rfl rfl rfl ?_
    refine go_getI C 124 127 iw6 25 (lu25 ex) rfl 9 (by decide) k530_ rfl rfl dX6_count_124 rfl ?_
    refine go_icmp_ge C 127 130 145 dX6_count_127 (by decide) rfl (fun hc => ?_) (fun hc => ?_)
    · have h := h.1 hc
      exact go_perm [1] rfl (hk _ _ _ h)
    · have h := h.2 hc
      refine go_iload_n C 130 131 2 1 dX6_count_130 rfl rfl rfl ?_
      refine go_aload_n C 131 132 0 0 dX6_count_131 rfl rfl rfl ?_
      refine go_getR C 132 135 iw6 25 (lu25 ex) rfl 6 (by decide) k527_ rfl rfl dX6_count_132 rfl ?_
      refine go_iload_n C 135 136 3 2 dX6_count_135 rfl rfl rfl ?_
      obtain ⟨hi1, h⟩ := h
      refine go_iald C 136 137 31 (lu31 ex) hi1 dX6_count_136 rfl ?_
      refine go_iadd C 137 138 dX6_count_137 rfl ?_
      refine go_topi (fun x2 hx2 => ?_)
      replace h := h x2 hx2
      refine go_istore_n C 138 139 2 [(2, .int _), (0, .ref _), (3, .int _)] dX6_count_138 rfl (by decide) rfl rfl ?_
      refine go_iinc C 139 142 3 2 (v3 + 1) [(3, .int _), (2, .int _), (0, .ref _)] dX6_count_139 rfl rfl (by decide) rfl rfl ?_
      refine go_goto C 142 122 dX6_count_142 (by decide) ?_
      exact go_perm [2, 1, 0] rfl (ih _ _ _ h)
def wp_X6_count (S : St) (a1 : Int32) (post : Int32 → St → Prop) : Prop :=
  ∀ S1 : St, S1 = uI S 25 0 (0 : Int32) → (a1.toInt < 0 ∨ 6 < a1.toInt → post (-1000000 : Int32) S1) ∧ (a1.toInt = 0 → post (S1.1 25 8) S1) ∧ (a1.toInt = 1 → post (S1.1 25 9) S1) ∧ (a1.toInt = 2 → wp_X6_thereSet S1 (fun (r3 : Int32) (S2 : St) => wp_J6_bitCount_0f7a4 S2 r3 (fun (r5 : Int32) (S4 : St) => post r5 S4))) ∧ (a1.toInt = 3 → post (S1.1 25 10) S1) ∧ (a1.toInt = 4 → post (S1.1 25 11) S1) ∧ (a1.toInt = 5 → ∃ fu9, wL_X6_count_82 (fun (z7 : Int32) (z8 : Int32) (S6 : St) => post z7 S6) fu9 (0 : Int32) (0 : Int32) S1) ∧ (a1.toInt = 6 → ∃ fu13, wL_X6_count_122 (fun (z11 : Int32) (z12 : Int32) (S10 : St) => post z11 S10) fu13 (0 : Int32) (0 : Int32) S1)
set_option maxHeartbeats 4000000 in
set_option maxRecDepth 100000 in
theorem c_X6_count {l : Launch} {D : va_G} {cA : Nat → ClassId} {ad : Nat → Nat} {ex : List Lay} (S : St) (a1 : Int32)  {post : Int32 → St → Prop} (h : wp_X6_count S a1 post) : MetI l yX6_count cX6_count 4 (some .int) rX6_count D cA ad (LU ++ ex) [.ref (ad 25), .int a1] S post 0 0 := by
  refine MetI.of (by decide) (Nat.le_of_ble_eq_true rfl) ?_
  intro p e s m args below meth c C
  unfold wp_X6_count at h
  show Go p l e rX6_count s m args below meth c D cA ad (LU ++ ex) 4 0 0 _ S 0 [(0, .ref (ad 25)), (1, .int a1)] []
  replace C : Cx p s m args meth c cX6_count 4 (some .int) RX6 D cA ad (LU ++ ex) := C
  refine go_aload_n C 0 1 0 0 dX6_count_0 rfl rfl rfl ?_
  refine go_iconst C 1 2 (0) dX6_count_1 (by decide) rfl ?_
  refine go_putI C 2 5 iw6 25 (lu25 ex) rfl 0 (by decide) tyX6 tyX6_ok nmX6 k521_ rfl rfl rfl (by decide +kernel) dX6_count_2 rfl ?_
  refine go_nm (fun S1 hS1 => ?_)
  replace h := h S1 hS1
  refine go_iconst C 5 6 (0) dX6_count_5 (by decide) rfl ?_
  refine go_istore_n C 6 7 2 [(2, .int _), (0, .ref _), (1, .int _)] dX6_count_6 rfl (by decide) rfl rfl ?_
  refine go_iload_n C 7 8 1 2 dX6_count_7 rfl rfl rfl ?_
  by_cases hlo : a1.toInt < 0 ∨ 6 < a1.toInt
  · refine go_tsOut C 8 147 dX6_count_8 hlo (by decide) ?_
    have h := h.1 hlo
    refine go_ldc C 147 149 k721_ dX6_count_147 rfl ?_
    exact go_iret C 149 rfl dX6_count_149 h
  · replace h := h.2
    have hor : a1.toInt = 0 ∨ a1.toInt = 1 ∨ a1.toInt = 2 ∨ a1.toInt = 3 ∨ a1.toInt = 4 ∨ a1.toInt = 5 ∨ a1.toInt = 6 := by omega
    rcases hor with hc | hc | hc | hc | hc | hc | hc
    · refine go_tsIn C 8 52 dX6_count_8 (by omega) (by omega) (off := 44) (by rw [hc]; rfl) (by decide) ?_
      have h := h.1 hc
      refine go_aload_n C 52 53 0 1 dX6_count_52 rfl rfl rfl ?_
      refine go_getI C 53 56 iw6 25 (lu25 ex) rfl 8 (by decide) k529_ rfl rfl dX6_count_53 rfl ?_
      exact go_iret C 56 rfl dX6_count_56 h
    · refine go_tsIn C 8 57 dX6_count_8 (by omega) (by omega) (off := 49) (by rw [hc]; rfl) (by decide) ?_
      have h := h.2.1 hc
      refine go_aload_n C 57 58 0 1 dX6_count_57 rfl rfl rfl ?_
      refine go_getI C 58 61 iw6 25 (lu25 ex) rfl 9 (by decide) k530_ rfl rfl dX6_count_58 rfl ?_
      exact go_iret C 61 rfl dX6_count_61 h
    · refine go_tsIn C 8 62 dX6_count_8 (by omega) (by omega) (off := 54) (by rw [hc]; rfl) (by decide) ?_
      have h := h.2.2.1 hc
      refine go_aload_n C 62 63 0 1 dX6_count_62 rfl rfl rfl ?_
      refine go_vi C 63 66 0 0 [] 25 (lu25 ex) rfl (c_X6_thereSet _  h) k646_ k649_ k57_ k648_ k38_ qX6_thereSet mhX6_thereSet (by decide) (by decide) rfl rfl rfl rfl (Nat.le_of_ble_eq_true rfl) rfl rfl dX6_count_63 (fun r3 S2 h => ?_)
      refine go_si C 66 69 0 0 [.int r3] (c_J6_bitCount_0f7a4 _ _  h) k762_ k399_ k58_ k398_ qJ6_bitCount_0f7a4 mhJ6_bitCount_0f7a4 (by decide) (by decide) rfl rfl rfl rfl (Nat.le_of_ble_eq_true rfl) rfl rfl dX6_count_66 (fun r5 S4 h => ?_)
      exact go_iret C 69 rfl dX6_count_69 h
    · refine go_tsIn C 8 70 dX6_count_8 (by omega) (by omega) (off := 62) (by rw [hc]; rfl) (by decide) ?_
      have h := h.2.2.2.1 hc
      refine go_aload_n C 70 71 0 1 dX6_count_70 rfl rfl rfl ?_
      refine go_getI C 71 74 iw6 25 (lu25 ex) rfl 10 (by decide) k531_ rfl rfl dX6_count_71 rfl ?_
      exact go_iret C 74 rfl dX6_count_74 h
    · refine go_tsIn C 8 75 dX6_count_8 (by omega) (by omega) (off := 67) (by rw [hc]; rfl) (by decide) ?_
      have h := h.2.2.2.2.1 hc
      refine go_aload_n C 75 76 0 1 dX6_count_75 rfl rfl rfl ?_
      refine go_getI C 76 79 iw6 25 (lu25 ex) rfl 11 (by decide) k532_ rfl rfl dX6_count_76 rfl ?_
      exact go_iret C 79 rfl dX6_count_79 h
    · refine go_tsIn C 8 80 dX6_count_8 (by omega) (by omega) (off := 72) (by rw [hc]; rfl) (by decide) ?_
      have h := h.2.2.2.2.2.1 hc
      refine go_iconst C 80 81 (0) dX6_count_80 (by decide) rfl ?_
      refine go_istore_n C 81 82 3 [(3, .int _), (2, .int _), (0, .ref _), (1, .int _)] dX6_count_81 rfl (by decide) rfl rfl ?_
      obtain ⟨fu9, h⟩ := h
      refine go_perm [2, 1, 0] rfl (L_X6_count_82 C   (fun z7 z8 S6 h => ?_) _ _ _ _ h)
      refine go_iload_n C 118 119 2 0 dX6_count_118 rfl rfl rfl ?_
      exact go_iret C 119 rfl dX6_count_119 h
    · refine go_tsIn C 8 120 dX6_count_8 (by omega) (by omega) (off := 112) (by rw [hc]; rfl) (by decide) ?_
      have h := h.2.2.2.2.2.2 hc
      refine go_iconst C 120 121 (0) dX6_count_120 (by decide) rfl ?_
      refine go_istore_n C 121 122 3 [(3, .int _), (2, .int _), (0, .ref _), (1, .int _)] dX6_count_121 rfl (by decide) rfl rfl ?_
      obtain ⟨fu13, h⟩ := h
      refine go_perm [2, 1, 0] rfl (L_X6_count_122 C   (fun z11 z12 S10 h => ?_) _ _ _ _ h)
      refine go_iload_n C 145 146 2 0 dX6_count_145 rfl rfl rfl ?_
      exact go_iret C 146 rfl dX6_count_146 h
