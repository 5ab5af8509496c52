/-! the one layout: class, then reference, then the rows of the grids -/
def LU : List Lay := [.inr (5, [3, 4, 5, 6, 7, 8, 9]), .inr (4, [0, 10, 11, 12, 13, 14, 15]), .inr (3, [0, 0, 16]), .inr (1, [17, 1, 18, 19, 20]), .inr (2, [21, 1, 22]), .inr (0, [0, 0, 23, 24, 25, 26]), .inl (0, 8, 0), .inl (0, 8, 0), .inl (0, 6, 0), .inl (0, 6, 0), .inl (3, 6, 43), .inl (3, 6, 49), .inl (0, 8, 0), .inl (0, 256, 0), .inl (0, 8, 0), .inl (1, 6, 0), .inl (4, 6, 55), .inl (1, 6, 0), .inl (1, 64, 0), .inl (1, 8, 0), .inl (1, 8, 0), .inl (0, 8, 0), .inl (0, 400, 0), .inl (0, 400, 0), .inl (0, 400, 0), .inr (6, [0, 28, 29, 30, 31, 32, 33, 34, 0, 0, 0, 0, 35, 36, 37, 38, 39, 40, 41, 0, 1, 42, 1, 43, 0, 44]), .inl (0, 6, 0), .inl (0, 6, 0), .inl (0, 48, 0), .inl (0, 36, 0), .inl (0, 8, 0), .inl (0, 8, 0), .inl (2, 8, 0), .inl (0, 400, 0), .inl (0, 400, 0), .inl (0, 400, 0), .inl (0, 6, 0), .inl (1, 36, 0), .inl (1, 6, 0), .inl (1, 6, 0), .inl (1, 8, 0), .inl (0, 256, 0), .inl (0, 8, 0), .inl (0, 8, 0), .inl (0, 8, 0), .inl (0, 8, 0), .inl (0, 8, 0), .inl (0, 8, 0), .inl (0, 8, 0), .inl (0, 6, 0), .inl (0, 6, 0), .inl (0, 6, 0), .inl (0, 6, 0), .inl (0, 6, 0), .inl (0, 6, 0), .inl (1, 6, 0), .inl (1, 6, 0), .inl (1, 6, 0), .inl (1, 6, 0), .inl (1, 6, 0), .inl (1, 6, 0)]
theorem lu0 (ex : List Lay) : (LU ++ ex)[0]? = some (.inr (5, [3, 4, 5, 6, 7, 8, 9])) := rfl
theorem lu1 (ex : List Lay) : (LU ++ ex)[1]? = some (.inr (4, [0, 10, 11, 12, 13, 14, 15])) := rfl
theorem lu2 (ex : List Lay) : (LU ++ ex)[2]? = some (.inr (3, [0, 0, 16])) := rfl
theorem lu3 (ex : List Lay) : (LU ++ ex)[3]? = some (.inr (1, [17, 1, 18, 19, 20])) := rfl
theorem lu4 (ex : List Lay) : (LU ++ ex)[4]? = some (.inr (2, [21, 1, 22])) := rfl
theorem lu5 (ex : List Lay) : (LU ++ ex)[5]? = some (.inr (0, [0, 0, 23, 24, 25, 26])) := rfl
theorem lu6 (ex : List Lay) : (LU ++ ex)[6]? = some (.inl (0, 8, 0)) := rfl
theorem lu7 (ex : List Lay) : (LU ++ ex)[7]? = some (.inl (0, 8, 0)) := rfl
theorem lu8 (ex : List Lay) : (LU ++ ex)[8]? = some (.inl (0, 6, 0)) := rfl
theorem lu9 (ex : List Lay) : (LU ++ ex)[9]? = some (.inl (0, 6, 0)) := rfl
theorem lu10 (ex : List Lay) : (LU ++ ex)[10]? = some (.inl (3, 6, 43)) := rfl
theorem lu11 (ex : List Lay) : (LU ++ ex)[11]? = some (.inl (3, 6, 49)) := rfl
theorem lu12 (ex : List Lay) : (LU ++ ex)[12]? = some (.inl (0, 8, 0)) := rfl
theorem lu13 (ex : List Lay) : (LU ++ ex)[13]? = some (.inl (0, 256, 0)) := rfl
theorem lu14 (ex : List Lay) : (LU ++ ex)[14]? = some (.inl (0, 8, 0)) := rfl
theorem lu15 (ex : List Lay) : (LU ++ ex)[15]? = some (.inl (1, 6, 0)) := rfl
theorem lu16 (ex : List Lay) : (LU ++ ex)[16]? = some (.inl (4, 6, 55)) := rfl
theorem lu17 (ex : List Lay) : (LU ++ ex)[17]? = some (.inl (1, 6, 0)) := rfl
theorem lu18 (ex : List Lay) : (LU ++ ex)[18]? = some (.inl (1, 64, 0)) := rfl
theorem lu19 (ex : List Lay) : (LU ++ ex)[19]? = some (.inl (1, 8, 0)) := rfl
theorem lu20 (ex : List Lay) : (LU ++ ex)[20]? = some (.inl (1, 8, 0)) := rfl
theorem lu21 (ex : List Lay) : (LU ++ ex)[21]? = some (.inl (0, 8, 0)) := rfl
theorem lu22 (ex : List Lay) : (LU ++ ex)[22]? = some (.inl (0, 400, 0)) := rfl
theorem lu23 (ex : List Lay) : (LU ++ ex)[23]? = some (.inl (0, 400, 0)) := rfl
theorem lu24 (ex : List Lay) : (LU ++ ex)[24]? = some (.inl (0, 400, 0)) := rfl
theorem lu25 (ex : List Lay) : (LU ++ ex)[25]? = some (.inr (6, [0, 28, 29, 30, 31, 32, 33, 34, 0, 0, 0, 0, 35, 36, 37, 38, 39, 40, 41, 0, 1, 42, 1, 43, 0, 44])) := rfl
theorem lu26 (ex : List Lay) : (LU ++ ex)[26]? = some (.inl (0, 6, 0)) := rfl
theorem lu27 (ex : List Lay) : (LU ++ ex)[27]? = some (.inl (0, 6, 0)) := rfl
theorem lu28 (ex : List Lay) : (LU ++ ex)[28]? = some (.inl (0, 48, 0)) := rfl
theorem lu29 (ex : List Lay) : (LU ++ ex)[29]? = some (.inl (0, 36, 0)) := rfl
theorem lu30 (ex : List Lay) : (LU ++ ex)[30]? = some (.inl (0, 8, 0)) := rfl
theorem lu31 (ex : List Lay) : (LU ++ ex)[31]? = some (.inl (0, 8, 0)) := rfl
theorem lu32 (ex : List Lay) : (LU ++ ex)[32]? = some (.inl (2, 8, 0)) := rfl
theorem lu33 (ex : List Lay) : (LU ++ ex)[33]? = some (.inl (0, 400, 0)) := rfl
theorem lu34 (ex : List Lay) : (LU ++ ex)[34]? = some (.inl (0, 400, 0)) := rfl
theorem lu35 (ex : List Lay) : (LU ++ ex)[35]? = some (.inl (0, 400, 0)) := rfl
theorem lu36 (ex : List Lay) : (LU ++ ex)[36]? = some (.inl (0, 6, 0)) := rfl
theorem lu37 (ex : List Lay) : (LU ++ ex)[37]? = some (.inl (1, 36, 0)) := rfl
theorem lu38 (ex : List Lay) : (LU ++ ex)[38]? = some (.inl (1, 6, 0)) := rfl
theorem lu39 (ex : List Lay) : (LU ++ ex)[39]? = some (.inl (1, 6, 0)) := rfl
theorem lu40 (ex : List Lay) : (LU ++ ex)[40]? = some (.inl (1, 8, 0)) := rfl
theorem lu41 (ex : List Lay) : (LU ++ ex)[41]? = some (.inl (0, 256, 0)) := rfl
theorem lu42 (ex : List Lay) : (LU ++ ex)[42]? = some (.inl (0, 8, 0)) := rfl
theorem lu43 (ex : List Lay) : (LU ++ ex)[43]? = some (.inl (0, 8, 0)) := rfl
theorem lu44 (ex : List Lay) : (LU ++ ex)[44]? = some (.inl (0, 8, 0)) := rfl
theorem lu45 (ex : List Lay) : (LU ++ ex)[45]? = some (.inl (0, 8, 0)) := rfl
theorem lu46 (ex : List Lay) : (LU ++ ex)[46]? = some (.inl (0, 8, 0)) := rfl
theorem lu47 (ex : List Lay) : (LU ++ ex)[47]? = some (.inl (0, 8, 0)) := rfl
theorem lu48 (ex : List Lay) : (LU ++ ex)[48]? = some (.inl (0, 8, 0)) := rfl
theorem lu49 (ex : List Lay) : (LU ++ ex)[49]? = some (.inl (0, 6, 0)) := rfl
theorem lu50 (ex : List Lay) : (LU ++ ex)[50]? = some (.inl (0, 6, 0)) := rfl
theorem lu51 (ex : List Lay) : (LU ++ ex)[51]? = some (.inl (0, 6, 0)) := rfl
theorem lu52 (ex : List Lay) : (LU ++ ex)[52]? = some (.inl (0, 6, 0)) := rfl
theorem lu53 (ex : List Lay) : (LU ++ ex)[53]? = some (.inl (0, 6, 0)) := rfl
theorem lu54 (ex : List Lay) : (LU ++ ex)[54]? = some (.inl (0, 6, 0)) := rfl
theorem lu55 (ex : List Lay) : (LU ++ ex)[55]? = some (.inl (1, 6, 0)) := rfl
theorem lu56 (ex : List Lay) : (LU ++ ex)[56]? = some (.inl (1, 6, 0)) := rfl
theorem lu57 (ex : List Lay) : (LU ++ ex)[57]? = some (.inl (1, 6, 0)) := rfl
theorem lu58 (ex : List Lay) : (LU ++ ex)[58]? = some (.inl (1, 6, 0)) := rfl
theorem lu59 (ex : List Lay) : (LU ++ ex)[59]? = some (.inl (1, 6, 0)) := rfl
theorem lu60 (ex : List Lay) : (LU ++ ex)[60]? = some (.inl (1, 6, 0)) := rfl
theorem lg43 (ex : List Lay) {i : Nat} (h : i < 6) : (LU ++ ex)[43 + i]? = some (.inl (0, 8, 0)) := by
  match i, h with
  | 0, _ => rfl
  | 1, _ => rfl
  | 2, _ => rfl
  | 3, _ => rfl
  | 4, _ => rfl
  | 5, _ => rfl
  | n + 6, h => exact absurd h (by omega)
theorem lg49 (ex : List Lay) {i : Nat} (h : i < 6) : (LU ++ ex)[49 + i]? = some (.inl (0, 6, 0)) := by
  match i, h with
  | 0, _ => rfl
  | 1, _ => rfl
  | 2, _ => rfl
  | 3, _ => rfl
  | 4, _ => rfl
  | 5, _ => rfl
  | n + 6, h => exact absurd h (by omega)
theorem lg55 (ex : List Lay) {i : Nat} (h : i < 6) : (LU ++ ex)[55 + i]? = some (.inl (1, 6, 0)) := by
  match i, h with
  | 0, _ => rfl
  | 1, _ => rfl
  | 2, _ => rfl
  | 3, _ => rfl
  | 4, _ => rfl
  | 5, _ => rfl
  | n + 6, h => exact absurd h (by omega)
theorem vi_lt {i : Int32} {n : Nat} (h : vp_in i n) : i.toNatClampNeg < n := Nat.not_le.mp fun q => h (Or.inr q)
theorem iw0 : ∀ w ∈ u_ws RX0 TX0 6, w ∈ T0 := by
  intro w hw
  have h1 : w ∈ lw_tbl ∧ goodWord w = true := by
    revert w
    decide +kernel
  exact List.mem_filter.mpr h1
theorem iw1 : ∀ w ∈ u_ws RX1 TX1 5, w ∈ T0 := by
  intro w hw
  have h1 : w ∈ lw_tbl ∧ goodWord w = true := by
    revert w
    decide +kernel
  exact List.mem_filter.mpr h1
theorem iw2 : ∀ w ∈ u_ws RX2 TX2 3, w ∈ T0 := by
  intro w hw
  have h1 : w ∈ lw_tbl ∧ goodWord w = true := by
    revert w
    decide +kernel
  exact List.mem_filter.mpr h1
theorem iw3 : ∀ w ∈ u_ws RX3 TX3 3, w ∈ T0 := by
  intro w hw
  have h1 : w ∈ lw_tbl ∧ goodWord w = true := by
    revert w
    decide +kernel
  exact List.mem_filter.mpr h1
theorem iw4 : ∀ w ∈ u_ws RX4 TX4 7, w ∈ T0 := by
  intro w hw
  have h1 : w ∈ lw_tbl ∧ goodWord w = true := by
    revert w
    decide +kernel
  exact List.mem_filter.mpr h1
theorem iw5 : ∀ w ∈ u_ws RX5 TX5 7, w ∈ T0 := by
  intro w hw
  have h1 : w ∈ lw_tbl ∧ goodWord w = true := by
    revert w
    decide +kernel
  exact List.mem_filter.mpr h1
theorem iw6 : ∀ w ∈ u_ws RX6 TX6 26, w ∈ T0 := by
  intro w hw
  have h1 : w ∈ lw_tbl ∧ goodWord w = true := by
    revert w
    decide +kernel
  exact List.mem_filter.mpr h1
section GN
variable {p : Program} {l : Launch} {e : Env} {R : Room} {s : State} {m : MethodId} {args : Array Value} {below : List Frame} {meth : Method} {c : Code} {D : va_G} {cA : Nat → ClassId} {ad : Nat → Nat} {L : List Lay} {nL cells slots pc : Nat} {Q : State → Prop} {S : St} {lv : List (Nat × Value)} {st : List Value}
theorem go_topi {x : Int32} (k : ∀ y : Int32, y = x → Go p l e R s m args below meth c D cA ad L nL cells slots Q S pc lv (.int y :: st)) : Go p l e R s m args below meth c D cA ad L nL cells slots Q S pc lv (.int x :: st) := k x rfl
theorem go_topl {x : Int64} (k : ∀ y : Int64, y = x → Go p l e R s m args below meth c D cA ad L nL cells slots Q S pc lv (.long y :: st)) : Go p l e R s m args below meth c D cA ad L nL cells slots Q S pc lv (.long x :: st) := k x rfl
theorem go_nm (k : ∀ S2 : St, S2 = S → Go p l e R s m args below meth c D cA ad L nL cells slots Q S2 pc lv st) : Go p l e R s m args below meth c D cA ad L nL cells slots Q S pc lv st := k S rfl
end GN
