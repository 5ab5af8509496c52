theorem k546_ : Cond.fieldLink RX6 60 RX6 "coins" "[I" ∈ T0 := in_T0 546 (by decide +kernel) (by decide +kernel)
theorem k722_ : Cond.methodLink RX6 157 yX6_coinsBy ∈ T0 := in_T0 722 (by decide +kernel) (by decide +kernel)
theorem k725_ : Cond.code yX6_coinsBy cX6_coinsBy 8 none ∈ T0 := in_T0 725 (by decide +kernel) (by decide +kernel)
theorem k724_ : Cond.instanceMethod yX6_coinsBy ∈ T0 := in_T0 724 (by decide +kernel) (by decide +kernel)
theorem k48_ : Cond.selects RX6 yX6_coinsBy yX6_coinsBy ∈ T0 := in_T0 48 (by decide +kernel) (by decide +kernel)
theorem k745_ : Cond.methodLink RX6 165 Lib.Math.abs.name ∈ T0 := in_T0 745 (by decide +kernel) (by decide +kernel)
-- BillHouseModel.coinsBy(I)V
theorem qX6_coinsBy : (parseMethodDescriptor yX6_coinsBy.desc).map (fun d => d.parameters.length) = some 1 := by decide +kernel
theorem mhX6_coinsBy : yX6_coinsBy.cls ≠ "java/lang/invoke/MethodHandle" ∧ yX6_coinsBy.cls ≠ "java/lang/invoke/VarHandle" := by decide +kernel
def rX6_coinsBy : Room := { frames := 12, cells := 1, slots := 8, locals := 311 }
def wB_X6_coinsBy_21 (k rec : Int64 → Int32 → Int32 → St → Prop) (v2 : Int64) (v4 : Int32) (v5 : Int32) (S : St) : Prop :=
  ((S.1 25 9) ≤ v5 → k v2 v4 v5 S) ∧ (¬ ((S.1 25 9) ≤ v5) → (vp_in v5 8) ∧ (((S.1 32 v5.toNatClampNeg) = 0 → (vp_in v5 8) ∧ (∀ S3 : St, S3 = uI S 42 v5.toNatClampNeg (0 : Int32) → (vp_in v5 8) ∧ (∀ x5 : Int64, x5 = (v2 - ((S3.1 42 v5.toNatClampNeg).toInt64)) → (¬ v4 = 0 → rec x5 (1 : Int32) (v5 + 1) S3) ∧ (v4 = 0 → (vp_in v5 8) ∧ (((S3.2 40 v5.toNatClampNeg) = (0 : Int64) → rec x5 (0 : Int32) (v5 + 1) S3) ∧ (¬ ((S3.2 40 v5.toNatClampNeg) = (0 : Int64)) → rec x5 (1 : Int32) (v5 + 1) S3)))))) ∧ (¬ ((S.1 32 v5.toNatClampNeg) = 0) → (vp_in v5 8) ∧ ((¬ (S.2 25 22) = 0) ∧ ((vp_in v5 8) ∧ (∀ S10 : St, S10 = uI S 42 v5.toNatClampNeg (((S.2 40 v5.toNatClampNeg) / (S.2 25 22)).toInt32) → (vp_in v5 8) ∧ (∀ x12 : Int64, x12 = (v2 - ((S10.1 42 v5.toNatClampNeg).toInt64)) → (¬ v4 = 0 → rec x12 (1 : Int32) (v5 + 1) S10) ∧ (v4 = 0 → (vp_in v5 8) ∧ (((S10.2 40 v5.toNatClampNeg) = (0 : Int64) → rec x12 (0 : Int32) (v5 + 1) S10) ∧ (¬ ((S10.2 40 v5.toNatClampNeg) = (0 : Int64)) → rec x12 (1 : Int32) (v5 + 1) S10))))))))))
def wL_X6_coinsBy_21 (k : Int64 → Int32 → Int32 → St → Prop) : Nat → Int64 → Int32 → Int32 → St → Prop
  | 0, _, _, _, _ => False
  | n + 1, v2, v4, v5, S => wB_X6_coinsBy_21 k (wL_X6_coinsBy_21 k n) v2 v4 v5 S
set_option maxHeartbeats 4000000 in
set_option maxRecDepth 100000 in
theorem L_X6_coinsBy_21 {p : Program} {l : Launch} {e : Env} {s : State} {m : MethodId} {args : Array Value} {below : List Frame} {meth : Method} {c : Code} {D : va_G} {cA : Nat → ClassId} {ad : Nat → Nat} {ex : List Lay} {Q : State → Prop} (C : Cx p s m args meth c cX6_coinsBy 8 none RX6 D cA ad (LU ++ ex))   {k : Int64 → Int32 → Int32 → St → Prop} (hk : ∀ (v2 : Int64) (v4 : Int32) (v5 : Int32) (S : St), k v2 v4 v5 S → Go p l e rX6_coinsBy s m args below meth c D cA ad (LU ++ ex) 8 0 0 Q S 105 [(0, .ref (ad 25)), (2, .long v2), (4, .int v4)] []) : ∀ (n : Nat) (v2 : Int64) (v4 : Int32) (v5 : Int32) (S : St), wL_X6_coinsBy_21 k n v2 v4 v5 S → Go p l e rX6_coinsBy s m args below meth c D cA ad (LU ++ ex) 8 0 0 Q S 21 [(0, .ref (ad 25)), (2, .long v2), (4, .int v4), (5, .int v5)] [] := by
  intro n
  induction n with
  | zero => intro v2 v4 v5 S h; exact h.elim
  | succ n ih =>
    intro v2 v4 v5 S h
    replace h : wB_X6_coinsBy_21 k (wL_X6_coinsBy_21 k n) v2 v4 v5 S := h
    unfold wB_X6_coinsBy_21 at h
    refine go_iload C 21 23 5 3 dX6_coinsBy_21 rfl rfl ?_
    refine go_aload_n C 23 24 0 0 dX6_coinsBy_23 rfl rfl rfl ?_
    refine go_getI C 24 27 iw6 25 (lu25 ex) rfl 9 (by decide) k530_ rfl rfl dX6_coinsBy_24 rfl ?_
    refine go_icmp_ge C 27 30 105 dX6_coinsBy_27 (by decide) rfl (fun hc => ?_) (fun hc => ?_)
    · have h := h.1 hc
      exact go_perm [0, 1, 2] rfl (hk _ _ _ _ h)
    · have h := h.2 hc
      refine go_aload_n C 30 31 0 0 dX6_coinsBy_30 rfl rfl rfl ?_
      refine go_getR C 31 34 iw6 25 (lu25 ex) rfl 25 (by decide) k546_ rfl rfl dX6_coinsBy_31 rfl ?_
      refine go_iload C 34 36 5 3 dX6_coinsBy_34 rfl rfl ?_
      refine go_aload_n C 36 37 0 0 dX6_coinsBy_36 rfl rfl rfl ?_
      refine go_getR C 37 40 iw6 25 (lu25 ex) rfl 7 (by decide) k528_ rfl rfl dX6_coinsBy_37 rfl ?_
      refine go_iload C 40 42 5 3 dX6_coinsBy_40 rfl rfl ?_
      obtain ⟨hi1, h⟩ := h
      refine go_zald C 42 43 32 (lu32 ex) hi1 dX6_coinsBy_42 rfl ?_
      refine go_if_eq C 43 46 62 dX6_coinsBy_43 (by decide) rfl (fun hc => ?_) (fun hc => ?_)
      · have h := h.1 hc
        refine go_iconst C 62 63 (0) dX6_coinsBy_62 (by decide) rfl ?_
        obtain ⟨hi2, h⟩ := h
        refine go_iast C 63 64 42 (lu42 ex) hi2 dX6_coinsBy_63 rfl ?_
        refine go_nm (fun S3 hS3 => ?_)
        replace h := h S3 hS3
        refine go_lload_n C 64 65 2 1 dX6_coinsBy_64 rfl rfl rfl ?_
        refine go_aload_n C 65 66 0 0 dX6_coinsBy_65 rfl rfl rfl ?_
        refine go_getR C 66 69 iw6 25 (lu25 ex) rfl 25 (by decide) k546_ rfl rfl dX6_coinsBy_66 rfl ?_
        refine go_iload C 69 71 5 3 dX6_coinsBy_69 rfl rfl ?_
        obtain ⟨hi4, h⟩ := h
        refine go_iald C 71 72 42 (lu42 ex) hi4 dX6_coinsBy_71 rfl ?_
        refine go_i2l C 72 73 dX6_coinsBy_72 rfl ?_
        refine go_lsub C 73 74 dX6_coinsBy_73 rfl ?_
        refine go_topl (fun x5 hx5 => ?_)
        replace h := h x5 hx5
        refine go_lstore_n C 74 75 2 [(2, .long _), (0, .ref _), (4, .int _), (5, .int _)] dX6_coinsBy_74 rfl (by decide) rfl rfl ?_
        refine go_iload C 75 77 4 2 dX6_coinsBy_75 rfl rfl ?_
        refine go_if_ne C 77 80 92 dX6_coinsBy_77 (by decide) rfl (fun hc => ?_) (fun hc => ?_)
        · have h := h.1 hc
          refine go_iconst C 92 93 (1) dX6_coinsBy_92 (by decide) rfl ?_
          refine go_goto C 93 97 dX6_coinsBy_93 (by decide) ?_
          refine go_istore C 97 99 4 [(4, .int _), (2, .long _), (0, .ref _), (5, .int _)] dX6_coinsBy_97 (by decide) rfl rfl ?_
          refine go_iinc C 99 102 5 3 (v5 + 1) [(5, .int _), (4, .int _), (2, .long _), (0, .ref _)] dX6_coinsBy_99 rfl rfl (by decide) rfl rfl ?_
          refine go_goto C 102 21 dX6_coinsBy_102 (by decide) ?_
          exact go_perm [3, 2, 1, 0] rfl (ih _ _ _ _ h)
        · have h := h.2 hc
          refine go_aload_n C 80 81 0 1 dX6_coinsBy_80 rfl rfl rfl ?_
          refine go_getR C 81 84 iw6 25 (lu25 ex) rfl 21 (by decide) k542_ rfl rfl dX6_coinsBy_81 rfl ?_
          refine go_iload C 84 86 5 3 dX6_coinsBy_84 rfl rfl ?_
          obtain ⟨hi6, h⟩ := h
          refine go_lald C 86 87 40 (lu40 ex) hi6 dX6_coinsBy_86 rfl ?_
          refine go_lconst C 87 88 0 dX6_coinsBy_87 rfl rfl ?_
          refine go_lcmp_eq C 88 92 96 dX6_coinsBy_88 dX6_coinsBy_89 (by decide) rfl (fun hc => ?_) (fun hc => ?_)
          · have h := h.1 hc
            refine go_iconst C 96 97 (0) dX6_coinsBy_96 (by decide) rfl ?_
            refine go_istore C 97 99 4 [(4, .int _), (2, .long _), (0, .ref _), (5, .int _)] dX6_coinsBy_97 (by decide) rfl rfl ?_
            refine go_iinc C 99 102 5 3 (v5 + 1) [(5, .int _), (4, .int _), (2, .long _), (0, .ref _)] dX6_coinsBy_99 rfl rfl (by decide) rfl rfl ?_
            refine go_goto C 102 21 dX6_coinsBy_102 (by decide) ?_
            exact go_perm [3, 2, 1, 0] rfl (ih _ _ _ _ h)
          · have h := h.2 hc
            refine go_iconst C 92 93 (1) dX6_coinsBy_92 (by decide) rfl ?_
            refine go_goto C 93 97 dX6_coinsBy_93 (by decide) ?_
            refine go_istore C 97 99 4 [(4, .int _), (2, .long _), (0, .ref _), (5, .int _)] dX6_coinsBy_97 (by decide) rfl rfl ?_
            refine go_iinc C 99 102 5 3 (v5 + 1) [(5, .int _), (4, .int _), (2, .long _), (0, .ref _)] dX6_coinsBy_99 rfl rfl (by decide) rfl rfl ?_
            refine go_goto C 102 21 dX6_coinsBy_102 (by decide) ?_
            exact go_perm [3, 2, 1, 0] rfl (ih _ _ _ _ h)
      · have h := h.2 hc
        refine go_aload_n C 46 47 0 0 dX6_coinsBy_46 rfl rfl rfl ?_
        refine go_getR C 47 50 iw6 25 (lu25 ex) rfl 21 (by decide) k542_ rfl rfl dX6_coinsBy_47 rfl ?_
        refine go_iload C 50 52 5 3 dX6_coinsBy_50 rfl rfl ?_
        obtain ⟨hi7, h⟩ := h
        refine go_lald C 52 53 40 (lu40 ex) hi7 dX6_coinsBy_52 rfl ?_
        refine go_aload_n C 53 54 0 0 dX6_coinsBy_53 rfl rfl rfl ?_
        refine go_getJ C 54 57 iw6 25 (lu25 ex) rfl 22 (by decide) k543_ rfl rfl dX6_coinsBy_54 rfl ?_
        obtain ⟨hi8, h⟩ := h
        refine go_ldiv C 57 58 hi8 dX6_coinsBy_57 rfl ?_
        refine go_l2i C 58 59 dX6_coinsBy_58 rfl ?_
        refine go_goto C 59 63 dX6_coinsBy_59 (by decide) ?_
        obtain ⟨hi9, h⟩ := h
        refine go_iast C 63 64 42 (lu42 ex) hi9 dX6_coinsBy_63 rfl ?_
        refine go_nm (fun S10 hS10 => ?_)
        replace h := h S10 hS10
        refine go_lload_n C 64 65 2 1 dX6_coinsBy_64 rfl rfl rfl ?_
        refine go_aload_n C 65 66 0 0 dX6_coinsBy_65 rfl rfl rfl ?_
        refine go_getR C 66 69 iw6 25 (lu25 ex) rfl 25 (by decide) k546_ rfl rfl dX6_coinsBy_66 rfl ?_
        refine go_iload C 69 71 5 3 dX6_coinsBy_69 rfl rfl ?_
        obtain ⟨hi11, h⟩ := h
        refine go_iald C 71 72 42 (lu42 ex) hi11 dX6_coinsBy_71 rfl ?_
        refine go_i2l C 72 73 dX6_coinsBy_72 rfl ?_
        refine go_lsub C 73 74 dX6_coinsBy_73 rfl ?_
        refine go_topl (fun x12 hx12 => ?_)
        replace h := h x12 hx12
        refine go_lstore_n C 74 75 2 [(2, .long _), (0, .ref _), (4, .int _), (5, .int _)] dX6_coinsBy_74 rfl (by decide) rfl rfl ?_
        refine go_iload C 75 77 4 2 dX6_coinsBy_75 rfl rfl ?_
        refine go_if_ne C 77 80 92 dX6_coinsBy_77 (by decide) rfl (fun hc => ?_) (fun hc => ?_)
        · have h := h.1 hc
          refine go_iconst C 92 93 (1) dX6_coinsBy_92 (by decide) rfl ?_
          refine go_goto C 93 97 dX6_coinsBy_93 (by decide) ?_
          refine go_istore C 97 99 4 [(4, .int _), (2, .long _), (0, .ref _), (5, .int _)] dX6_coinsBy_97 (by decide) rfl rfl ?_
          refine go_iinc C 99 102 5 3 (v5 + 1) [(5, .int _), (4, .int _), (2, .long _), (0, .ref _)] dX6_coinsBy_99 rfl rfl (by decide) rfl rfl ?_
          refine go_goto C 102 21 dX6_coinsBy_102 (by decide) ?_
          exact go_perm [3, 2, 1, 0] rfl (ih _ _ _ _ h)
        · have h := h.2 hc
          refine go_aload_n C 80 81 0 1 dX6_coinsBy_80 rfl rfl rfl ?_
          refine go_getR C 81 84 iw6 25 (lu25 ex) rfl 21 (by decide) k542_ rfl rfl dX6_coinsBy_81 rfl ?_
          refine go_iload C 84 86 5 3 dX6_coinsBy_84 rfl rfl ?_
          obtain ⟨hi13, h⟩ := h
          refine go_lald C 86 87 40 (lu40 ex) hi13 dX6_coinsBy_86 rfl ?_
          refine go_lconst C 87 88 0 dX6_coinsBy_87 rfl rfl ?_
          refine go_lcmp_eq C 88 92 96 dX6_coinsBy_88 dX6_coinsBy_89 (by decide) rfl (fun hc => ?_) (fun hc => ?_)
          · have h := h.1 hc
            refine go_iconst C 96 97 (0) dX6_coinsBy_96 (by decide) rfl ?_
            refine go_istore C 97 99 4 [(4, .int _), (2, .long _), (0, .ref _), (5, .int _)] dX6_coinsBy_97 (by decide) rfl rfl ?_
            refine go_iinc C 99 102 5 3 (v5 + 1) [(5, .int _), (4, .int _), (2, .long _), (0, .ref _)] dX6_coinsBy_99 rfl rfl (by decide) rfl rfl ?_
            refine go_goto C 102 21 dX6_coinsBy_102 (by decide) ?_
            exact go_perm [3, 2, 1, 0] rfl (ih _ _ _ _ h)
          · have h := h.2 hc
            refine go_iconst C 92 93 (1) dX6_coinsBy_92 (by decide) rfl ?_
            refine go_goto C 93 97 dX6_coinsBy_93 (by decide) ?_
            refine go_istore C 97 99 4 [(4, .int _), (2, .long _), (0, .ref _), (5, .int _)] dX6_coinsBy_97 (by decide) rfl rfl ?_
            refine go_iinc C 99 102 5 3 (v5 + 1) [(5, .int _), (4, .int _), (2, .long _), (0, .ref _)] dX6_coinsBy_99 rfl rfl (by decide) rfl rfl ?_
            refine go_goto C 102 21 dX6_coinsBy_102 (by decide) ?_
            exact go_perm [3, 2, 1, 0] rfl (ih _ _ _ _ h)
def wB_X6_coinsBy_128 (kh10 : Nat) (p2 : Int64) (p4 : Int32) (k rec : Int32 → Int32 → St → Prop) (v6 : Int32) (v7 : Int32) (S : St) : Prop :=
  ((S.1 25 9) ≤ v7 → k v6 v7 S) ∧ (¬ ((S.1 25 9) ≤ v7) → (vp_in v7 8) ∧ (((S.1 32 v7.toNatClampNeg) = 0 → rec v6 (v7 + 1) S) ∧ (¬ ((S.1 32 v7.toNatClampNeg) = 0) → (vp_in v7 8) ∧ ((¬ (S.1 kh10 v7.toNatClampNeg) = 0 → rec v6 (v7 + 1) S) ∧ ((S.1 kh10 v7.toNatClampNeg) = 0 → (v6 = (-1 : Int32) → rec v7 (v7 + 1) S) ∧ (¬ (v6 = (-1 : Int32)) → (vp_in v7 8) ∧ ((¬ (S.2 25 22) = 0) ∧ ((vp_in v6 8) ∧ ((¬ (S.2 25 22) = 0) ∧ ((((S.2 40 v7.toNatClampNeg) - (S.2 40 v7.toNatClampNeg) / (S.2 25 22) * (S.2 25 22)) ≤ ((S.2 40 v6.toNatClampNeg) - (S.2 40 v6.toNatClampNeg) / (S.2 25 22) * (S.2 25 22)) → rec v6 (v7 + 1) S) ∧ (¬ (((S.2 40 v7.toNatClampNeg) - (S.2 40 v7.toNatClampNeg) / (S.2 25 22) * (S.2 25 22)) ≤ ((S.2 40 v6.toNatClampNeg) - (S.2 40 v6.toNatClampNeg) / (S.2 25 22) * (S.2 25 22))) → rec v7 (v7 + 1) S)))))))))))
def wL_X6_coinsBy_128 (kh10 : Nat) (p2 : Int64) (p4 : Int32) (k : Int32 → Int32 → St → Prop) : Nat → Int32 → Int32 → St → Prop
  | 0, _, _, _ => False
  | n + 1, v6, v7, S => wB_X6_coinsBy_128 kh10 p2 p4 k (wL_X6_coinsBy_128 kh10 p2 p4 k n) v6 v7 S
set_option maxHeartbeats 4000000 in
set_option maxRecDepth 100000 in
theorem L_X6_coinsBy_128 {p : Program} {l : Launch} {e : Env} {s : State} {m : MethodId} {args : Array Value} {below : List Frame} {meth : Method} {c : Code} {D : va_G} {cA : Nat → ClassId} {ad : Nat → Nat} {ex : List Lay} {Q : State → Prop} (C : Cx p s m args meth c cX6_coinsBy 8 none RX6 D cA ad (LU ++ ex)) (kh10 : Nat) (hkh10 : (LU ++ ex)[kh10]? = some (.inl (2, 8, 0))) (p2 : Int64) (p4 : Int32) {k : Int32 → Int32 → St → Prop} (hk : ∀ (v6 : Int32) (v7 : Int32) (S : St), k v6 v7 S → Go p l e rX6_coinsBy s m args below meth c D cA ad (LU ++ ex) 8 1 8 Q S 199 [(0, .ref (ad 25)), (2, .long p2), (4, .int p4), (5, .ref (ad kh10)), (6, .int v6)] []) : ∀ (n : Nat) (v6 : Int32) (v7 : Int32) (S : St), wL_X6_coinsBy_128 kh10 p2 p4 k n v6 v7 S → Go p l e rX6_coinsBy s m args below meth c D cA ad (LU ++ ex) 8 1 8 Q S 128 [(0, .ref (ad 25)), (2, .long p2), (4, .int p4), (5, .ref (ad kh10)), (6, .int v6), (7, .int v7)] [] := by
  intro n
  induction n with
  | zero => intro v6 v7 S h; exact h.elim
  | succ n ih =>
    intro v6 v7 S h
    replace h : wB_X6_coinsBy_128 kh10 p2 p4 k (wL_X6_coinsBy_128 kh10 p2 p4 k n) v6 v7 S := h
    unfold wB_X6_coinsBy_128 at h
    refine go_iload C 128 130 7 5 dX6_coinsBy_128 rfl rfl ?_
    refine go_aload_n C 130 131 0 0 dX6_coinsBy_130 rfl rfl rfl ?_
    refine go_getI C 131 134 iw6 25 (lu25 ex) rfl 9 (by decide) k530_ rfl rfl dX6_coinsBy_131 rfl ?_
    refine go_icmp_ge C 134 137 199 dX6_coinsBy_134 (by decide) rfl (fun hc => ?_) (fun hc => ?_)
    · have h := h.1 hc
      exact go_perm [0, 1, 2, 3, 4] rfl (hk _ _ _ h)
    · have h := h.2 hc
      refine go_aload_n C 137 138 0 0 dX6_coinsBy_137 rfl rfl rfl ?_
      refine go_getR C 138 141 iw6 25 (lu25 ex) rfl 7 (by decide) k528_ rfl rfl dX6_coinsBy_138 rfl ?_
      refine go_iload C 141 143 7 5 dX6_coinsBy_141 rfl rfl ?_
      obtain ⟨hi1, h⟩ := h
      refine go_zald C 143 144 32 (lu32 ex) hi1 dX6_coinsBy_143 rfl ?_
      refine go_if_eq C 144 147 193 dX6_coinsBy_144 (by decide) rfl (fun hc => ?_) (fun hc => ?_)
      · have h := h.1 hc
        refine go_iinc C 193 196 7 5 (v7 + 1) [(7, .int _), (0, .ref _), (2, .long _), (4, .int _), (5, .ref _), (6, .int _)] dX6_coinsBy_193 rfl rfl (by decide) rfl rfl ?_
        refine go_goto C 196 128 dX6_coinsBy_196 (by decide) ?_
        exact go_perm [1, 2, 3, 4, 5, 0] rfl (ih _ _ _ h)
      · have h := h.2 hc
        refine go_aload C 147 149 5 3 dX6_coinsBy_147 rfl rfl ?_
        refine go_iload C 149 151 7 5 dX6_coinsBy_149 rfl rfl ?_
        obtain ⟨hi2, h⟩ := h
        refine go_zald C 151 152 kh10 hkh10 hi2 dX6_coinsBy_151 rfl ?_
        refine go_if_ne C 152 155 193 dX6_coinsBy_152 (by decide) rfl (fun hc => ?_) (fun hc => ?_)
        · have h := h.1 hc
          refine go_iinc C 193 196 7 5 (v7 + 1) [(7, .int _), (0, .ref _), (2, .long _), (4, .int _), (5, .ref _), (6, .int _)] dX6_coinsBy_193 rfl rfl (by decide) rfl rfl ?_
          refine go_goto C 196 128 dX6_coinsBy_196 (by decide) ?_
          exact go_perm [1, 2, 3, 4, 5, 0] rfl (ih _ _ _ h)
        · have h := h.2 hc
          refine go_iload C 155 157 6 4 dX6_coinsBy_155 rfl rfl ?_
          refine go_iconst C 157 158 (-1) dX6_coinsBy_157 (by decide) rfl ?_
          refine go_icmp_eq C 158 161 189 dX6_coinsBy_158 (by decide) rfl (fun hc => ?_) (fun hc => ?_)
          · have h := h.1 hc
            refine go_iload C 189 191 7 5 dX6_coinsBy_189 rfl rfl ?_
            refine go_istore C 191 193 6 [(6, .int _), (0, .ref _), (2, .long _), (4, .int _), (5, .ref _), (7, .int _)] dX6_coinsBy_191 (by decide) rfl rfl ?_
            refine go_iinc C 193 196 7 5 (v7 + 1) [(7, .int _), (6, .int _), (0, .ref _), (2, .long _), (4, .int _), (5, .ref _)] dX6_coinsBy_193 rfl rfl (by decide) rfl rfl ?_
            refine go_goto C 196 128 dX6_coinsBy_196 (by decide) ?_
            exact go_perm [2, 3, 4, 5, 1, 0] rfl (ih _ _ _ h)
          · have h := h.2 hc
            refine go_aload_n C 161 162 0 0 dX6_coinsBy_161 rfl rfl rfl ?_
            refine go_getR C 162 165 iw6 25 (lu25 ex) rfl 21 (by decide) k542_ rfl rfl dX6_coinsBy_162 rfl ?_
            refine go_iload C 165 167 7 5 dX6_coinsBy_165 rfl rfl ?_
            obtain ⟨hi3, h⟩ := h
            refine go_lald C 167 168 40 (lu40 ex) hi3 dX6_coinsBy_167 rfl ?_
            refine go_aload_n C 168 169 0 0 dX6_coinsBy_168 rfl rfl rfl ?_
            refine go_getJ C 169 172 iw6 25 (lu25 ex) rfl 22 (by decide) k543_ rfl rfl dX6_coinsBy_169 rfl ?_
            obtain ⟨hi4, h⟩ := h
            refine go_lrem C 172 173 hi4 dX6_coinsBy_172 rfl ?_
            refine go_aload_n C 173 174 0 0 dX6_coinsBy_173 rfl rfl rfl ?_
            refine go_getR C 174 177 iw6 25 (lu25 ex) rfl 21 (by decide) k542_ rfl rfl dX6_coinsBy_174 rfl ?_
            refine go_iload C 177 179 6 4 dX6_coinsBy_177 rfl rfl ?_
            obtain ⟨hi5, h⟩ := h
            refine go_lald C 179 180 40 (lu40 ex) hi5 dX6_coinsBy_179 rfl ?_
            refine go_aload_n C 180 181 0 0 dX6_coinsBy_180 rfl rfl rfl ?_
            refine go_getJ C 181 184 iw6 25 (lu25 ex) rfl 22 (by decide) k543_ rfl rfl dX6_coinsBy_181 rfl ?_
            obtain ⟨hi6, h⟩ := h
            refine go_lrem C 184 185 hi6 dX6_coinsBy_184 rfl ?_
            refine go_lcmp_le C 185 189 193 dX6_coinsBy_185 dX6_coinsBy_186 (by decide) rfl (fun hc => ?_) (fun hc => ?_)
            · have h := h.1 hc
              refine go_iinc C 193 196 7 5 (v7 + 1) [(7, .int _), (0, .ref _), (2, .long _), (4, .int _), (5, .ref _), (6, .int _)] dX6_coinsBy_193 rfl rfl (by decide) rfl rfl ?_
              refine go_goto C 196 128 dX6_coinsBy_196 (by decide) ?_
              exact go_perm [1, 2, 3, 4, 5, 0] rfl (ih _ _ _ h)
            · have h := h.2 hc
              refine go_iload C 189 191 7 5 dX6_coinsBy_189 rfl rfl ?_
              refine go_istore C 191 193 6 [(6, .int _), (0, .ref _), (2, .long _), (4, .int _), (5, .ref _), (7, .int _)] dX6_coinsBy_191 (by decide) rfl rfl ?_
              refine go_iinc C 193 196 7 5 (v7 + 1) [(7, .int _), (6, .int _), (0, .ref _), (2, .long _), (4, .int _), (5, .ref _)] dX6_coinsBy_193 rfl rfl (by decide) rfl rfl ?_
              refine go_goto C 196 128 dX6_coinsBy_196 (by decide) ?_
              exact go_perm [2, 3, 4, 5, 1, 0] rfl (ih _ _ _ h)
def wB_X6_coinsBy_111 (kh10 : Nat) (p4 : Int32) (k rec : Int64 → St → Prop) (v2 : Int64) (S : St) : Prop :=
  (v2 ≤ (0 : Int64) → k v2 S) ∧ (¬ (v2 ≤ (0 : Int64)) → (p4 = 0 → k v2 S) ∧ (¬ (p4 = 0) → ∃ fu10, wL_X6_coinsBy_128 kh10 v2 p4 (fun (z2 : Int32) (z3 : Int32) (S1 : St) => (vp_in z2 8) ∧ (∀ S5 : St, S5 = uI S1 kh10 z2.toNatClampNeg (vp_nar .boolean (1 : Int32)) → (vp_in z2 8) ∧ ((vp_in z2 8) ∧ (∀ S8 : St, S8 = uI S5 42 z2.toNatClampNeg ((S5.1 42 z2.toNatClampNeg) + (1 : Int32)) → ∀ x9 : Int64, x9 = (v2 - (1 : Int64)) → rec x9 S8)))) fu10 (-1 : Int32) (0 : Int32) S))
def wL_X6_coinsBy_111 (kh10 : Nat) (p4 : Int32) (k : Int64 → St → Prop) : Nat → Int64 → St → Prop
  | 0, _, _ => False
  | n + 1, v2, S => wB_X6_coinsBy_111 kh10 p4 k (wL_X6_coinsBy_111 kh10 p4 k n) v2 S
set_option maxHeartbeats 4000000 in
set_option maxRecDepth 100000 in
theorem L_X6_coinsBy_111 {p : Program} {l : Launch} {e : Env} {s : State} {m : MethodId} {args : Array Value} {below : List Frame} {meth : Method} {c : Code} {D : va_G} {cA : Nat → ClassId} {ad : Nat → Nat} {ex : List Lay} {Q : State → Prop} (C : Cx p s m args meth c cX6_coinsBy 8 none RX6 D cA ad (LU ++ ex)) (kh10 : Nat) (hkh10 : (LU ++ ex)[kh10]? = some (.inl (2, 8, 0))) (p4 : Int32) {k : Int64 → St → Prop} (hk : ∀ (v2 : Int64) (S : St), k v2 S → Go p l e rX6_coinsBy s m args below meth c D cA ad (LU ++ ex) 8 1 8 Q S 223 [(0, .ref (ad 25))] []) : ∀ (n : Nat) (v2 : Int64) (S : St), wL_X6_coinsBy_111 kh10 p4 k n v2 S → Go p l e rX6_coinsBy s m args below meth c D cA ad (LU ++ ex) 8 1 8 Q S 111 [(0, .ref (ad 25)), (2, .long v2), (4, .int p4), (5, .ref (ad kh10))] [] := by
  intro n
  induction n with
  | zero => intro v2 S h; exact h.elim
  | succ n ih =>
    intro v2 S h
    replace h : wB_X6_coinsBy_111 kh10 p4 k (wL_X6_coinsBy_111 kh10 p4 k n) v2 S := h
    unfold wB_X6_coinsBy_111 at h
    refine go_lload_n C 111 112 2 1 dX6_coinsBy_111 rfl rfl rfl ?_
    refine go_lconst C 112 113 0 dX6_coinsBy_112 rfl rfl ?_
    refine go_lcmp_le C 113 117 223 dX6_coinsBy_113 dX6_coinsBy_114 (by decide) rfl (fun hc => ?_) (fun hc => ?_)
    · have h := h.1 hc
      exact go_perm [0] rfl (hk _ _ h)
    · have h := h.2 hc
      refine go_iload C 117 119 4 2 dX6_coinsBy_117 rfl rfl ?_
      refine go_if_eq C 119 122 223 dX6_coinsBy_119 (by decide) rfl (fun hc => ?_) (fun hc => ?_)
      · have h := h.1 hc
        exact go_perm [0] rfl (hk _ _ h)
      · have h := h.2 hc
        refine go_iconst C 122 123 (-1) dX6_coinsBy_122 (by decide) rfl ?_
        refine go_istore C 123 125 6 [(6, .int _), (0, .ref _), (2, .long _), (4, .int _), (5, .ref _)] dX6_coinsBy_123 (by decide) rfl rfl ?_
        refine go_iconst C 125 126 (0) dX6_coinsBy_125 (by decide) rfl ?_
        refine go_istore C 126 128 7 [(7, .int _), (6, .int _), (0, .ref _), (2, .long _), (4, .int _), (5, .ref _)] dX6_coinsBy_126 (by decide) rfl rfl ?_
        obtain ⟨fu10, h⟩ := h
        refine go_perm [2, 3, 4, 5, 1, 0] rfl (L_X6_coinsBy_128 C kh10 hkh10 _ _ (fun z2 z3 S1 h => ?_) _ _ _ _ h)
        refine go_aload C 199 201 5 3 dX6_coinsBy_199 rfl rfl ?_
        refine go_iload C 201 203 6 4 dX6_coinsBy_201 rfl rfl ?_
        refine go_iconst C 203 204 (1) dX6_coinsBy_203 (by decide) rfl ?_
        obtain ⟨hi4, h⟩ := h
        refine go_zast C 204 205 kh10 hkh10 hi4 dX6_coinsBy_204 rfl ?_
        refine go_nm (fun S5 hS5 => ?_)
        replace h := h S5 hS5
        refine go_aload_n C 205 206 0 0 dX6_coinsBy_205 rfl rfl rfl ?_
        refine go_getR C 206 209 iw6 25 (lu25 ex) rfl 25 (by decide) k546_ rfl rfl dX6_coinsBy_206 rfl ?_
        refine go_iload C 209 211 6 4 dX6_coinsBy_209 rfl rfl ?_
        refine go_dup2 C 211 212 rfl rfl dX6_coinsBy_211 rfl ?_
        obtain ⟨hi6, h⟩ := h
        refine go_iald C 212 213 42 (lu42 ex) hi6 dX6_coinsBy_212 rfl ?_
        refine go_iconst C 213 214 (1) dX6_coinsBy_213 (by decide) rfl ?_
        refine go_iadd C 214 215 dX6_coinsBy_214 rfl ?_
        obtain ⟨hi7, h⟩ := h
        refine go_iast C 215 216 42 (lu42 ex) hi7 dX6_coinsBy_215 rfl ?_
        refine go_nm (fun S8 hS8 => ?_)
        replace h := h S8 hS8
        refine go_lload_n C 216 217 2 1 dX6_coinsBy_216 rfl rfl rfl ?_
        refine go_lconst C 217 218 1 dX6_coinsBy_217 rfl rfl ?_
        refine go_lsub C 218 219 dX6_coinsBy_218 rfl ?_
        refine go_topl (fun x9 hx9 => ?_)
        replace h := h x9 hx9
        refine go_lstore_n C 219 220 2 [(2, .long _), (0, .ref _), (4, .int _), (5, .ref _), (6, .int _)] dX6_coinsBy_219 rfl (by decide) rfl rfl ?_
        refine go_goto C 220 111 dX6_coinsBy_220 (by decide) ?_
        exact go_perm [1, 0, 2, 3] rfl (ih _ _ h)
def wB_X6_coinsBy_226 (kh10 : Nat) (k rec : Int32 → St → Prop) (v6 : Int32) (S : St) : Prop :=
  ((S.1 25 9) ≤ v6 → k v6 S) ∧ (¬ ((S.1 25 9) ≤ v6) → (vp_in v6 8) ∧ (((S.1 32 v6.toNatClampNeg) = 0 → rec (v6 + 1) S) ∧ (¬ ((S.1 32 v6.toNatClampNeg) = 0) → (vp_in v6 8) ∧ ((vp_in v6 8) ∧ ((vp_in v6 8) ∧ (∀ S5 : St, S5 = uI S 42 v6.toNatClampNeg ((S.1 42 v6.toNatClampNeg) + (S.1 30 v6.toNatClampNeg)) → rec (v6 + 1) S5))))))
def wL_X6_coinsBy_226 (kh10 : Nat) (k : Int32 → St → Prop) : Nat → Int32 → St → Prop
  | 0, _, _ => False
  | n + 1, v6, S => wB_X6_coinsBy_226 kh10 k (wL_X6_coinsBy_226 kh10 k n) v6 S
set_option maxHeartbeats 4000000 in
set_option maxRecDepth 100000 in
theorem L_X6_coinsBy_226 {p : Program} {l : Launch} {e : Env} {s : State} {m : MethodId} {args : Array Value} {below : List Frame} {meth : Method} {c : Code} {D : va_G} {cA : Nat → ClassId} {ad : Nat → Nat} {ex : List Lay} {Q : State → Prop} (C : Cx p s m args meth c cX6_coinsBy 8 none RX6 D cA ad (LU ++ ex)) (kh10 : Nat) (hkh10 : (LU ++ ex)[kh10]? = some (.inl (2, 8, 0))) {k : Int32 → St → Prop} (hk : ∀ (v6 : Int32) (S : St), k v6 S → Go p l e rX6_coinsBy s m args below meth c D cA ad (LU ++ ex) 8 1 8 Q S 268 [] []) : ∀ (n : Nat) (v6 : Int32) (S : St), wL_X6_coinsBy_226 kh10 k n v6 S → Go p l e rX6_coinsBy s m args below meth c D cA ad (LU ++ ex) 8 1 8 Q S 226 [(0, .ref (ad 25)), (6, .int v6)] [] := by
  intro n
  induction n with
  | zero => intro v6 S h; exact h.elim
  | succ n ih =>
    intro v6 S h
    replace h : wB_X6_coinsBy_226 kh10 k (wL_X6_coinsBy_226 kh10 k n) v6 S := h
    unfold wB_X6_coinsBy_226 at h
    refine go_iload C 226 228 6 1 dX6_coinsBy_226 rfl rfl ?_
    refine go_aload_n C 228 229 0 0 dX6_coinsBy_228 rfl rfl rfl ?_
    refine go_getI C 229 232 iw6 25 (lu25 ex) rfl 9 (by decide) k530_ rfl rfl dX6_coinsBy_229 rfl ?_
    refine go_icmp_ge C 232 235 268 dX6_coinsBy_232 (by decide) rfl (fun hc => ?_) (fun hc => ?_)
    · have h := h.1 hc
      exact go_perm [] rfl (hk _ _ h)
    · have h := h.2 hc
      refine go_aload_n C 235 236 0 0 dX6_coinsBy_235 rfl rfl rfl ?_
      refine go_getR C 236 239 iw6 25 (lu25 ex) rfl 7 (by decide) k528_ rfl rfl dX6_coinsBy_236 rfl ?_
      refine go_iload C 239 241 6 1 dX6_coinsBy_239 rfl rfl ?_
      obtain ⟨hi1, h⟩ := h
      refine go_zald C 241 242 32 (lu32 ex) hi1 dX6_coinsBy_241 rfl ?_
      refine go_if_eq C 242 245 262 dX6_coinsBy_242 (by decide) rfl (fun hc => ?_) (fun hc => ?_)
      · have h := h.1 hc
        refine go_iinc C 262 265 6 1 (v6 + 1) [(6, .int _), (0, .ref _)] dX6_coinsBy_262 rfl rfl (by decide) rfl rfl ?_
        refine go_goto C 265 226 dX6_coinsBy_265 (by decide) ?_
        exact go_perm [1, 0] rfl (ih _ _ h)
      · have h := h.2 hc
        refine go_aload_n C 245 246 0 0 dX6_coinsBy_245 rfl rfl rfl ?_
        refine go_getR C 246 249 iw6 25 (lu25 ex) rfl 25 (by decide) k546_ rfl rfl dX6_coinsBy_246 rfl ?_
        refine go_iload C 249 251 6 1 dX6_coinsBy_249 rfl rfl ?_
        refine go_dup2 C 251 252 rfl rfl dX6_coinsBy_251 rfl ?_
        obtain ⟨hi2, h⟩ := h
        refine go_iald C 252 253 42 (lu42 ex) hi2 dX6_coinsBy_252 rfl ?_
        refine go_aload_n C 253 254 0 0 dX6_coinsBy_253 rfl rfl rfl ?_
        refine go_getR C 254 257 iw6 25 (lu25 ex) rfl 5 (by decide) k526_ rfl rfl dX6_coinsBy_254 rfl ?_
        refine go_iload C 257 259 6 1 dX6_coinsBy_257 rfl rfl ?_
        obtain ⟨hi3, h⟩ := h
        refine go_iald C 259 260 30 (lu30 ex) hi3 dX6_coinsBy_259 rfl ?_
        refine go_iadd C 260 261 dX6_coinsBy_260 rfl ?_
        obtain ⟨hi4, h⟩ := h
        refine go_iast C 261 262 42 (lu42 ex) hi4 dX6_coinsBy_261 rfl ?_
        refine go_nm (fun S5 hS5 => ?_)
        replace h := h S5 hS5
        refine go_iinc C 262 265 6 1 (v6 + 1) [(6, .int _), (0, .ref _)] dX6_coinsBy_262 rfl rfl (by decide) rfl rfl ?_
        refine go_goto C 265 226 dX6_coinsBy_265 (by decide) ?_
        exact go_perm [1, 0] rfl (ih _ _ h)
def wp_X6_coinsBy (kb : Nat) (S : St) (a1 : Int32) (post : St → Prop) : Prop :=
  wp_X6_bills S a1 (fun (S1 : St) => wp_X6_costOf S1 (S1.1 25 24) (fun (r4 : Int32) (S3 : St) => ∀ x5 : Int64, x5 = r4.toInt64 → ∃ fu18, wL_X6_coinsBy_21 (fun (z7 : Int64) (z8 : Int32) (z9 : Int32) (S6 : St) => ∀ kh10 : Nat, 61 ≤ kh10 → kb ≤ kh10 → ∀ S11 : St, S11 = uZ S6 kh10 → ∃ fu17, wL_X6_coinsBy_111 kh10 z8 (fun (z13 : Int64) (S12 : St) => ∃ fu16, wL_X6_coinsBy_226 kh10 (fun (z15 : Int32) (S14 : St) => post S14) fu16 (0 : Int32) S12) fu17 z7 S11) fu18 x5 (0 : Int32) (0 : Int32) S3))
set_option maxHeartbeats 4000000 in
set_option maxRecDepth 100000 in
theorem c_X6_coinsBy {l : Launch} {D : va_G} {cA : Nat → ClassId} {ad : Nat → Nat} {ex : List Lay} (kb : Nat) (hkb : kb ≤ (LU ++ ex).length) (S : St) (a1 : Int32)  {post : St → Prop} (h : wp_X6_coinsBy kb S a1 post) : MetV l yX6_coinsBy cX6_coinsBy 8 none rX6_coinsBy D cA ad (LU ++ ex) [.ref (ad 25), .int a1] S post 1 8 := by
  refine MetV.of (by decide) (Nat.le_of_ble_eq_true rfl) ?_
  intro p e s m args below meth c C
  unfold wp_X6_coinsBy at h
  show Go p l e rX6_coinsBy s m args below meth c D cA ad (LU ++ ex) 8 0 0 _ S 0 [(0, .ref (ad 25)), (1, .int a1)] []
  replace C : Cx p s m args meth c cX6_coinsBy 8 none RX6 D cA ad (LU ++ ex) := C
  refine go_aload_n C 0 1 0 0 dX6_coinsBy_0 rfl rfl rfl ?_
  refine go_iload_n C 1 2 1 1 dX6_coinsBy_1 rfl rfl rfl ?_
  refine go_vv C 2 5 0 0 [.int a1] 25 (lu25 ex) rfl (c_X6_bills _ _  h) k709_ k712_ k57_ k711_ k46_ qX6_bills mhX6_bills (by decide) (by decide) rfl rfl rfl rfl (Nat.le_of_ble_eq_true rfl) rfl rfl dX6_coinsBy_2 (fun S1 h => ?_)
  refine go_aload_n C 5 6 0 0 dX6_coinsBy_5 rfl rfl rfl ?_
  refine go_aload_n C 6 7 0 0 dX6_coinsBy_6 rfl rfl rfl ?_
  refine go_getI C 7 10 iw6 25 (lu25 ex) rfl 24 (by decide) k545_ rfl rfl dX6_coinsBy_7 rfl ?_
  refine go_vi C 10 13 0 0 [.int (S1.1 25 24)] 25 (lu25 ex) rfl (c_X6_costOf _ _  h) k670_ k673_ k57_ k672_ k41_ qX6_costOf mhX6_costOf (by decide) (by decide) rfl rfl rfl rfl (Nat.le_of_ble_eq_true rfl) rfl rfl dX6_coinsBy_10 (fun r4 S3 h => ?_)
  refine go_i2l C 13 14 dX6_coinsBy_13 rfl ?_
  refine go_topl (fun x5 hx5 => ?_)
  replace h := h x5 hx5
  refine go_lstore_n C 14 15 2 [(2, .long _), (0, .ref _), (1, .int _)] dX6_coinsBy_14 rfl (by decide) rfl rfl ?_
  refine go_iconst C 15 16 (0) dX6_coinsBy_15 (by decide) rfl ?_
  refine go_istore C 16 18 4 [(4, .int _), (2, .long _), (0, .ref _), (1, .int _)] dX6_coinsBy_16 (by decide) rfl rfl ?_
  refine go_iconst C 18 19 (0) dX6_coinsBy_18 (by decide) rfl ?_
  refine go_istore C 19 21 5 [(5, .int _), (4, .int _), (2, .long _), (0, .ref _), (1, .int _)] dX6_coinsBy_19 (by decide) rfl rfl ?_
  obtain ⟨fu18, h⟩ := h
  refine go_perm [3, 2, 1, 0] rfl (L_X6_coinsBy_21 C   (fun z7 z8 z9 S6 h => ?_) _ _ _ _ _ h)
  refine go_bipush C 105 107 (8) dX6_coinsBy_105 (by decide) rfl ?_
  refine go_newz C 107 109 kArrZ dX6_coinsBy_107 rfl (by decide) (by decide) rfl rfl (fun ad2 ex2 kh10 hge hgl C2 hkh10 had hsh => ?_)
  replace h := h kh10 hge (Nat.le_trans hkb hgl)
  refine go_nm (fun S11 hS11 => ?_)
  replace h := h S11 hS11
  rw [had 25 (by decide)]
  refine go_astore C2 109 111 5 [(5, .ref _), (0, .ref _), (2, .long _), (4, .int _)] dX6_coinsBy_109 (by decide) rfl rfl ?_
  obtain ⟨fu17, h⟩ := h
  refine go_perm [1, 2, 3, 0] rfl (L_X6_coinsBy_111 C2 kh10 hkh10 _ (fun z13 S12 h => ?_) _ _ _ h)
  refine go_iconst C2 223 224 (0) dX6_coinsBy_223 (by decide) rfl ?_
  refine go_istore C2 224 226 6 [(6, .int _), (0, .ref _)] dX6_coinsBy_224 (by decide) rfl rfl ?_
  obtain ⟨fu16, h⟩ := h
  refine go_perm [1, 0] rfl (L_X6_coinsBy_226 C2 kh10 hkh10 (fun z15 S14 h => ?_) _ _ _ h)
  refine hsh _ _ _ _ _ _ ?_
  exact go_vret C 268 rfl dX6_coinsBy_268 h
-- BillHouseModel.coins(II)I
theorem qX6_coins : (parseMethodDescriptor yX6_coins.desc).map (fun d => d.parameters.length) = some 2 := by decide +kernel
theorem mhX6_coins : yX6_coins.cls ≠ "java/lang/invoke/MethodHandle" ∧ yX6_coins.cls ≠ "java/lang/invoke/VarHandle" := by decide +kernel
def rX6_coins : Room := { frames := 13, cells := 1, slots := 8, locals := 338 }
def wp_X6_coins (S : St) (a1 : Int32) (a2 : Int32) (post : Int32 → St → Prop) : Prop :=
  ∀ S1 : St, S1 = uI S 25 0 (0 : Int32) → wp_X6_isRule S1 a1 (fun (r3 : Int32) (S2 : St) => (r3 = 0 → post (-1000000 : Int32) S2) ∧ (¬ (r3 = 0) → wp_X6_isThere S2 a2 (fun (r5 : Int32) (S4 : St) => (¬ r5 = 0 → wp_X6_coinsBy 61 S4 a1 (fun (S6 : St) => (vp_in a2 8) ∧ (post (S6.1 42 a2.toNatClampNeg) S6))) ∧ (r5 = 0 → post (-1000000 : Int32) S4))))
set_option maxHeartbeats 4000000 in
set_option maxRecDepth 100000 in
theorem c_X6_coins {l : Launch} {D : va_G} {cA : Nat → ClassId} {ad : Nat → Nat} {ex : List Lay} (S : St) (a1 : Int32) (a2 : Int32)  {post : Int32 → St → Prop} (h : wp_X6_coins S a1 a2 post) : MetI l yX6_coins cX6_coins 3 (some .int) rX6_coins D cA ad (LU ++ ex) [.ref (ad 25), .int a1, .int a2] S post 1 8 := by
  refine MetI.of (by decide) (Nat.le_of_ble_eq_true rfl) ?_
  intro p e s m args below meth c C
  unfold wp_X6_coins at h
  show Go p l e rX6_coins s m args below meth c D cA ad (LU ++ ex) 3 0 0 _ S 0 [(0, .ref (ad 25)), (1, .int a1), (2, .int a2)] []
  replace C : Cx p s m args meth c cX6_coins 3 (some .int) RX6 D cA ad (LU ++ ex) := C
  refine go_aload_n C 0 1 0 0 dX6_coins_0 rfl rfl rfl ?_
  refine go_iconst C 1 2 (0) dX6_coins_1 (by decide) rfl ?_
  refine go_putI C 2 5 iw6 25 (lu25 ex) rfl 0 (by decide) tyX6 tyX6_ok nmX6 k521_ rfl rfl rfl (by decide +kernel) dX6_coins_2 rfl ?_
  refine go_nm (fun S1 hS1 => ?_)
  replace h := h S1 hS1
  refine go_iload_n C 5 6 1 1 dX6_coins_5 rfl rfl rfl ?_
  refine go_si C 6 9 0 0 [.int a1] (c_X6_isRule _ _  h) k702_ k704_ k57_ k703_ qX6_isRule mhX6_isRule (by decide) (by decide) rfl rfl rfl rfl (Nat.le_of_ble_eq_true rfl) rfl rfl dX6_coins_6 (fun r3 S2 h => ?_)
  refine go_if_eq C 9 12 20 dX6_coins_9 (by decide) rfl (fun hc => ?_) (fun hc => ?_)
  · have h := h.1 hc
    refine go_ldc C 20 22 k721_ dX6_coins_20 rfl ?_
    refine go_widen (k := 1) (n := 8) (by decide) (by decide) ?_
    exact go_iret C 22 rfl dX6_coins_22 h
  · have h := h.2 hc
    refine go_aload_n C 12 13 0 0 dX6_coins_12 rfl rfl rfl ?_
    refine go_iload_n C 13 14 2 2 dX6_coins_13 rfl rfl rfl ?_
    refine go_vi C 14 17 0 0 [.int a2] 25 (lu25 ex) rfl (c_X6_isThere _ _  h) k705_ k708_ k57_ k707_ k45_ qX6_isThere mhX6_isThere (by decide) (by decide) rfl rfl rfl rfl (Nat.le_of_ble_eq_true rfl) rfl rfl dX6_coins_14 (fun r5 S4 h => ?_)
    refine go_if_ne C 17 20 23 dX6_coins_17 (by decide) rfl (fun hc => ?_) (fun hc => ?_)
    · have h := h.1 hc
      refine go_aload_n C 23 24 0 0 dX6_coins_23 rfl rfl rfl ?_
      refine go_iload_n C 24 25 1 1 dX6_coins_24 rfl rfl rfl ?_
      refine go_vv C 25 28 1 8 [.int a1] 25 (lu25 ex) rfl (c_X6_coinsBy 61 ge61 _ _  h) k722_ k725_ k57_ k724_ k48_ qX6_coinsBy mhX6_coinsBy (by decide) (by decide) rfl rfl rfl rfl (Nat.le_of_ble_eq_true rfl) rfl rfl dX6_coins_25 (fun S6 h => ?_)
      refine go_aload_n C 28 29 0 0 dX6_coins_28 rfl rfl rfl ?_
      refine go_getR C 29 32 iw6 25 (lu25 ex) rfl 25 (by decide) k546_ rfl rfl dX6_coins_29 rfl ?_
      refine go_iload_n C 32 33 2 2 dX6_coins_32 rfl rfl rfl ?_
      obtain ⟨hi8, h⟩ := h
      refine go_iald C 33 34 42 (lu42 ex) hi8 dX6_coins_33 rfl ?_
      exact go_iret C 34 rfl dX6_coins_34 h
    · have h := h.2 hc
      refine go_ldc C 20 22 k721_ dX6_coins_20 rfl ?_
      refine go_widen (k := 1) (n := 8) (by decide) (by decide) ?_
      exact go_iret C 22 rfl dX6_coins_22 h
-- BillHouseModel.book(I)I
theorem qX6_book : (parseMethodDescriptor yX6_book.desc).map (fun d => d.parameters.length) = some 1 := by decide +kernel
theorem mhX6_book : yX6_book.cls ≠ "java/lang/invoke/MethodHandle" ∧ yX6_book.cls ≠ "java/lang/invoke/VarHandle" := by decide +kernel
def rX6_book : Room := { frames := 13, cells := 1, slots := 8, locals := 338 }
def wB_X6_book_23 (k rec : Int32 → Int32 → St → Prop) (v2 : Int32) (v3 : Int32) (S : St) : Prop :=
  ((S.1 25 9) ≤ v3 → k v2 v3 S) ∧ (¬ ((S.1 25 9) ≤ v3) → (vp_in v3 8) ∧ ((vp_in v3 8) ∧ (((S.1 42 v3.toNatClampNeg) = (S.1 31 v3.toNatClampNeg) → ∀ x3 : Int32, x3 = (v2 + (0 : Int32)) → rec x3 (v3 + 1) S) ∧ (¬ ((S.1 42 v3.toNatClampNeg) = (S.1 31 v3.toNatClampNeg)) → ∀ x4 : Int32, x4 = (v2 + (1 : Int32)) → rec x4 (v3 + 1) S))))
def wL_X6_book_23 (k : Int32 → Int32 → St → Prop) : Nat → Int32 → Int32 → St → Prop
  | 0, _, _, _ => False
  | n + 1, v2, v3, S => wB_X6_book_23 k (wL_X6_book_23 k n) v2 v3 S
set_option maxHeartbeats 4000000 in
set_option maxRecDepth 100000 in
theorem L_X6_book_23 {p : Program} {l : Launch} {e : Env} {s : State} {m : MethodId} {args : Array Value} {below : List Frame} {meth : Method} {c : Code} {D : va_G} {cA : Nat → ClassId} {ad : Nat → Nat} {ex : List Lay} {Q : State → Prop} (C : Cx p s m args meth c cX6_book 4 (some .int) RX6 D cA ad (LU ++ ex))   {k : Int32 → Int32 → St → Prop} (hk : ∀ (v2 : Int32) (v3 : Int32) (S : St), k v2 v3 S → Go p l e rX6_book s m args below meth c D cA ad (LU ++ ex) 4 1 8 Q S 60 [(0, .ref (ad 25)), (2, .int v2)] []) : ∀ (n : Nat) (v2 : Int32) (v3 : Int32) (S : St), wL_X6_book_23 k n v2 v3 S → Go p l e rX6_book s m args below meth c D cA ad (LU ++ ex) 4 1 8 Q S 23 [(0, .ref (ad 25)), (2, .int v2), (3, .int v3)] [] := by
  intro n
  induction n with
  | zero => intro v2 v3 S h; exact h.elim
  | succ n ih =>
    intro v2 v3 S h
    replace h : wB_X6_book_23 k (wL_X6_book_23 k n) v2 v3 S := h
    unfold wB_X6_book_23 at h
    refine go_iload_n C 23 24 3 2 dX6_book_23 rfl rfl rfl ?_
    refine go_aload_n C 24 25 0 0 dX6_book_24 rfl rfl rfl ?_
    refine go_getI C 25 28 iw6 25 (lu25 ex) rfl 9 (by decide) k530_ rfl rfl dX6_book_25 rfl ?_
    refine go_icmp_ge C 28 31 60 dX6_book_28 (by decide) rfl (fun hc => ?_) (fun hc => ?_)
    · have h := h.1 hc
      exact go_perm [0, 1] rfl (hk _ _ _ h)
    · have h := h.2 hc
      refine go_iload_n C 31 32 2 1 dX6_book_31 rfl rfl rfl ?_
      refine go_aload_n C 32 33 0 0 dX6_book_32 rfl rfl rfl ?_
      refine go_getR C 33 36 iw6 25 (lu25 ex) rfl 25 (by decide) k546_ rfl rfl dX6_book_33 rfl ?_
      refine go_iload_n C 36 37 3 2 dX6_book_36 rfl rfl rfl ?_
      obtain ⟨hi1, h⟩ := h
      refine go_iald C 37 38 42 (lu42 ex) hi1 dX6_book_37 rfl ?_
      refine go_aload_n C 38 39 0 0 dX6_book_38 rfl rfl rfl ?_
      refine go_getR C 39 42 iw6 25 (lu25 ex) rfl 6 (by decide) k527_ rfl rfl dX6_book_39 rfl ?_
      refine go_iload_n C 42 43 3 2 dX6_book_42 rfl rfl rfl ?_
      obtain ⟨hi2, h⟩ := h
      refine go_iald C 43 44 31 (lu31 ex) hi2 dX6_book_43 rfl ?_
      refine go_icmp_eq C 44 47 51 dX6_book_44 (by decide) rfl (fun hc => ?_) (fun hc => ?_)
      · have h := h.1 hc
        refine go_iconst C 51 52 (0) dX6_book_51 (by decide) rfl ?_
        refine go_iadd C 52 53 dX6_book_52 rfl ?_
        refine go_topi (fun x3 hx3 => ?_)
        replace h := h x3 hx3
        refine go_istore_n C 53 54 2 [(2, .int _), (0, .ref _), (3, .int _)] dX6_book_53 rfl (by decide) rfl rfl ?_
        refine go_iinc C 54 57 3 2 (v3 + 1) [(3, .int _), (2, .int _), (0, .ref _)] dX6_book_54 rfl rfl (by decide) rfl rfl ?_
        refine go_goto C 57 23 dX6_book_57 (by decide) ?_
        exact go_perm [2, 1, 0] rfl (ih _ _ _ h)
      · have h := h.2 hc
        refine go_iconst C 47 48 (1) dX6_book_47 (by decide) rfl ?_
        refine go_goto C 48 52 dX6_book_48 (by decide) ?_
        refine go_iadd C 52 53 dX6_book_52 rfl ?_
        refine go_topi (fun x4 hx4 => ?_)
        replace h := h x4 hx4
        refine go_istore_n C 53 54 2 [(2, .int _), (0, .ref _), (3, .int _)] dX6_book_53 rfl (by decide) rfl rfl ?_
        refine go_iinc C 54 57 3 2 (v3 + 1) [(3, .int _), (2, .int _), (0, .ref _)] dX6_book_54 rfl rfl (by decide) rfl rfl ?_
        refine go_goto C 57 23 dX6_book_57 (by decide) ?_
        exact go_perm [2, 1, 0] rfl (ih _ _ _ h)
def wB_X6_book_76 (p2 : Int32) (k rec : Int32 → St → Prop) (v3 : Int32) (S : St) : Prop :=
  ((S.1 25 9) ≤ v3 → k v3 S) ∧ (¬ ((S.1 25 9) ≤ v3) → (vp_in v3 8) ∧ ((vp_in v3 8) ∧ ((¬ (S.1 42 v3.toNatClampNeg) = (S.1 31 v3.toNatClampNeg) → (vp_in (S.1 25 10) 400) ∧ (∀ S4 : St, S4 = uI S 33 ((S.1 25 10).toNatClampNeg) (S.1 25 11) → (vp_in (S4.1 25 10) 400) ∧ (∀ S6 : St, S6 = uI S4 34 ((S4.1 25 10).toNatClampNeg) v3 → (vp_in v3 8) ∧ ((vp_in v3 8) ∧ ((vp_in (S6.1 25 10) 400) ∧ (∀ S10 : St, S10 = uI S6 35 ((S6.1 25 10).toNatClampNeg) ((S6.1 42 v3.toNatClampNeg) - (S6.1 31 v3.toNatClampNeg)) → ∀ S11 : St, S11 = uI S10 25 10 ((S10.1 25 10) + (1 : Int32)) → (vp_in v3 8) ∧ ((vp_in v3 8) ∧ (∀ S14 : St, S14 = uI S11 31 v3.toNatClampNeg (S11.1 42 v3.toNatClampNeg) → rec (v3 + 1) S14)))))))) ∧ ((S.1 42 v3.toNatClampNeg) = (S.1 31 v3.toNatClampNeg) → rec (v3 + 1) S))))
def wL_X6_book_76 (p2 : Int32) (k : Int32 → St → Prop) : Nat → Int32 → St → Prop
  | 0, _, _ => False
  | n + 1, v3, S => wB_X6_book_76 p2 k (wL_X6_book_76 p2 k n) v3 S
set_option maxHeartbeats 4000000 in
set_option maxRecDepth 100000 in
theorem L_X6_book_76 {p : Program} {l : Launch} {e : Env} {s : State} {m : MethodId} {args : Array Value} {below : List Frame} {meth : Method} {c : Code} {D : va_G} {cA : Nat → ClassId} {ad : Nat → Nat} {ex : List Lay} {Q : State → Prop} (C : Cx p s m args meth c cX6_book 4 (some .int) RX6 D cA ad (LU ++ ex))   (p2 : Int32) {k : Int32 → St → Prop} (hk : ∀ (v3 : Int32) (S : St), k v3 S → Go p l e rX6_book s m args below meth c D cA ad (LU ++ ex) 4 1 8 Q S 175 [(0, .ref (ad 25)), (2, .int p2)] []) : ∀ (n : Nat) (v3 : Int32) (S : St), wL_X6_book_76 p2 k n v3 S → Go p l e rX6_book s m args below meth c D cA ad (LU ++ ex) 4 1 8 Q S 76 [(0, .ref (ad 25)), (2, .int p2), (3, .int v3)] [] := by
  intro n
  induction n with
  | zero => intro v3 S h; exact h.elim
  | succ n ih =>
    intro v3 S h
    replace h : wB_X6_book_76 p2 k (wL_X6_book_76 p2 k n) v3 S := h
    unfold wB_X6_book_76 at h
    refine go_iload_n C 76 77 3 2 dX6_book_76 rfl rfl rfl ?_
    refine go_aload_n C 77 78 0 0 dX6_book_77 rfl rfl rfl ?_
    refine go_getI C 78 81 iw6 25 (lu25 ex) rfl 9 (by decide) k530_ rfl rfl dX6_book_78 rfl ?_
    refine go_icmp_ge C 81 84 175 dX6_book_81 (by decide) rfl (fun hc => ?_) (fun hc => ?_)
    · have h := h.1 hc
      exact go_perm [0, 1] rfl (hk _ _ h)
    · have h := h.2 hc
      refine go_aload_n C 84 85 0 0 dX6_book_84 rfl rfl rfl ?_
      refine go_getR C 85 88 iw6 25 (lu25 ex) rfl 25 (by decide) k546_ rfl rfl dX6_book_85 rfl ?_
      refine go_iload_n C 88 89 3 2 dX6_book_88 rfl rfl rfl ?_
      obtain ⟨hi1, h⟩ := h
      refine go_iald C 89 90 42 (lu42 ex) hi1 dX6_book_89 rfl ?_
      refine go_aload_n C 90 91 0 0 dX6_book_90 rfl rfl rfl ?_
      refine go_getR C 91 94 iw6 25 (lu25 ex) rfl 6 (by decide) k527_ rfl rfl dX6_book_91 rfl ?_
      refine go_iload_n C 94 95 3 2 dX6_book_94 rfl rfl rfl ?_
      obtain ⟨hi2, h⟩ := h
      refine go_iald C 95 96 31 (lu31 ex) hi2 dX6_book_95 rfl ?_
      refine go_icmp_ne C 96 99 102 dX6_book_96 (by decide) rfl (fun hc => ?_) (fun hc => ?_)
      · have h := h.1 hc
        refine go_aload_n C 102 103 0 0 dX6_book_102 rfl rfl rfl ?_
        refine go_getR C 103 106 iw6 25 (lu25 ex) rfl 12 (by decide) k533_ rfl rfl dX6_book_103 rfl ?_
        refine go_aload_n C 106 107 0 0 dX6_book_106 rfl rfl rfl ?_
        refine go_getI C 107 110 iw6 25 (lu25 ex) rfl 10 (by decide) k531_ rfl rfl dX6_book_107 rfl ?_
        refine go_aload_n C 110 111 0 0 dX6_book_110 rfl rfl rfl ?_
        refine go_getI C 111 114 iw6 25 (lu25 ex) rfl 11 (by decide) k532_ rfl rfl dX6_book_111 rfl ?_
        obtain ⟨hi3, h⟩ := h
        refine go_iast C 114 115 33 (lu33 ex) hi3 dX6_book_114 rfl ?_
        refine go_nm (fun S4 hS4 => ?_)
        replace h := h S4 hS4
        refine go_aload_n C 115 116 0 0 dX6_book_115 rfl rfl rfl ?_
        refine go_getR C 116 119 iw6 25 (lu25 ex) rfl 13 (by decide) k534_ rfl rfl dX6_book_116 rfl ?_
        refine go_aload_n C 119 120 0 0 dX6_book_119 rfl rfl rfl ?_
        refine go_getI C 120 123 iw6 25 (lu25 ex) rfl 10 (by decide) k531_ rfl rfl dX6_book_120 rfl ?_
        refine go_iload_n C 123 124 3 2 dX6_book_123 rfl rfl rfl ?_
        obtain ⟨hi5, h⟩ := h
        refine go_iast C 124 125 34 (lu34 ex) hi5 dX6_book_124 rfl ?_
        refine go_nm (fun S6 hS6 => ?_)
        replace h := h S6 hS6
        refine go_aload_n C 125 126 0 0 dX6_book_125 rfl rfl rfl ?_
        refine go_getR C 126 129 iw6 25 (lu25 ex) rfl 14 (by decide) k535_ rfl rfl dX6_book_126 rfl ?_
        refine go_aload_n C 129 130 0 0 dX6_book_129 rfl rfl rfl ?_
        refine go_getI C 130 133 iw6 25 (lu25 ex) rfl 10 (by decide) k531_ rfl rfl dX6_book_130 rfl ?_
        refine go_aload_n C 133 134 0 0 dX6_book_133 rfl rfl rfl ?_
        refine go_getR C 134 137 iw6 25 (lu25 ex) rfl 25 (by decide) k546_ rfl rfl dX6_book_134 rfl ?_
        refine go_iload_n C 137 138 3 2 dX6_book_137 rfl rfl rfl ?_
        obtain ⟨hi7, h⟩ := h
        refine go_iald C 138 139 42 (lu42 ex) hi7 dX6_book_138 rfl ?_
        refine go_aload_n C 139 140 0 0 dX6_book_139 rfl rfl rfl ?_
        refine go_getR C 140 143 iw6 25 (lu25 ex) rfl 6 (by decide) k527_ rfl rfl dX6_book_140 rfl ?_
        refine go_iload_n C 143 144 3 2 dX6_book_143 rfl rfl rfl ?_
        obtain ⟨hi8, h⟩ := h
        refine go_iald C 144 145 31 (lu31 ex) hi8 dX6_book_144 rfl ?_
        refine go_isub C 145 146 dX6_book_145 rfl ?_
        obtain ⟨hi9, h⟩ := h
        refine go_iast C 146 147 35 (lu35 ex) hi9 dX6_book_146 rfl ?_
        refine go_nm (fun S10 hS10 => ?_)
        replace h := h S10 hS10
        refine go_aload_n C 147 148 0 0 dX6_book_147 rfl rfl rfl ?_
        refine go_dup C 148 149 rfl dX6_book_148 rfl ?_
        refine go_getI C 149 152 iw6 25 (lu25 ex) rfl 10 (by decide) k531_ rfl rfl dX6_book_149 rfl ?_
        refine go_iconst C 152 153 (1) dX6_book_152 (by decide) rfl ?_
        refine go_iadd C 153 154 dX6_book_153 rfl ?_
        refine go_putI C 154 157 iw6 25 (lu25 ex) rfl 10 (by decide) tyX6 tyX6_ok nmX6 k531_ rfl rfl rfl (by decide +kernel) dX6_book_154 rfl ?_
        refine go_nm (fun S11 hS11 => ?_)
        replace h := h S11 hS11
        refine go_aload_n C 157 158 0 0 dX6_book_157 rfl rfl rfl ?_
        refine go_getR C 158 161 iw6 25 (lu25 ex) rfl 6 (by decide) k527_ rfl rfl dX6_book_158 rfl ?_
        refine go_iload_n C 161 162 3 2 dX6_book_161 rfl rfl rfl ?_
        refine go_aload_n C 162 163 0 0 dX6_book_162 rfl rfl rfl ?_
        refine go_getR C 163 166 iw6 25 (lu25 ex) rfl 25 (by decide) k546_ rfl rfl dX6_book_163 rfl ?_
        refine go_iload_n C 166 167 3 2 dX6_book_166 rfl rfl rfl ?_
        obtain ⟨hi12, h⟩ := h
        refine go_iald C 167 168 42 (lu42 ex) hi12 dX6_book_167 rfl ?_
        obtain ⟨hi13, h⟩ := h
        refine go_iast C 168 169 31 (lu31 ex) hi13 dX6_book_168 rfl ?_
        refine go_nm (fun S14 hS14 => ?_)
        replace h := h S14 hS14
        refine go_iinc C 169 172 3 2 (v3 + 1) [(3, .int _), (0, .ref _), (2, .int _)] dX6_book_169 rfl rfl (by decide) rfl rfl ?_
        refine go_goto C 172 76 dX6_book_172 (by decide) ?_
        exact go_perm [1, 2, 0] rfl (ih _ _ h)
      · have h := h.2 hc
        refine go_goto C 99 169 dX6_book_99 (by decide) ?_
        refine go_iinc C 169 172 3 2 (v3 + 1) [(3, .int _), (0, .ref _), (2, .int _)] dX6_book_169 rfl rfl (by decide) rfl rfl ?_
        refine go_goto C 172 76 dX6_book_172 (by decide) ?_
        exact go_perm [1, 2, 0] rfl (ih _ _ h)
def wp_X6_book (S : St) (a1 : Int32) (post : Int32 → St → Prop) : Prop :=
  ∀ S1 : St, S1 = uI S 25 0 (0 : Int32) → wp_X6_isRule S1 a1 (fun (r3 : Int32) (S2 : St) => (¬ r3 = 0 → wp_X6_coinsBy 61 S2 a1 (fun (S4 : St) => ∃ fu13, wL_X6_book_23 (fun (z7 : Int32) (z8 : Int32) (S6 : St) => (((S6.1 25 10) + z7) ≤ (400 : Int32) → ∃ fu12, wL_X6_book_76 z7 (fun (z10 : Int32) (S9 : St) => ∀ S11 : St, S11 = uI S9 25 11 ((S9.1 25 11) + (1 : Int32)) → post z7 S11) fu12 (0 : Int32) S6) ∧ (¬ (((S6.1 25 10) + z7) ≤ (400 : Int32)) → post (-1 : Int32) S6)) fu13 (0 : Int32) (0 : Int32) S4)) ∧ (r3 = 0 → post (-1 : Int32) S2))
set_option maxHeartbeats 4000000 in
set_option maxRecDepth 100000 in
theorem c_X6_book {l : Launch} {D : va_G} {cA : Nat → ClassId} {ad : Nat → Nat} {ex : List Lay} (S : St) (a1 : Int32)  {post : Int32 → St → Prop} (h : wp_X6_book S a1 post) : MetI l yX6_book cX6_book 4 (some .int) rX6_book D cA ad (LU ++ ex) [.ref (ad 25), .int a1] S post 1 8 := by
  refine MetI.of (by decide) (Nat.le_of_ble_eq_true rfl) ?_
  intro p e s m args below meth c C
  unfold wp_X6_book at h
  show Go p l e rX6_book s m args below meth c D cA ad (LU ++ ex) 4 0 0 _ S 0 [(0, .ref (ad 25)), (1, .int a1)] []
  replace C : Cx p s m args meth c cX6_book 4 (some .int) RX6 D cA ad (LU ++ ex) := C
  refine go_aload_n C 0 1 0 0 dX6_book_0 rfl rfl rfl ?_
  refine go_iconst C 1 2 (0) dX6_book_1 (by decide) rfl ?_
  refine go_putI C 2 5 iw6 25 (lu25 ex) rfl 0 (by decide) tyX6 tyX6_ok nmX6 k521_ rfl rfl rfl (by decide +kernel) dX6_book_2 rfl ?_
  refine go_nm (fun S1 hS1 => ?_)
  replace h := h S1 hS1
  refine go_iload_n C 5 6 1 1 dX6_book_5 rfl rfl rfl ?_
  refine go_si C 6 9 0 0 [.int a1] (c_X6_isRule _ _  h) k702_ k704_ k57_ k703_ qX6_isRule mhX6_isRule (by decide) (by decide) rfl rfl rfl rfl (Nat.le_of_ble_eq_true rfl) rfl rfl dX6_book_6 (fun r3 S2 h => ?_)
  refine go_if_ne C 9 12 14 dX6_book_9 (by decide) rfl (fun hc => ?_) (fun hc => ?_)
  · have h := h.1 hc
    refine go_aload_n C 14 15 0 0 dX6_book_14 rfl rfl rfl ?_
    refine go_iload_n C 15 16 1 1 dX6_book_15 rfl rfl rfl ?_
    refine go_vv C 16 19 1 8 [.int a1] 25 (lu25 ex) rfl (c_X6_coinsBy 61 ge61 _ _  h) k722_ k725_ k57_ k724_ k48_ qX6_coinsBy mhX6_coinsBy (by decide) (by decide) rfl rfl rfl rfl (Nat.le_of_ble_eq_true rfl) rfl rfl dX6_book_16 (fun S4 h => ?_)
    refine go_iconst C 19 20 (0) dX6_book_19 (by decide) rfl ?_
    refine go_istore_n C 20 21 2 [(2, .int _), (0, .ref _), (1, .int _)] dX6_book_20 rfl (by decide) rfl rfl ?_
    refine go_iconst C 21 22 (0) dX6_book_21 (by decide) rfl ?_
    refine go_istore_n C 22 23 3 [(3, .int _), (2, .int _), (0, .ref _), (1, .int _)] dX6_book_22 rfl (by decide) rfl rfl ?_
    obtain ⟨fu13, h⟩ := h
    refine go_perm [2, 1, 0] rfl (L_X6_book_23 C   (fun z7 z8 S6 h => ?_) _ _ _ _ h)
    refine go_aload_n C 60 61 0 0 dX6_book_60 rfl rfl rfl ?_
    refine go_getI C 61 64 iw6 25 (lu25 ex) rfl 10 (by decide) k531_ rfl rfl dX6_book_61 rfl ?_
    refine go_iload_n C 64 65 2 1 dX6_book_64 rfl rfl rfl ?_
    refine go_iadd C 65 66 dX6_book_65 rfl ?_
    refine go_sipush C 66 69 (400) dX6_book_66 (by decide) rfl ?_
    refine go_icmp_le C 69 72 74 dX6_book_69 (by decide) rfl (fun hc => ?_) (fun hc => ?_)
    · have h := h.1 hc
      refine go_iconst C 74 75 (0) dX6_book_74 (by decide) rfl ?_
      refine go_istore_n C 75 76 3 [(3, .int _), (0, .ref _), (2, .int _)] dX6_book_75 rfl (by decide) rfl rfl ?_
      obtain ⟨fu12, h⟩ := h
      refine go_perm [1, 2, 0] rfl (L_X6_book_76 C   _ (fun z10 S9 h => ?_) _ _ _ h)
      refine go_aload_n C 175 176 0 0 dX6_book_175 rfl rfl rfl ?_
      refine go_dup C 176 177 rfl dX6_book_176 rfl ?_
      refine go_getI C 177 180 iw6 25 (lu25 ex) rfl 11 (by decide) k532_ rfl rfl dX6_book_177 rfl ?_
      refine go_iconst C 180 181 (1) dX6_book_180 (by decide) rfl ?_
      refine go_iadd C 181 182 dX6_book_181 rfl ?_
      refine go_putI C 182 185 iw6 25 (lu25 ex) rfl 11 (by decide) tyX6 tyX6_ok nmX6 k532_ rfl rfl rfl (by decide +kernel) dX6_book_182 rfl ?_
      refine go_nm (fun S11 hS11 => ?_)
      replace h := h S11 hS11
      refine go_iload_n C 185 186 2 1 dX6_book_185 rfl rfl rfl ?_
      exact go_iret C 186 rfl dX6_book_186 h
    · have h := h.2 hc
      refine go_iconst C 72 73 (-1) dX6_book_72 (by decide) rfl ?_
      exact go_iret C 73 rfl dX6_book_73 h
  · have h := h.2 hc
    refine go_iconst C 12 13 (-1) dX6_book_12 (by decide) rfl ?_
    refine go_widen (k := 1) (n := 8) (by decide) (by decide) ?_
    exact go_iret C 13 rfl dX6_book_13 h
-- BillHouseModel.differ(II)I
theorem qX6_differ : (parseMethodDescriptor yX6_differ.desc).map (fun d => d.parameters.length) = some 2 := by decide +kernel
theorem mhX6_differ : yX6_differ.cls ≠ "java/lang/invoke/MethodHandle" ∧ yX6_differ.cls ≠ "java/lang/invoke/VarHandle" := by decide +kernel
def rX6_differ : Room := { frames := 13, cells := 3, slots := 24, locals := 338 }
def wB_X6_differ_48 (kh8 : Nat) (k rec : Int32 → Int32 → St → Prop) (v4 : Int32) (v5 : Int32) (S : St) : Prop :=
  ((S.1 25 9) ≤ v5 → k v4 v5 S) ∧ (¬ ((S.1 25 9) ≤ v5) → (vp_in v5 8) ∧ ((vp_in v5 8) ∧ (∀ x3 : Int32, x3 = (v4 + (if 0 ≤ ((S.1 kh8 v5.toNatClampNeg) - (S.1 42 v5.toNatClampNeg)) then ((S.1 kh8 v5.toNatClampNeg) - (S.1 42 v5.toNatClampNeg)) else 0 - ((S.1 kh8 v5.toNatClampNeg) - (S.1 42 v5.toNatClampNeg)))) → rec x3 (v5 + 1) S)))
def wL_X6_differ_48 (kh8 : Nat) (k : Int32 → Int32 → St → Prop) : Nat → Int32 → Int32 → St → Prop
  | 0, _, _, _ => False
  | n + 1, v4, v5, S => wB_X6_differ_48 kh8 k (wL_X6_differ_48 kh8 k n) v4 v5 S
set_option maxHeartbeats 4000000 in
set_option maxRecDepth 100000 in
theorem L_X6_differ_48 {p : Program} {l : Launch} {e : Env} {s : State} {m : MethodId} {args : Array Value} {below : List Frame} {meth : Method} {c : Code} {D : va_G} {cA : Nat → ClassId} {ad : Nat → Nat} {ex : List Lay} {Q : State → Prop} (C : Cx p s m args meth c cX6_differ 6 (some .int) RX6 D cA ad (LU ++ ex)) (kh8 : Nat) (hkh8 : (LU ++ ex)[kh8]? = some (.inl (0, 8, 0))) {k : Int32 → Int32 → St → Prop} (hk : ∀ (v4 : Int32) (v5 : Int32) (S : St), k v4 v5 S → Go p l e rX6_differ s m args below meth c D cA ad (LU ++ ex) 6 3 24 Q S 83 [(4, .int v4)] []) : ∀ (n : Nat) (v4 : Int32) (v5 : Int32) (S : St), wL_X6_differ_48 kh8 k n v4 v5 S → Go p l e rX6_differ s m args below meth c D cA ad (LU ++ ex) 6 3 24 Q S 48 [(0, .ref (ad 25)), (3, .ref (ad kh8)), (4, .int v4), (5, .int v5)] [] := by
  intro n
  induction n with
  | zero => intro v4 v5 S h; exact h.elim
  | succ n ih =>
    intro v4 v5 S h
    replace h : wB_X6_differ_48 kh8 k (wL_X6_differ_48 kh8 k n) v4 v5 S := h
    unfold wB_X6_differ_48 at h
    refine go_iload C 48 50 5 3 dX6_differ_48 rfl rfl ?_
    refine go_aload_n C 50 51 0 0 dX6_differ_50 rfl rfl rfl ?_
    refine go_getI C 51 54 iw6 25 (lu25 ex) rfl 9 (by decide) k530_ rfl rfl dX6_differ_51 rfl ?_
    refine go_icmp_ge C 54 57 83 dX6_differ_54 (by decide) rfl (fun hc => ?_) (fun hc => ?_)
    · have h := h.1 hc
      exact go_perm [2] rfl (hk _ _ _ h)
    · have h := h.2 hc
      refine go_iload C 57 59 4 2 dX6_differ_57 rfl rfl ?_
      refine go_aload_n C 59 60 3 1 dX6_differ_59 rfl rfl rfl ?_
      refine go_iload C 60 62 5 3 dX6_differ_60 rfl rfl ?_
      obtain ⟨hi1, h⟩ := h
      refine go_iald C 62 63 kh8 hkh8 hi1 dX6_differ_62 rfl ?_
      refine go_aload_n C 63 64 0 0 dX6_differ_63 rfl rfl rfl ?_
      refine go_getR C 64 67 iw6 25 (lu25 ex) rfl 25 (by decide) k546_ rfl rfl dX6_differ_64 rfl ?_
      refine go_iload C 67 69 5 3 dX6_differ_67 rfl rfl ?_
      obtain ⟨hi2, h⟩ := h
      refine go_iald C 69 70 42 (lu42 ex) hi2 dX6_differ_69 rfl ?_
      refine go_isub C 70 71 dX6_differ_70 rfl ?_
      refine go_absI C 71 74 k745_ k479_ k59_ k480_ (by decide) (Nat.le_of_ble_eq_true rfl) (by decide) (by decide) dX6_differ_71 rfl ?_
      refine go_iadd C 74 75 dX6_differ_74 rfl ?_
      refine go_topi (fun x3 hx3 => ?_)
      replace h := h x3 hx3
      refine go_istore C 75 77 4 [(4, .int _), (0, .ref _), (3, .ref _), (5, .int _)] dX6_differ_75 (by decide) rfl rfl ?_
      refine go_iinc C 77 80 5 3 (v5 + 1) [(5, .int _), (4, .int _), (0, .ref _), (3, .ref _)] dX6_differ_77 rfl rfl (by decide) rfl rfl ?_
      refine go_goto C 80 48 dX6_differ_80 (by decide) ?_
      exact go_perm [2, 3, 1, 0] rfl (ih _ _ _ h)
def wp_X6_differ (S : St) (a1 : Int32) (a2 : Int32) (post : Int32 → St → Prop) : Prop :=
  ∀ S1 : St, S1 = uI S 25 0 (0 : Int32) → wp_X6_isRule S1 a1 (fun (r3 : Int32) (S2 : St) => (r3 = 0 → post (-1 : Int32) S2) ∧ (¬ (r3 = 0) → wp_X6_isRule S2 a2 (fun (r5 : Int32) (S4 : St) => (¬ r5 = 0 → wp_X6_coinsBy 61 S4 a1 (fun (S6 : St) => ∀ kh8 : Nat, 61 ≤ kh8 → ∀ S9 : St, S9 = uC S6 kh8 42 → wp_X6_coinsBy (kh8 + 1) S9 a2 (fun (S10 : St) => ∃ fu15, wL_X6_differ_48 kh8 (fun (z13 : Int32) (z14 : Int32) (S12 : St) => post z13 S12) fu15 (0 : Int32) (0 : Int32) S10))) ∧ (r5 = 0 → post (-1 : Int32) S4))))
set_option maxHeartbeats 4000000 in
set_option maxRecDepth 100000 in
theorem c_X6_differ {l : Launch} {D : va_G} {cA : Nat → ClassId} {ad : Nat → Nat} {ex : List Lay} (S : St) (a1 : Int32) (a2 : Int32)  {post : Int32 → St → Prop} (h : wp_X6_differ S a1 a2 post) : MetI l yX6_differ cX6_differ 6 (some .int) rX6_differ D cA ad (LU ++ ex) [.ref (ad 25), .int a1, .int a2] S post 3 24 := by
  refine MetI.of (by decide) (Nat.le_of_ble_eq_true rfl) ?_
  intro p e s m args below meth c C
  unfold wp_X6_differ at h
  show Go p l e rX6_differ s m args below meth c D cA ad (LU ++ ex) 6 0 0 _ S 0 [(0, .ref (ad 25)), (1, .int a1), (2, .int a2)] []
  replace C : Cx p s m args meth c cX6_differ 6 (some .int) RX6 D cA ad (LU ++ ex) := C
  refine go_aload_n C 0 1 0 0 dX6_differ_0 rfl rfl rfl ?_
  refine go_iconst C 1 2 (0) dX6_differ_1 (by decide) rfl ?_
  refine go_putI C 2 5 iw6 25 (lu25 ex) rfl 0 (by decide) tyX6 tyX6_ok nmX6 k521_ rfl rfl rfl (by decide +kernel) dX6_differ_2 rfl ?_
  refine go_nm (fun S1 hS1 => ?_)
  replace h := h S1 hS1
  refine go_iload_n C 5 6 1 1 dX6_differ_5 rfl rfl rfl ?_
  refine go_si C 6 9 0 0 [.int a1] (c_X6_isRule _ _  h) k702_ k704_ k57_ k703_ qX6_isRule mhX6_isRule (by decide) (by decide) rfl rfl rfl rfl (Nat.le_of_ble_eq_true rfl) rfl rfl dX6_differ_6 (fun r3 S2 h => ?_)
  refine go_if_eq C 9 12 19 dX6_differ_9 (by decide) rfl (fun hc => ?_) (fun hc => ?_)
  · have h := h.1 hc
    refine go_iconst C 19 20 (-1) dX6_differ_19 (by decide) rfl ?_
    refine go_widen (k := 3) (n := 24) (by decide) (by decide) ?_
    exact go_iret C 20 rfl dX6_differ_20 h
  · have h := h.2 hc
    refine go_iload_n C 12 13 2 2 dX6_differ_12 rfl rfl rfl ?_
    refine go_si C 13 16 0 0 [.int a2] (c_X6_isRule _ _  h) k702_ k704_ k57_ k703_ qX6_isRule mhX6_isRule (by decide) (by decide) rfl rfl rfl rfl (Nat.le_of_ble_eq_true rfl) rfl rfl dX6_differ_13 (fun r5 S4 h => ?_)
    refine go_if_ne C 16 19 21 dX6_differ_16 (by decide) rfl (fun hc => ?_) (fun hc => ?_)
    · have h := h.1 hc
      refine go_aload_n C 21 22 0 0 dX6_differ_21 rfl rfl rfl ?_
      refine go_iload_n C 22 23 1 1 dX6_differ_22 rfl rfl rfl ?_
      refine go_vv C 23 26 1 8 [.int a1] 25 (lu25 ex) rfl (c_X6_coinsBy 61 ge61 _ _  h) k722_ k725_ k57_ k724_ k48_ qX6_coinsBy mhX6_coinsBy (by decide) (by decide) rfl rfl rfl rfl (Nat.le_of_ble_eq_true rfl) rfl rfl dX6_differ_23 (fun S6 h => ?_)
      refine go_aload_n C 26 27 0 0 dX6_differ_26 rfl rfl rfl ?_
      refine go_getR C 27 30 iw6 25 (lu25 ex) rfl 25 (by decide) k546_ rfl rfl dX6_differ_27 rfl ?_
      refine go_clone C 30 36 42 (lu42 ex) (by decide) dX6_differ_30 dX6_differ_33 rfl (by decide) (by decide) (by decide) (by decide) rfl rfl (Nat.le_of_ble_eq_true rfl) (fun ad2 ex2 kh8 hge hgl C2 hkh8 had hsh => ?_)
      replace h := h kh8 hge
      refine go_nm (fun S9 hS9 => ?_)
      replace h := h S9 hS9
      rw [had 25 (by decide)]
      refine go_astore_n C2 36 37 3 [(3, .ref _), (0, .ref _), (1, .int _), (2, .int _)] dX6_differ_36 rfl (by decide) rfl rfl ?_
      refine go_aload_n C2 37 38 0 1 dX6_differ_37 rfl rfl rfl ?_
      refine go_iload_n C2 38 39 2 3 dX6_differ_38 rfl rfl rfl ?_
      refine go_vv C2 39 42 3 24 [.int a2] 25 (lu25 ex2) rfl (c_X6_coinsBy (kh8 + 1) (lay_lt hkh8) _ _  h) k722_ k725_ k57_ k724_ k48_ qX6_coinsBy mhX6_coinsBy (by decide) (by decide) rfl rfl rfl rfl (Nat.le_of_ble_eq_true rfl) rfl rfl dX6_differ_39 (fun S10 h => ?_)
      refine go_iconst C2 42 43 (0) dX6_differ_42 (by decide) rfl ?_
      refine go_istore C2 43 45 4 [(4, .int _), (3, .ref _), (0, .ref _), (1, .int _), (2, .int _)] dX6_differ_43 (by decide) rfl rfl ?_
      refine go_iconst C2 45 46 (0) dX6_differ_45 (by decide) rfl ?_
      refine go_istore C2 46 48 5 [(5, .int _), (4, .int _), (3, .ref _), (0, .ref _), (1, .int _), (2, .int _)] dX6_differ_46 (by decide) rfl rfl ?_
      obtain ⟨fu15, h⟩ := h
      refine go_perm [3, 2, 1, 0] rfl (L_X6_differ_48 C2 kh8 hkh8 (fun z13 z14 S12 h => ?_) _ _ _ _ h)
      refine go_iload C2 83 85 4 0 dX6_differ_83 rfl rfl ?_
      refine hsh _ _ _ _ _ _ ?_
      exact go_iret C 85 rfl dX6_differ_85 h
    · have h := h.2 hc
      refine go_iconst C 19 20 (-1) dX6_differ_19 (by decide) rfl ?_
      refine go_widen (k := 3) (n := 24) (by decide) (by decide) ?_
      exact go_iret C 20 rfl dX6_differ_20 h
