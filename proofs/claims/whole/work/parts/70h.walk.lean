/-! WALKS, written by program (wip/gen) -/
set_option maxHeartbeats 4000000 in
set_option maxRecDepth 100000 in
theorem xb_X7_betting_b5 {l : Launch} {κ : Kx} {ω : Om} {a1 : Int32} {a2 : Int32} (C : CX κ ω cX7_betting 5 3 yX7_betting.cls) (hlau : κ.2.1 = l) (hret : κ.2.2.2.2.2.2.2.2.1.sig.returnType = (some .long)) (hn : 75 ≤ oN ω)  : ∀ (n : Nat) (x4 : Int32) (x3 : Int32) (I : Mem), EE κ ω 5 (Gl κ ω) (f_X7_betting_b5 a1 a2 n x4 x3 I) I 5 [(4, .int x4), (3, .int x3), (0, .ref (oA ω 56)), (1, .int a1), (2, .int a2)] [] := by
  intro n
  induction n with
  | zero => intro x4 x3 I; exact e_none
  | succ n ih =>
    intro x4 x3 I
    rw [f_X7_betting_b5]
    refine e_iload C dX7_betting_5 0 rfl (q := 7) rfl ?_
    refine e_aload_n C dX7_betting_7 rfl 2 rfl (q := 8) rfl ?_
    refine e_getf C (k := 56) (j := 0) (T := TX7) (N := 32) (v := .int (I 56 0)) dX7_betting_8 (ltL hn (Nat.le_of_ble_eq_true rfl)) rfl rfl (by decide) in_X7 w_762 rfl (q := 11) rfl ?_
    refine e_icmpge C (tgt := 34) (q := 14) dX7_betting_11 rfl rfl ?_ ?_
    · refine e_aload_n C dX7_betting_34 rfl 2 rfl (q := 35) rfl ?_
      refine e_iload_n C dX7_betting_35 rfl 3 rfl (q := 36) rfl ?_
      refine e_callVi C (l := l) (k := 56) (av := [.int a1]) (st := []) hlau (x_X7_isOne (l := l) (ω := ω) (a1 := a1) hn (I := I)) dX7_betting_36 w_890 w_892 w_32 w_67 w_893 md_X7_isOne (by decide) (by decide) rfl (ltL hn (Nat.le_of_ble_eq_true rfl)) rfl rfl (Nat.le_of_ble_eq_true rfl) (q := 39) rfl (fun v2 J1 => ?_)
      refine e_ifeq C (tgt := 75) (q := 42) dX7_betting_39 rfl rfl ?_ ?_
      · refine e_ldc2 C dX7_betting_75 w_1031 (q := 78) rfl ?_
        exact e_lreturn C dX7_betting_78 hret
      · refine e_iload_n C dX7_betting_42 rfl 4 rfl (q := 43) rfl ?_
        refine e_iconst C dX7_betting_43 ic_0 (q := 44) rfl ?_
        refine e_iconst C dX7_betting_44 ic_1 (q := 45) rfl ?_
        refine e_callSi C (l := l) (av := [.int a2, .int (0 : Int32), .int (1 : Int32)]) (st := []) hlau (x_X7_in (l := l) (ω := ω) (a0 := a2) (a1 := (0 : Int32)) (a2 := (1 : Int32)) hn (I := J1)) dX7_betting_45 w_723 w_724 w_67 w_725 md_X7_in (by decide) (by decide) rfl (Nat.le_of_ble_eq_true rfl) (q := 48) rfl (fun v4 J3 => ?_)
        refine e_ifeq C (tgt := 75) (q := 51) dX7_betting_48 rfl rfl ?_ ?_
        · refine e_ldc2 C dX7_betting_75 w_1031 (q := 78) rfl ?_
          exact e_lreturn C dX7_betting_78 hret
        · refine e_iload_n C dX7_betting_51 rfl 1 rfl (q := 52) rfl ?_
          refine e_ifle C (tgt := 75) (q := 55) dX7_betting_52 rfl rfl ?_ ?_
          · refine e_ldc2 C dX7_betting_75 w_1031 (q := 78) rfl ?_
            exact e_lreturn C dX7_betting_78 hret
          · refine e_aload_n C dX7_betting_55 rfl 2 rfl (q := 56) rfl ?_
            refine e_getf C (k := 56) (j := 3) (T := TX7) (N := 32) (v := .ref (oA ω 59)) dX7_betting_56 (ltL hn (Nat.le_of_ble_eq_true rfl)) rfl rfl (by decide) in_X7 w_765 rfl (q := 59) rfl ?_
            refine e_iconst C dX7_betting_59 ic_4 (q := 60) rfl ?_
            refine e_iload_n C dX7_betting_60 rfl 3 rfl (q := 61) rfl ?_
            refine e_imul C dX7_betting_61 (q := 62) rfl ?_
            refine e_iconst C dX7_betting_62 ic_1 (q := 63) rfl ?_
            refine e_iadd C dX7_betting_63 (q := 64) rfl ?_
            refine e_nmi (fun v5 => ?_)
            refine e_iald C (k := 59) (n := 24) dX7_betting_64 (ltL hn (Nat.le_of_ble_eq_true rfl)) rfl (q := 65) rfl ?_
            refine e_i2l C dX7_betting_65 (q := 66) rfl ?_
            refine e_iload_n C dX7_betting_66 rfl 1 rfl (q := 67) rfl ?_
            refine e_i2l C dX7_betting_67 (q := 68) rfl ?_
            refine e_iload_n C dX7_betting_68 rfl 4 rfl (q := 69) rfl ?_
            refine e_callSl C (l := l) (av := [.long ((J3 59 (v5).toNatClampNeg).toInt64), .long ((x3).toInt64), .int a2]) (st := []) hlau (x_X7_lowest (l := l) (ω := ω) (a0 := (J3 59 (v5).toNatClampNeg).toInt64) (a2 := (x3).toInt64) (a4 := a2) hn (I := J3)) dX7_betting_69 w_1028 w_1029 w_67 w_1030 md_X7_lowest (by decide) (by decide) rfl (Nat.le_of_ble_eq_true rfl) (q := 72) rfl (fun v7 J6 => ?_)
            refine e_goto C (tgt := 78) dX7_betting_72 rfl ?_
            exact e_lreturn C dX7_betting_78 hret
    · refine e_iload_n C dX7_betting_14 rfl 1 rfl (q := 15) rfl ?_
      refine e_aload_n C dX7_betting_15 rfl 2 rfl (q := 16) rfl ?_
      refine e_getf C (k := 56) (j := 3) (T := TX7) (N := 32) (v := .ref (oA ω 59)) dX7_betting_16 (ltL hn (Nat.le_of_ble_eq_true rfl)) rfl rfl (by decide) in_X7 w_765 rfl (q := 19) rfl ?_
      refine e_iconst C dX7_betting_19 ic_4 (q := 20) rfl ?_
      refine e_iload C dX7_betting_20 0 rfl (q := 22) rfl ?_
      refine e_imul C dX7_betting_22 (q := 23) rfl ?_
      refine e_iconst C dX7_betting_23 ic_1 (q := 24) rfl ?_
      refine e_iadd C dX7_betting_24 (q := 25) rfl ?_
      refine e_nmi (fun v8 => ?_)
      refine e_iald C (k := 59) (n := 24) dX7_betting_25 (ltL hn (Nat.le_of_ble_eq_true rfl)) rfl (q := 26) rfl ?_
      refine e_iadd C dX7_betting_26 (q := 27) rfl ?_
      refine e_nmi (fun v9 => ?_)
      refine e_istore_n C (lv1 := [(3, .int v9), (4, .int x4), (0, .ref (oA ω 56)), (1, .int a1), (2, .int a2)]) dX7_betting_27 rfl (Nat.le_of_ble_eq_true rfl) rfl (q := 28) rfl ?_
      refine e_iinc C (v := x4 + (1 : Int32)) (lv1 := [(4, .int (x4 + (1 : Int32))), (3, .int v9), (0, .ref (oA ω 56)), (1, .int a1), (2, .int a2)]) dX7_betting_28 1 rfl (Nat.le_of_ble_eq_true rfl) (by rw [ic_1]) rfl (q := 31) rfl ?_
      refine e_goto C (tgt := 5) dX7_betting_31 rfl ?_
      exact ih (x4 + (1 : Int32)) v9 _
set_option maxHeartbeats 4000000 in
set_option maxRecDepth 100000 in
theorem x_X7_betting {l : Launch} {ω : Om} {a1 : Int32} {a2 : Int32} (hn : 75 ≤ oN ω)  {I : Mem} : CTl l ω yX7_betting cX7_betting 5 (some .long) 3 [.ref (oA ω 56), .int a1, .int a2] (f_X7_betting a1 a2 I) I := by
  refine ct_l (by decide) (Nat.le_of_ble_eq_true rfl) ?_
  intro κ hlau hret C
  refine e_lv [0, 1, 2] (lv1 := [(0, .ref (oA ω 56)), (1, .int a1), (2, .int a2)]) rfl ?_
  unfold f_X7_betting
  refine e_iconst C dX7_betting_0 ic_0 (q := 1) rfl ?_
  refine e_istore_n C (lv1 := [(3, .int (0 : Int32)), (0, .ref (oA ω 56)), (1, .int a1), (2, .int a2)]) dX7_betting_1 rfl (Nat.le_of_ble_eq_true rfl) rfl (q := 2) rfl ?_
  refine e_iconst C dX7_betting_2 ic_0 (q := 3) rfl ?_
  refine e_istore C (lv1 := [(4, .int (0 : Int32)), (3, .int (0 : Int32)), (0, .ref (oA ω 56)), (1, .int a1), (2, .int a2)]) dX7_betting_3 (Nat.le_of_ble_eq_true rfl) rfl (q := 5) rfl ?_
  exact xb_X7_betting_b5 C hlau hret hn FU (0 : Int32) (0 : Int32) _
set_option maxHeartbeats 4000000 in
set_option maxRecDepth 100000 in
theorem x_X7_sheetWrong {l : Launch} {ω : Om} {a1 : Int32} (hn : 75 ≤ oN ω)  {I : Mem} : CTi l ω yX7_sheetWrong cX7_sheetWrong 2 (some .int) 2 [.ref (oA ω 56), .int a1] (f_X7_sheetWrong a1 I) I := by
  refine ct_i (by decide) (Nat.le_of_ble_eq_true rfl) ?_
  intro κ hlau hret C
  refine e_lv [0, 1] (lv1 := [(0, .ref (oA ω 56)), (1, .int a1)]) rfl ?_
  unfold f_X7_sheetWrong
  refine e_iload_n C dX7_sheetWrong_0 rfl 1 rfl (q := 1) rfl ?_
  refine e_iconst C dX7_sheetWrong_1 ic_0 (q := 2) rfl ?_
  refine e_iconst C dX7_sheetWrong_2 ic_3 (q := 3) rfl ?_
  refine e_callSi C (l := l) (av := [.int a1, .int (0 : Int32), .int (3 : Int32)]) (st := []) hlau (x_X7_in (l := l) (ω := ω) (a0 := a1) (a1 := (0 : Int32)) (a2 := (3 : Int32)) hn (I := I)) dX7_sheetWrong_3 w_723 w_724 w_67 w_725 md_X7_in (by decide) (by decide) rfl (Nat.le_of_ble_eq_true rfl) (q := 6) rfl (fun v2 J1 => ?_)
  refine e_ifne C (tgt := 12) (q := 9) dX7_sheetWrong_6 rfl rfl ?_ ?_
  · refine e_aload_n C dX7_sheetWrong_12 rfl 0 rfl (q := 13) rfl ?_
    refine e_getf C (k := 56) (j := 15) (T := TX7) (N := 32) (v := .ref (oA ω 66)) dX7_sheetWrong_13 (ltL hn (Nat.le_of_ble_eq_true rfl)) rfl rfl (by decide) in_X7 w_777 rfl (q := 16) rfl ?_
    refine e_iload_n C dX7_sheetWrong_16 rfl 1 rfl (q := 17) rfl ?_
    refine e_iald C (k := 66) (n := 4) dX7_sheetWrong_17 (ltL hn (Nat.le_of_ble_eq_true rfl)) rfl (q := 18) rfl ?_
    refine e_iconst C dX7_sheetWrong_18 ic_m1 (q := 19) rfl ?_
    refine e_icmpne C (tgt := 25) (q := 22) dX7_sheetWrong_19 rfl rfl ?_ ?_
    · refine e_aload_n C dX7_sheetWrong_25 rfl 0 rfl (q := 26) rfl ?_
      refine e_getf C (k := 56) (j := 16) (T := TX7) (N := 32) (v := .ref (oA ω 67)) dX7_sheetWrong_26 (ltL hn (Nat.le_of_ble_eq_true rfl)) rfl rfl (by decide) in_X7 w_778 rfl (q := 29) rfl ?_
      refine e_iload_n C dX7_sheetWrong_29 rfl 1 rfl (q := 30) rfl ?_
      refine e_iald C (k := 67) (n := 4) dX7_sheetWrong_30 (ltL hn (Nat.le_of_ble_eq_true rfl)) rfl (q := 31) rfl ?_
      refine e_bipush C dX7_sheetWrong_31 b8_20 (q := 33) rfl ?_
      refine e_icmple C (tgt := 41) (q := 36) dX7_sheetWrong_33 rfl rfl ?_ ?_
      · refine e_iconst C dX7_sheetWrong_41 ic_0 (q := 42) rfl ?_
        exact e_ireturn C dX7_sheetWrong_42 hret rfl
      · refine e_bipush C dX7_sheetWrong_36 b8_m2 (q := 38) rfl ?_
        refine e_goto C (tgt := 42) dX7_sheetWrong_38 rfl ?_
        exact e_ireturn C dX7_sheetWrong_42 hret rfl
    · refine e_bipush C dX7_sheetWrong_22 b8_m11 (q := 24) rfl ?_
      exact e_ireturn C dX7_sheetWrong_24 hret rfl
  · refine e_bipush C dX7_sheetWrong_9 b8_m2 (q := 11) rfl ?_
    exact e_ireturn C dX7_sheetWrong_11 hret rfl
set_option maxHeartbeats 4000000 in
set_option maxRecDepth 100000 in
theorem x_X7_toldWrong {l : Launch} {ω : Om} {a1 : Int32} {a2 : Int32} (hn : 75 ≤ oN ω)  {I : Mem} : CTi l ω yX7_toldWrong cX7_toldWrong 4 (some .int) 3 [.ref (oA ω 56), .int a1, .int a2] (f_X7_toldWrong a1 a2 I) I := by
  refine ct_i (by decide) (Nat.le_of_ble_eq_true rfl) ?_
  intro κ hlau hret C
  refine e_lv [0, 1, 2] (lv1 := [(0, .ref (oA ω 56)), (1, .int a1), (2, .int a2)]) rfl ?_
  unfold f_X7_toldWrong
  refine e_aload_n C dX7_toldWrong_0 rfl 0 rfl (q := 1) rfl ?_
  refine e_iload_n C dX7_toldWrong_1 rfl 1 rfl (q := 2) rfl ?_
  refine e_callVi C (l := l) (k := 56) (av := [.int a1]) (st := []) hlau (x_X7_sheetWrong (l := l) (ω := ω) (a1 := a1) hn (I := I)) dX7_toldWrong_2 w_1040 w_1042 w_52 w_67 w_1043 md_X7_sheetWrong (by decide) (by decide) rfl (ltL hn (Nat.le_of_ble_eq_true rfl)) rfl rfl (Nat.le_of_ble_eq_true rfl) (q := 5) rfl (fun v2 J1 => ?_)
  refine e_istore_n C (lv1 := [(3, .int v2), (0, .ref (oA ω 56)), (1, .int a1), (2, .int a2)]) dX7_toldWrong_5 rfl (Nat.le_of_ble_eq_true rfl) rfl (q := 6) rfl ?_
  refine e_iload_n C dX7_toldWrong_6 rfl 0 rfl (q := 7) rfl ?_
  refine e_ifeq C (tgt := 14) (q := 10) dX7_toldWrong_7 rfl rfl ?_ ?_
  · refine e_aload_n C dX7_toldWrong_14 rfl 1 rfl (q := 15) rfl ?_
    refine e_iload_n C dX7_toldWrong_15 rfl 3 rfl (q := 16) rfl ?_
    refine e_callVi C (l := l) (k := 56) (av := [.int a2]) (st := []) hlau (x_X7_isOne (l := l) (ω := ω) (a1 := a2) hn (I := J1)) dX7_toldWrong_16 w_890 w_892 w_32 w_67 w_893 md_X7_isOne (by decide) (by decide) rfl (ltL hn (Nat.le_of_ble_eq_true rfl)) rfl rfl (Nat.le_of_ble_eq_true rfl) (q := 19) rfl (fun v4 J3 => ?_)
    refine e_ifeq C (tgt := 26) (q := 22) dX7_toldWrong_19 rfl rfl ?_ ?_
    · refine e_bipush C dX7_toldWrong_26 b8_m5 (q := 28) rfl ?_
      exact e_ireturn C dX7_toldWrong_28 hret rfl
    · refine e_iconst C dX7_toldWrong_22 ic_0 (q := 23) rfl ?_
      refine e_goto C (tgt := 28) dX7_toldWrong_23 rfl ?_
      exact e_ireturn C dX7_toldWrong_28 hret rfl
  · refine e_iload_n C dX7_toldWrong_10 rfl 0 rfl (q := 11) rfl ?_
    refine e_goto C (tgt := 28) dX7_toldWrong_11 rfl ?_
    exact e_ireturn C dX7_toldWrong_28 hret rfl
set_option maxHeartbeats 4000000 in
set_option maxRecDepth 100000 in
theorem xb_X7_unlike_b68 {l : Launch} {κ : Kx} {ω : Om} {a1 : Int32} {a2 : Int32} (C : CX κ ω cX7_unlike 5 8 yX7_unlike.cls) (hlau : κ.2.1 = l) (hret : κ.2.2.2.2.2.2.2.2.1.sig.returnType = (some .int)) (hn : 75 ≤ oN ω)  : ∀ (x3 : Int32) (I : Mem), EE κ ω 5 (Gi κ ω) (f_X7_unlike_b68 a1 a2 x3 I) I 68 [(3, .int x3), (0, .ref (oA ω 56))] [] := by
  intro x3 I
  unfold f_X7_unlike_b68
  refine e_aload_n C dX7_unlike_68 rfl 1 rfl (q := 69) rfl ?_
  refine e_callVv C (l := l) (k := 56) (av := []) (st := []) hlau (x_X7_lays (l := l) (ω := ω) hn (I := I)) dX7_unlike_69 w_988 w_990 w_48 w_67 w_991 md_X7_lays (by decide) (by decide) rfl (ltL hn (Nat.le_of_ble_eq_true rfl)) rfl rfl (Nat.le_of_ble_eq_true rfl) (q := 72) rfl (fun _ J2 => ?_)
  refine e_iload_n C dX7_unlike_72 rfl 0 rfl (q := 73) rfl ?_
  exact e_ireturn C dX7_unlike_73 hret rfl
set_option maxHeartbeats 4000000 in
set_option maxRecDepth 100000 in
theorem xb_X7_unlike_b61 {l : Launch} {κ : Kx} {ω : Om} {a1 : Int32} {a2 : Int32} (C : CX κ ω cX7_unlike 5 8 yX7_unlike.cls) (hlau : κ.2.1 = l) (hret : κ.2.2.2.2.2.2.2.2.1.sig.returnType = (some .int)) (hn : 75 ≤ oN ω)  {K9 : Int32 → Int32 → Mem → Option (Int32 × Mem)} (hK9 : ∀ (x4 : Int32) (x3 : Int32) (J : Mem), EE κ ω 5 (Gi κ ω) (K9 x4 x3 J) J 9 [(4, .int x4), (3, .int x3), (0, .ref (oA ω 56)), (1, .int a1), (2, .int a2)] []) : ∀ (x4 : Int32) (s0 : Int32) (I : Mem), EE κ ω 5 (Gi κ ω) (f_X7_unlike_b61 a1 a2 K9 x4 s0 I) I 61 [(4, .int x4), (0, .ref (oA ω 56)), (1, .int a1), (2, .int a2)] [.int s0] := by
  intro x4 s0 I
  unfold f_X7_unlike_b61
  refine e_istore_n C (lv1 := [(3, .int s0), (4, .int x4), (0, .ref (oA ω 56)), (1, .int a1), (2, .int a2)]) dX7_unlike_61 rfl (Nat.le_of_ble_eq_true rfl) rfl (q := 62) rfl ?_
  refine e_iinc C (v := x4 + (1 : Int32)) (lv1 := [(4, .int (x4 + (1 : Int32))), (3, .int s0), (0, .ref (oA ω 56)), (1, .int a1), (2, .int a2)]) dX7_unlike_62 1 rfl (Nat.le_of_ble_eq_true rfl) (by rw [ic_1]) rfl (q := 65) rfl ?_
  refine e_goto C (tgt := 9) dX7_unlike_65 rfl ?_
  exact hK9 (x4 + (1 : Int32)) s0 _
set_option maxHeartbeats 4000000 in
set_option maxRecDepth 100000 in
theorem xb_X7_unlike_b9 {l : Launch} {κ : Kx} {ω : Om} {a1 : Int32} {a2 : Int32} (C : CX κ ω cX7_unlike 5 8 yX7_unlike.cls) (hlau : κ.2.1 = l) (hret : κ.2.2.2.2.2.2.2.2.1.sig.returnType = (some .int)) (hn : 75 ≤ oN ω)  : ∀ (n : Nat) (x4 : Int32) (x3 : Int32) (I : Mem), EE κ ω 5 (Gi κ ω) (f_X7_unlike_b9 a1 a2 n x4 x3 I) I 9 [(4, .int x4), (3, .int x3), (0, .ref (oA ω 56)), (1, .int a1), (2, .int a2)] [] := by
  intro n
  induction n with
  | zero => intro x4 x3 I; exact e_none
  | succ n ih =>
    intro x4 x3 I
    rw [f_X7_unlike_b9]
    refine e_iload C dX7_unlike_9 0 rfl (q := 11) rfl ?_
    refine e_aload_n C dX7_unlike_11 rfl 2 rfl (q := 12) rfl ?_
    refine e_getf C (k := 56) (j := 16) (T := TX7) (N := 32) (v := .ref (oA ω 67)) dX7_unlike_12 (ltL hn (Nat.le_of_ble_eq_true rfl)) rfl rfl (by decide) in_X7 w_778 rfl (q := 15) rfl ?_
    refine e_iload_n C dX7_unlike_15 rfl 3 rfl (q := 16) rfl ?_
    refine e_iald C (k := 67) (n := 4) dX7_unlike_16 (ltL hn (Nat.le_of_ble_eq_true rfl)) rfl (q := 17) rfl ?_
    refine e_icmpge C (tgt := 68) (q := 20) dX7_unlike_17 rfl rfl ?_ ?_
    · exact e_lv [1, 2] (lv1 := [(3, .int x3), (0, .ref (oA ω 56))]) rfl (xb_X7_unlike_b68 C hlau hret hn x3 _)
    · refine e_iload_n C dX7_unlike_20 rfl 1 rfl (q := 21) rfl ?_
      refine e_iconst C dX7_unlike_21 ic_m1 (q := 22) rfl ?_
      refine e_icmpne C (tgt := 68) (q := 25) dX7_unlike_22 rfl rfl ?_ ?_
      · exact e_lv [1, 2] (lv1 := [(3, .int x3), (0, .ref (oA ω 56))]) rfl (xb_X7_unlike_b68 C hlau hret hn x3 _)
      · refine e_aload_n C dX7_unlike_25 rfl 2 rfl (q := 26) rfl ?_
        refine e_callVi C (l := l) (k := 56) (av := []) (st := []) hlau (x_X7_roundOf (l := l) (ω := ω) hn (I := I)) dX7_unlike_26 w_956 w_958 w_42 w_67 w_959 md_X7_roundOf (by decide) (by decide) rfl (ltL hn (Nat.le_of_ble_eq_true rfl)) rfl rfl (Nat.le_of_ble_eq_true rfl) (q := 29) rfl (fun v4 J3 => ?_)
        refine e_pop C dX7_unlike_29 rfl (q := 30) rfl ?_
        refine e_aload_n C dX7_unlike_30 rfl 2 rfl (q := 31) rfl ?_
        refine e_getf C (k := 56) (j := 17) (T := TX7) (N := 32) (v := .ref (oA ω 68)) dX7_unlike_31 (ltL hn (Nat.le_of_ble_eq_true rfl)) rfl rfl (by decide) in_X7 w_779 rfl (q := 34) rfl ?_
        refine e_bipush C dX7_unlike_34 b8_40 (q := 36) rfl ?_
        refine e_iload_n C dX7_unlike_36 rfl 3 rfl (q := 37) rfl ?_
        refine e_imul C dX7_unlike_37 (q := 38) rfl ?_
        refine e_iload C dX7_unlike_38 0 rfl (q := 40) rfl ?_
        refine e_iadd C dX7_unlike_40 (q := 41) rfl ?_
        refine e_iald C (k := 68) (n := 160) dX7_unlike_41 (ltL hn (Nat.le_of_ble_eq_true rfl)) rfl (q := 42) rfl ?_
        refine e_aload_n C dX7_unlike_42 rfl 2 rfl (q := 43) rfl ?_
        refine e_getf C (k := 56) (j := 3) (T := TX7) (N := 32) (v := .ref (oA ω 59)) dX7_unlike_43 (ltL hn (Nat.le_of_ble_eq_true rfl)) rfl rfl (by decide) in_X7 w_765 rfl (q := 46) rfl ?_
        refine e_iconst C dX7_unlike_46 ic_4 (q := 47) rfl ?_
        refine e_iload_n C dX7_unlike_47 rfl 4 rfl (q := 48) rfl ?_
        refine e_imul C dX7_unlike_48 (q := 49) rfl ?_
        refine e_iconst C dX7_unlike_49 ic_1 (q := 50) rfl ?_
        refine e_iadd C dX7_unlike_50 (q := 51) rfl ?_
        refine e_nmi (fun v5 => ?_)
        refine e_iald C (k := 59) (n := 24) dX7_unlike_51 (ltL hn (Nat.le_of_ble_eq_true rfl)) rfl (q := 52) rfl ?_
        refine e_icmpne C (tgt := 59) (q := 55) dX7_unlike_52 rfl rfl ?_ ?_
        · refine e_iload C dX7_unlike_59 0 rfl (q := 61) rfl ?_
          exact e_lv [0, 2, 3, 4] (lv1 := [(4, .int x4), (0, .ref (oA ω 56)), (1, .int a1), (2, .int a2)]) rfl (xb_X7_unlike_b61 C hlau hret hn ih x4 x4 _)
        · refine e_iconst C dX7_unlike_55 ic_m1 (q := 56) rfl ?_
          refine e_goto C (tgt := 61) dX7_unlike_56 rfl ?_
          exact e_lv [0, 2, 3, 4] (lv1 := [(4, .int x4), (0, .ref (oA ω 56)), (1, .int a1), (2, .int a2)]) rfl (xb_X7_unlike_b61 C hlau hret hn ih x4 (-1 : Int32) _)
set_option maxHeartbeats 4000000 in
set_option maxRecDepth 100000 in
theorem x_X7_unlike {l : Launch} {ω : Om} {a1 : Int32} {a2 : Int32} (hn : 75 ≤ oN ω)  {I : Mem} : CTi l ω yX7_unlike cX7_unlike 5 (some .int) 8 [.ref (oA ω 56), .int a1, .int a2] (f_X7_unlike a1 a2 I) I := by
  refine ct_i (by decide) (Nat.le_of_ble_eq_true rfl) ?_
  intro κ hlau hret C
  refine e_lv [0, 1, 2] (lv1 := [(0, .ref (oA ω 56)), (1, .int a1), (2, .int a2)]) rfl ?_
  unfold f_X7_unlike
  refine e_iconst C dX7_unlike_0 ic_m1 (q := 1) rfl ?_
  refine e_istore_n C (lv1 := [(3, .int (-1 : Int32)), (0, .ref (oA ω 56)), (1, .int a1), (2, .int a2)]) dX7_unlike_1 rfl (Nat.le_of_ble_eq_true rfl) rfl (q := 2) rfl ?_
  refine e_aload_n C dX7_unlike_2 rfl 1 rfl (q := 3) rfl ?_
  refine e_callVv C (l := l) (k := 56) (av := []) (st := []) hlau (x_X7_keeps (l := l) (ω := ω) hn (I := I)) dX7_unlike_3 w_976 w_978 w_45 w_67 w_979 md_X7_keeps (by decide) (by decide) rfl (ltL hn (Nat.le_of_ble_eq_true rfl)) rfl rfl (Nat.le_of_ble_eq_true rfl) (q := 6) rfl (fun _ J1 => ?_)
  refine e_iconst C dX7_unlike_6 ic_0 (q := 7) rfl ?_
  refine e_istore C (lv1 := [(4, .int (0 : Int32)), (3, .int (-1 : Int32)), (0, .ref (oA ω 56)), (1, .int a1), (2, .int a2)]) dX7_unlike_7 (Nat.le_of_ble_eq_true rfl) rfl (q := 9) rfl ?_
  exact xb_X7_unlike_b9 C hlau hret hn FU (0 : Int32) (-1 : Int32) _
set_option maxHeartbeats 4000000 in
set_option maxRecDepth 100000 in
theorem x_X7_judge {l : Launch} {ω : Om} {a1 : Int32} {a2 : Int32} (hn : 75 ≤ oN ω)  {I : Mem} : CTi l ω yX7_judge cX7_judge 4 (some .int) 9 [.ref (oA ω 56), .int a1, .int a2] (f_X7_judge a1 a2 I) I := by
  refine ct_i (by decide) (Nat.le_of_ble_eq_true rfl) ?_
  intro κ hlau hret C
  refine e_lv [0, 1, 2] (lv1 := [(0, .ref (oA ω 56)), (1, .int a1), (2, .int a2)]) rfl ?_
  unfold f_X7_judge
  refine e_aload_n C dX7_judge_0 rfl 0 rfl (q := 1) rfl ?_
  refine e_iload_n C dX7_judge_1 rfl 1 rfl (q := 2) rfl ?_
  refine e_iload_n C dX7_judge_2 rfl 2 rfl (q := 3) rfl ?_
  refine e_callVi C (l := l) (k := 56) (av := [.int a1, .int a2]) (st := []) hlau (x_X7_toldWrong (l := l) (ω := ω) (a1 := a1) (a2 := a2) hn (I := I)) dX7_judge_3 w_1036 w_1038 w_51 w_67 w_1039 md_X7_toldWrong (by decide) (by decide) rfl (ltL hn (Nat.le_of_ble_eq_true rfl)) rfl rfl (Nat.le_of_ble_eq_true rfl) (q := 6) rfl (fun v2 J1 => ?_)
  refine e_istore_n C (lv1 := [(3, .int v2), (0, .ref (oA ω 56)), (1, .int a1), (2, .int a2)]) dX7_judge_6 rfl (Nat.le_of_ble_eq_true rfl) rfl (q := 7) rfl ?_
  refine e_iload_n C dX7_judge_7 rfl 0 rfl (q := 8) rfl ?_
  refine e_ifne C (tgt := 20) (q := 11) dX7_judge_8 rfl rfl ?_ ?_
  · refine e_iload_n C dX7_judge_20 rfl 0 rfl (q := 21) rfl ?_
    exact e_ireturn C dX7_judge_21 hret rfl
  · refine e_aload_n C dX7_judge_11 rfl 1 rfl (q := 12) rfl ?_
    refine e_iload_n C dX7_judge_12 rfl 2 rfl (q := 13) rfl ?_
    refine e_iload_n C dX7_judge_13 rfl 3 rfl (q := 14) rfl ?_
    refine e_callVi C (l := l) (k := 56) (av := [.int a1, .int a2]) (st := []) hlau (x_X7_unlike (l := l) (ω := ω) (a1 := a1) (a2 := a2) hn (I := J1)) dX7_judge_14 w_1044 w_1046 w_53 w_67 w_1047 md_X7_unlike (by decide) (by decide) rfl (ltL hn (Nat.le_of_ble_eq_true rfl)) rfl rfl (Nat.le_of_ble_eq_true rfl) (q := 17) rfl (fun v4 J3 => ?_)
    refine e_goto C (tgt := 21) dX7_judge_17 rfl ?_
    exact e_ireturn C dX7_judge_21 hret rfl
set_option maxHeartbeats 4000000 in
set_option maxRecDepth 100000 in
theorem xb_X7_kinds_b136 {l : Launch} {κ : Kx} {ω : Om} {a1 : Int32} {a2 : Int32} {a3 : Int32} {a4 : Int32} (C : CX κ ω cX7_kinds 10 9 yX7_kinds.cls) (hlau : κ.2.1 = l) (hret : κ.2.2.2.2.2.2.2.2.1.sig.returnType = (some .int)) (hn : 75 ≤ oN ω)  {K62 : Int32 → Int32 → Int32 → Int32 → Mem → Option (Int32 × Mem)} (hK62 : ∀ (x9 : Int32) (x8 : Int32) (x7 : Int32) (x6 : Int32) (J : Mem), EE κ ω 10 (Gi κ ω) (K62 x9 x8 x7 x6 J) J 62 [(9, .int x9), (8, .int x8), (7, .int x7), (6, .int x6), (0, .ref (oA ω 56)), (1, .int a1), (2, .int a2), (3, .int a3), (4, .int a4)] []) : ∀ (x9 : Int32) (x7 : Int32) (x6 : Int32) (s0 : Int32) (s1 : Int32) (I : Mem), EE κ ω 10 (Gi κ ω) (f_X7_kinds_b136 a1 a2 a3 a4 K62 x9 x7 x6 s0 s1 I) I 136 [(9, .int x9), (7, .int x7), (6, .int x6), (0, .ref (oA ω 56)), (1, .int a1), (2, .int a2), (3, .int a3), (4, .int a4)] [.int s0, .int s1] := by
  intro x9 x7 x6 s0 s1 I
  unfold f_X7_kinds_b136
  refine e_ior C dX7_kinds_136 (q := 137) rfl ?_
  refine e_nmi (fun v15 => ?_)
  refine e_istore C (lv1 := [(8, .int v15), (9, .int x9), (7, .int x7), (6, .int x6), (0, .ref (oA ω 56)), (1, .int a1), (2, .int a2), (3, .int a3), (4, .int a4)]) dX7_kinds_137 (Nat.le_of_ble_eq_true rfl) rfl (q := 139) rfl ?_
  refine e_iinc C (v := x9 + (1 : Int32)) (lv1 := [(9, .int (x9 + (1 : Int32))), (8, .int v15), (7, .int x7), (6, .int x6), (0, .ref (oA ω 56)), (1, .int a1), (2, .int a2), (3, .int a3), (4, .int a4)]) dX7_kinds_139 1 rfl (Nat.le_of_ble_eq_true rfl) (by rw [ic_1]) rfl (q := 142) rfl ?_
  refine e_goto C (tgt := 62) dX7_kinds_142 rfl ?_
  exact hK62 (x9 + (1 : Int32)) v15 x7 x6 _
set_option maxHeartbeats 4000000 in
set_option maxRecDepth 100000 in
theorem xb_X7_kinds_b115 {l : Launch} {κ : Kx} {ω : Om} {a1 : Int32} {a2 : Int32} {a3 : Int32} {a4 : Int32} (C : CX κ ω cX7_kinds 10 9 yX7_kinds.cls) (hlau : κ.2.1 = l) (hret : κ.2.2.2.2.2.2.2.2.1.sig.returnType = (some .int)) (hn : 75 ≤ oN ω)  {K62 : Int32 → Int32 → Int32 → Int32 → Mem → Option (Int32 × Mem)} (hK62 : ∀ (x9 : Int32) (x8 : Int32) (x7 : Int32) (x6 : Int32) (J : Mem), EE κ ω 10 (Gi κ ω) (K62 x9 x8 x7 x6 J) J 62 [(9, .int x9), (8, .int x8), (7, .int x7), (6, .int x6), (0, .ref (oA ω 56)), (1, .int a1), (2, .int a2), (3, .int a3), (4, .int a4)] []) : ∀ (x9 : Int32) (x8 : Int32) (x7 : Int32) (x6 : Int32) (s0 : Int32) (s1 : Int32) (I : Mem), EE κ ω 10 (Gi κ ω) (f_X7_kinds_b115 a1 a2 a3 a4 K62 x9 x8 x7 x6 s0 s1 I) I 115 [(9, .int x9), (8, .int x8), (7, .int x7), (6, .int x6), (0, .ref (oA ω 56)), (1, .int a1), (2, .int a2), (3, .int a3), (4, .int a4)] [.int s0, .int s1, .ref (oA ω 58)] := by
  intro x9 x8 x7 x6 s0 s1 I
  unfold f_X7_kinds_b115
  refine e_iast C (k := 58) (n := 6) dX7_kinds_115 (ltL hn (Nat.le_of_ble_eq_true rfl)) (fun _ => rfl) (q := 116) rfl ?_
  refine e_nmM (fun J12 => ?_)
  refine e_iload C dX7_kinds_116 1 rfl (q := 118) rfl ?_
  refine e_aload_n C dX7_kinds_118 rfl 4 rfl (q := 119) rfl ?_
  refine e_iload_n C dX7_kinds_119 rfl 5 rfl (q := 120) rfl ?_
  refine e_iload_n C dX7_kinds_120 rfl 6 rfl (q := 121) rfl ?_
  refine e_callVi C (l := l) (k := 56) (av := [.int a1, .int a2]) (st := [.int x8]) hlau (x_X7_unlike (l := l) (ω := ω) (a1 := a1) (a2 := a2) hn (I := J12)) dX7_kinds_121 w_1044 w_1046 w_53 w_67 w_1047 md_X7_unlike (by decide) (by decide) rfl (ltL hn (Nat.le_of_ble_eq_true rfl)) rfl rfl (Nat.le_of_ble_eq_true rfl) (q := 124) rfl (fun v14 J13 => ?_)
  refine e_iconst C dX7_kinds_124 ic_m1 (q := 125) rfl ?_
  refine e_icmpne C (tgt := 135) (q := 128) dX7_kinds_125 rfl rfl ?_ ?_
  · refine e_iconst C dX7_kinds_135 ic_0 (q := 136) rfl ?_
    exact e_lv [0, 2, 3, 4, 5, 6, 7, 8] (lv1 := [(9, .int x9), (7, .int x7), (6, .int x6), (0, .ref (oA ω 56)), (1, .int a1), (2, .int a2), (3, .int a3), (4, .int a4)]) rfl (xb_X7_kinds_b136 C hlau hret hn hK62 x9 x7 x6 (0 : Int32) x8 _)
  · refine e_iconst C dX7_kinds_128 ic_1 (q := 129) rfl ?_
    refine e_iload C dX7_kinds_129 0 rfl (q := 131) rfl ?_
    refine e_ishl C dX7_kinds_131 (q := 132) rfl ?_
    refine e_goto C (tgt := 136) dX7_kinds_132 rfl ?_
    exact e_lv [0, 2, 3, 4, 5, 6, 7, 8] (lv1 := [(9, .int x9), (7, .int x7), (6, .int x6), (0, .ref (oA ω 56)), (1, .int a1), (2, .int a2), (3, .int a3), (4, .int a4)]) rfl (xb_X7_kinds_b136 C hlau hret hn hK62 x9 x7 x6 ((1 : Int32) <<< (x9 &&& 31)) x8 _)
set_option maxHeartbeats 4000000 in
set_option maxRecDepth 100000 in
theorem xb_X7_kinds_b96 {l : Launch} {κ : Kx} {ω : Om} {a1 : Int32} {a2 : Int32} {a3 : Int32} {a4 : Int32} (C : CX κ ω cX7_kinds 10 9 yX7_kinds.cls) (hlau : κ.2.1 = l) (hret : κ.2.2.2.2.2.2.2.2.1.sig.returnType = (some .int)) (hn : 75 ≤ oN ω)  {K62 : Int32 → Int32 → Int32 → Int32 → Mem → Option (Int32 × Mem)} (hK62 : ∀ (x9 : Int32) (x8 : Int32) (x7 : Int32) (x6 : Int32) (J : Mem), EE κ ω 10 (Gi κ ω) (K62 x9 x8 x7 x6 J) J 62 [(9, .int x9), (8, .int x8), (7, .int x7), (6, .int x6), (0, .ref (oA ω 56)), (1, .int a1), (2, .int a2), (3, .int a3), (4, .int a4)] []) : ∀ (x9 : Int32) (x8 : Int32) (x7 : Int32) (x6 : Int32) (s0 : Int32) (s1 : Int32) (I : Mem), EE κ ω 10 (Gi κ ω) (f_X7_kinds_b96 a1 a2 a3 a4 K62 x9 x8 x7 x6 s0 s1 I) I 96 [(9, .int x9), (8, .int x8), (7, .int x7), (6, .int x6), (0, .ref (oA ω 56)), (1, .int a1), (2, .int a2), (3, .int a3), (4, .int a4)] [.int s0, .int s1, .ref (oA ω 57)] := by
  intro x9 x8 x7 x6 s0 s1 I
  unfold f_X7_kinds_b96
  refine e_iast C (k := 57) (n := 6) dX7_kinds_96 (ltL hn (Nat.le_of_ble_eq_true rfl)) (fun _ => rfl) (q := 97) rfl ?_
  refine e_nmM (fun J11 => ?_)
  refine e_aload_n C dX7_kinds_97 rfl 4 rfl (q := 98) rfl ?_
  refine e_getf C (k := 56) (j := 2) (T := TX7) (N := 32) (v := .ref (oA ω 58)) dX7_kinds_98 (ltL hn (Nat.le_of_ble_eq_true rfl)) rfl rfl (by decide) in_X7 w_764 rfl (q := 101) rfl ?_
  refine e_iload_n C dX7_kinds_101 rfl 7 rfl (q := 102) rfl ?_
  refine e_iload C dX7_kinds_102 8 rfl (q := 104) rfl ?_
  refine e_iconst C dX7_kinds_104 ic_1 (q := 105) rfl ?_
  refine e_icmpne C (tgt := 113) (q := 108) dX7_kinds_105 rfl rfl ?_ ?_
  · refine e_iload C dX7_kinds_113 2 rfl (q := 115) rfl ?_
    exact xb_X7_kinds_b115 C hlau hret hn hK62 x9 x8 x7 x6 x7 a3 _
  · refine e_iload C dX7_kinds_108 0 rfl (q := 110) rfl ?_
    refine e_goto C (tgt := 115) dX7_kinds_110 rfl ?_
    exact xb_X7_kinds_b115 C hlau hret hn hK62 x9 x8 x7 x6 x9 a3 _
set_option maxHeartbeats 4000000 in
set_option maxRecDepth 100000 in
theorem xb_X7_kinds_b76 {l : Launch} {κ : Kx} {ω : Om} {a1 : Int32} {a2 : Int32} {a3 : Int32} {a4 : Int32} (C : CX κ ω cX7_kinds 10 9 yX7_kinds.cls) (hlau : κ.2.1 = l) (hret : κ.2.2.2.2.2.2.2.2.1.sig.returnType = (some .int)) (hn : 75 ≤ oN ω)  {K62 : Int32 → Int32 → Int32 → Int32 → Mem → Option (Int32 × Mem)} (hK62 : ∀ (x9 : Int32) (x8 : Int32) (x7 : Int32) (x6 : Int32) (J : Mem), EE κ ω 10 (Gi κ ω) (K62 x9 x8 x7 x6 J) J 62 [(9, .int x9), (8, .int x8), (7, .int x7), (6, .int x6), (0, .ref (oA ω 56)), (1, .int a1), (2, .int a2), (3, .int a3), (4, .int a4)] []) : ∀ (x9 : Int32) (x8 : Int32) (x7 : Int32) (x6 : Int32) (s0 : Int32) (s1 : Int32) (I : Mem), EE κ ω 10 (Gi κ ω) (f_X7_kinds_b76 a1 a2 a3 a4 K62 x9 x8 x7 x6 s0 s1 I) I 76 [(9, .int x9), (8, .int x8), (7, .int x7), (6, .int x6), (0, .ref (oA ω 56)), (1, .int a1), (2, .int a2), (3, .int a3), (4, .int a4)] [.int s0, .int s1] := by
  intro x9 x8 x7 x6 s0 s1 I
  unfold f_X7_kinds_b76
  refine e_icmpge C (tgt := 145) (q := 79) dX7_kinds_76 rfl rfl ?_ ?_
  · refine e_aload_n C dX7_kinds_145 rfl 4 rfl (q := 146) rfl ?_
    refine e_getf C (k := 56) (j := 1) (T := TX7) (N := 32) (v := .ref (oA ω 57)) dX7_kinds_146 (ltL hn (Nat.le_of_ble_eq_true rfl)) rfl rfl (by decide) in_X7 w_763 rfl (q := 149) rfl ?_
    refine e_iload_n C dX7_kinds_149 rfl 7 rfl (q := 150) rfl ?_
    refine e_iload C dX7_kinds_150 3 rfl (q := 152) rfl ?_
    refine e_iast C (k := 57) (n := 6) dX7_kinds_152 (ltL hn (Nat.le_of_ble_eq_true rfl)) (fun _ => rfl) (q := 153) rfl ?_
    refine e_nmM (fun J9 => ?_)
    refine e_aload_n C dX7_kinds_153 rfl 4 rfl (q := 154) rfl ?_
    refine e_getf C (k := 56) (j := 2) (T := TX7) (N := 32) (v := .ref (oA ω 58)) dX7_kinds_154 (ltL hn (Nat.le_of_ble_eq_true rfl)) rfl rfl (by decide) in_X7 w_764 rfl (q := 157) rfl ?_
    refine e_iload_n C dX7_kinds_157 rfl 7 rfl (q := 158) rfl ?_
    refine e_iload C dX7_kinds_158 2 rfl (q := 160) rfl ?_
    refine e_iast C (k := 58) (n := 6) dX7_kinds_160 (ltL hn (Nat.le_of_ble_eq_true rfl)) (fun _ => rfl) (q := 161) rfl ?_
    refine e_nmM (fun J10 => ?_)
    refine e_iload C dX7_kinds_161 1 rfl (q := 163) rfl ?_
    exact e_ireturn C dX7_kinds_163 hret rfl
  · refine e_aload_n C dX7_kinds_79 rfl 4 rfl (q := 80) rfl ?_
    refine e_getf C (k := 56) (j := 1) (T := TX7) (N := 32) (v := .ref (oA ω 57)) dX7_kinds_80 (ltL hn (Nat.le_of_ble_eq_true rfl)) rfl rfl (by decide) in_X7 w_763 rfl (q := 83) rfl ?_
    refine e_iload_n C dX7_kinds_83 rfl 7 rfl (q := 84) rfl ?_
    refine e_iload C dX7_kinds_84 8 rfl (q := 86) rfl ?_
    refine e_ifne C (tgt := 94) (q := 89) dX7_kinds_86 rfl rfl ?_ ?_
    · refine e_iload C dX7_kinds_94 3 rfl (q := 96) rfl ?_
      exact xb_X7_kinds_b96 C hlau hret hn hK62 x9 x8 x7 x6 x6 a3 _
    · refine e_iload C dX7_kinds_89 0 rfl (q := 91) rfl ?_
      refine e_goto C (tgt := 96) dX7_kinds_91 rfl ?_
      exact xb_X7_kinds_b96 C hlau hret hn hK62 x9 x8 x7 x6 x9 a3 _
set_option maxHeartbeats 4000000 in
set_option maxRecDepth 100000 in
theorem xb_X7_kinds_b62 {l : Launch} {κ : Kx} {ω : Om} {a1 : Int32} {a2 : Int32} {a3 : Int32} {a4 : Int32} (C : CX κ ω cX7_kinds 10 9 yX7_kinds.cls) (hlau : κ.2.1 = l) (hret : κ.2.2.2.2.2.2.2.2.1.sig.returnType = (some .int)) (hn : 75 ≤ oN ω)  : ∀ (n : Nat) (x9 : Int32) (x8 : Int32) (x7 : Int32) (x6 : Int32) (I : Mem), EE κ ω 10 (Gi κ ω) (f_X7_kinds_b62 a1 a2 a3 a4 n x9 x8 x7 x6 I) I 62 [(9, .int x9), (8, .int x8), (7, .int x7), (6, .int x6), (0, .ref (oA ω 56)), (1, .int a1), (2, .int a2), (3, .int a3), (4, .int a4)] [] := by
  intro n
  induction n with
  | zero => intro x9 x8 x7 x6 I; exact e_none
  | succ n ih =>
    intro x9 x8 x7 x6 I
    rw [f_X7_kinds_b62]
    refine e_iload C dX7_kinds_62 0 rfl (q := 64) rfl ?_
    refine e_iload C dX7_kinds_64 8 rfl (q := 66) rfl ?_
    refine e_ifne C (tgt := 74) (q := 69) dX7_kinds_66 rfl rfl ?_ ?_
    · refine e_bipush C dX7_kinds_74 b8_10 (q := 76) rfl ?_
      exact xb_X7_kinds_b76 C hlau hret hn ih x9 x8 x7 x6 (10 : Int32) x9 _
    · refine e_bipush C dX7_kinds_69 b8_6 (q := 71) rfl ?_
      refine e_goto C (tgt := 76) dX7_kinds_71 rfl ?_
      exact xb_X7_kinds_b76 C hlau hret hn ih x9 x8 x7 x6 (6 : Int32) x9 _
set_option maxHeartbeats 4000000 in
set_option maxRecDepth 100000 in
theorem x_X7_kinds {l : Launch} {ω : Om} {a1 : Int32} {a2 : Int32} {a3 : Int32} {a4 : Int32} (hn : 75 ≤ oN ω)  {I : Mem} : CTi l ω yX7_kinds cX7_kinds 10 (some .int) 9 [.ref (oA ω 56), .int a1, .int a2, .int a3, .int a4] (f_X7_kinds a1 a2 a3 a4 I) I := by
  refine ct_i (by decide) (Nat.le_of_ble_eq_true rfl) ?_
  intro κ hlau hret C
  refine e_lv [0, 1, 2, 3, 4] (lv1 := [(0, .ref (oA ω 56)), (1, .int a1), (2, .int a2), (3, .int a3), (4, .int a4)]) rfl ?_
  unfold f_X7_kinds
  refine e_aload_n C dX7_kinds_0 rfl 0 rfl (q := 1) rfl ?_
  refine e_iload_n C dX7_kinds_1 rfl 1 rfl (q := 2) rfl ?_
  refine e_iload_n C dX7_kinds_2 rfl 2 rfl (q := 3) rfl ?_
  refine e_callVi C (l := l) (k := 56) (av := [.int a1, .int a2]) (st := []) hlau (x_X7_toldWrong (l := l) (ω := ω) (a1 := a1) (a2 := a2) hn (I := I)) dX7_kinds_3 w_1036 w_1038 w_51 w_67 w_1039 md_X7_toldWrong (by decide) (by decide) rfl (ltL hn (Nat.le_of_ble_eq_true rfl)) rfl rfl (Nat.le_of_ble_eq_true rfl) (q := 6) rfl (fun v2 J1 => ?_)
  refine e_istore C (lv1 := [(5, .int v2), (0, .ref (oA ω 56)), (1, .int a1), (2, .int a2), (3, .int a3), (4, .int a4)]) dX7_kinds_6 (Nat.le_of_ble_eq_true rfl) rfl (q := 8) rfl ?_
  refine e_iload C dX7_kinds_8 0 rfl (q := 10) rfl ?_
  refine e_ifeq C (tgt := 16) (q := 13) dX7_kinds_10 rfl rfl ?_ ?_
  · refine e_aload_n C dX7_kinds_16 rfl 1 rfl (q := 17) rfl ?_
    refine e_iload_n C dX7_kinds_17 rfl 4 rfl (q := 18) rfl ?_
    refine e_callVi C (l := l) (k := 56) (av := [.int a3]) (st := []) hlau (x_X7_isOne (l := l) (ω := ω) (a1 := a3) hn (I := J1)) dX7_kinds_18 w_890 w_892 w_32 w_67 w_893 md_X7_isOne (by decide) (by decide) rfl (ltL hn (Nat.le_of_ble_eq_true rfl)) rfl rfl (Nat.le_of_ble_eq_true rfl) (q := 21) rfl (fun v4 J3 => ?_)
    refine e_ifne C (tgt := 27) (q := 24) dX7_kinds_21 rfl rfl ?_ ?_
    · refine e_iload C dX7_kinds_27 5 rfl (q := 29) rfl ?_
      refine e_iconst C dX7_kinds_29 ic_0 (q := 30) rfl ?_
      refine e_iconst C dX7_kinds_30 ic_1 (q := 31) rfl ?_
      refine e_callSi C (l := l) (av := [.int a4, .int (0 : Int32), .int (1 : Int32)]) (st := []) hlau (x_X7_in (l := l) (ω := ω) (a0 := a4) (a1 := (0 : Int32)) (a2 := (1 : Int32)) hn (I := J3)) dX7_kinds_31 w_723 w_724 w_67 w_725 md_X7_in (by decide) (by decide) rfl (Nat.le_of_ble_eq_true rfl) (q := 34) rfl (fun v6 J5 => ?_)
      refine e_ifne C (tgt := 40) (q := 37) dX7_kinds_34 rfl rfl ?_ ?_
      · refine e_aload_n C dX7_kinds_40 rfl 1 rfl (q := 41) rfl ?_
        refine e_getf C (k := 56) (j := 1) (T := TX7) (N := 32) (v := .ref (oA ω 57)) dX7_kinds_41 (ltL hn (Nat.le_of_ble_eq_true rfl)) rfl rfl (by decide) in_X7 w_763 rfl (q := 44) rfl ?_
        refine e_iload_n C dX7_kinds_44 rfl 4 rfl (q := 45) rfl ?_
        refine e_iald C (k := 57) (n := 6) dX7_kinds_45 (ltL hn (Nat.le_of_ble_eq_true rfl)) rfl (q := 46) rfl ?_
        refine e_nmi (fun v7 => ?_)
        refine e_istore C (lv1 := [(6, .int v7), (5, .int v2), (0, .ref (oA ω 56)), (1, .int a1), (2, .int a2), (3, .int a3), (4, .int a4)]) dX7_kinds_46 (Nat.le_of_ble_eq_true rfl) rfl (q := 48) rfl ?_
        refine e_aload_n C dX7_kinds_48 rfl 2 rfl (q := 49) rfl ?_
        refine e_getf C (k := 56) (j := 2) (T := TX7) (N := 32) (v := .ref (oA ω 58)) dX7_kinds_49 (ltL hn (Nat.le_of_ble_eq_true rfl)) rfl rfl (by decide) in_X7 w_764 rfl (q := 52) rfl ?_
        refine e_iload_n C dX7_kinds_52 rfl 5 rfl (q := 53) rfl ?_
        refine e_iald C (k := 58) (n := 6) dX7_kinds_53 (ltL hn (Nat.le_of_ble_eq_true rfl)) rfl (q := 54) rfl ?_
        refine e_nmi (fun v8 => ?_)
        refine e_istore C (lv1 := [(7, .int v8), (6, .int v7), (5, .int v2), (0, .ref (oA ω 56)), (1, .int a1), (2, .int a2), (3, .int a3), (4, .int a4)]) dX7_kinds_54 (Nat.le_of_ble_eq_true rfl) rfl (q := 56) rfl ?_
        refine e_iconst C dX7_kinds_56 ic_0 (q := 57) rfl ?_
        refine e_istore C (lv1 := [(8, .int (0 : Int32)), (7, .int v8), (6, .int v7), (5, .int v2), (0, .ref (oA ω 56)), (1, .int a1), (2, .int a2), (3, .int a3), (4, .int a4)]) dX7_kinds_57 (Nat.le_of_ble_eq_true rfl) rfl (q := 59) rfl ?_
        refine e_iconst C dX7_kinds_59 ic_0 (q := 60) rfl ?_
        refine e_istore C (lv1 := [(9, .int (0 : Int32)), (8, .int (0 : Int32)), (7, .int v8), (6, .int v7), (5, .int v2), (0, .ref (oA ω 56)), (1, .int a1), (2, .int a2), (3, .int a3), (4, .int a4)]) dX7_kinds_60 (Nat.le_of_ble_eq_true rfl) rfl (q := 62) rfl ?_
        exact e_lv [0, 1, 2, 3, 5, 6, 7, 8, 9] (lv1 := [(9, .int (0 : Int32)), (8, .int (0 : Int32)), (7, .int v8), (6, .int v7), (0, .ref (oA ω 56)), (1, .int a1), (2, .int a2), (3, .int a3), (4, .int a4)]) rfl (xb_X7_kinds_b62 C hlau hret hn FU (0 : Int32) (0 : Int32) v8 v7 _)
      · refine e_bipush C dX7_kinds_37 b8_m7 (q := 39) rfl ?_
        exact e_ireturn C dX7_kinds_39 hret rfl
    · refine e_bipush C dX7_kinds_24 b8_m6 (q := 26) rfl ?_
      exact e_ireturn C dX7_kinds_26 hret rfl
  · refine e_iload C dX7_kinds_13 0 rfl (q := 15) rfl ?_
    exact e_ireturn C dX7_kinds_15 hret rfl
set_option maxHeartbeats 4000000 in
set_option maxRecDepth 100000 in
theorem xb_X7_states_b128 {l : Launch} {κ : Kx} {ω : Om} {a1 : Int32} {a2 : Int32} {a3 : Int32} {a4 : Int32} (C : CX κ ω cX7_states 11 9 yX7_states.cls) (hlau : κ.2.1 = l) (hret : κ.2.2.2.2.2.2.2.2.1.sig.returnType = (some .int)) (hn : 75 ≤ oN ω)  {K59 : Int32 → Int32 → Int32 → Int32 → Mem → Option (Int32 × Mem)} (hK59 : ∀ (x9 : Int32) (x8 : Int32) (x7 : Int32) (x6 : Int32) (J : Mem), EE κ ω 11 (Gi κ ω) (K59 x9 x8 x7 x6 J) J 59 [(9, .int x9), (8, .int x8), (7, .int x7), (6, .int x6), (0, .ref (oA ω 56)), (1, .int a1), (2, .int a2), (3, .int a3), (4, .int a4)] []) : ∀ (x7 : Int32) (x9 : Int32) (x6 : Int32) (s0 : Int32) (I : Mem), EE κ ω 11 (Gi κ ω) (f_X7_states_b128 a1 a2 a3 a4 K59 x7 x9 x6 s0 I) I 128 [(7, .int x7), (9, .int x9), (6, .int x6), (0, .ref (oA ω 56)), (1, .int a1), (2, .int a2), (3, .int a3), (4, .int a4)] [.int s0] := by
  intro x7 x9 x6 s0 I
  unfold f_X7_states_b128
  refine e_istore C (lv1 := [(8, .int s0), (7, .int x7), (9, .int x9), (6, .int x6), (0, .ref (oA ω 56)), (1, .int a1), (2, .int a2), (3, .int a3), (4, .int a4)]) dX7_states_128 (Nat.le_of_ble_eq_true rfl) rfl (q := 130) rfl ?_
  refine e_iinc C (v := x9 + (1 : Int32)) (lv1 := [(9, .int (x9 + (1 : Int32))), (8, .int s0), (7, .int x7), (6, .int x6), (0, .ref (oA ω 56)), (1, .int a1), (2, .int a2), (3, .int a3), (4, .int a4)]) dX7_states_130 2 rfl (Nat.le_of_ble_eq_true rfl) (by rw [ic_1]) rfl (q := 133) rfl ?_
  refine e_goto C (tgt := 59) dX7_states_133 rfl ?_
  exact hK59 (x9 + (1 : Int32)) s0 x7 x6 _
set_option maxHeartbeats 4000000 in
set_option maxRecDepth 100000 in
theorem xb_X7_states_b126 {l : Launch} {κ : Kx} {ω : Om} {a1 : Int32} {a2 : Int32} {a3 : Int32} {a4 : Int32} (C : CX κ ω cX7_states 11 9 yX7_states.cls) (hlau : κ.2.1 = l) (hret : κ.2.2.2.2.2.2.2.2.1.sig.returnType = (some .int)) (hn : 75 ≤ oN ω)  {K59 : Int32 → Int32 → Int32 → Int32 → Mem → Option (Int32 × Mem)} (hK59 : ∀ (x9 : Int32) (x8 : Int32) (x7 : Int32) (x6 : Int32) (J : Mem), EE κ ω 11 (Gi κ ω) (K59 x9 x8 x7 x6 J) J 59 [(9, .int x9), (8, .int x8), (7, .int x7), (6, .int x6), (0, .ref (oA ω 56)), (1, .int a1), (2, .int a2), (3, .int a3), (4, .int a4)] []) : ∀ (x7 : Int32) (x9 : Int32) (x8 : Int32) (x6 : Int32) (I : Mem), EE κ ω 11 (Gi κ ω) (f_X7_states_b126 a1 a2 a3 a4 K59 x7 x9 x8 x6 I) I 126 [(7, .int x7), (9, .int x9), (8, .int x8), (6, .int x6), (0, .ref (oA ω 56)), (1, .int a1), (2, .int a2), (3, .int a3), (4, .int a4)] [] := by
  intro x7 x9 x8 x6 I
  unfold f_X7_states_b126
  refine e_iload C dX7_states_126 2 rfl (q := 128) rfl ?_
  exact e_lv [0, 1, 3, 4, 5, 6, 7, 8] (lv1 := [(7, .int x7), (9, .int x9), (6, .int x6), (0, .ref (oA ω 56)), (1, .int a1), (2, .int a2), (3, .int a3), (4, .int a4)]) rfl (xb_X7_states_b128 C hlau hret hn hK59 x7 x9 x6 x8 _)
set_option maxHeartbeats 4000000 in
set_option maxRecDepth 100000 in
theorem xb_X7_states_b107 {l : Launch} {κ : Kx} {ω : Om} {a1 : Int32} {a2 : Int32} {a3 : Int32} {a4 : Int32} (C : CX κ ω cX7_states 11 9 yX7_states.cls) (hlau : κ.2.1 = l) (hret : κ.2.2.2.2.2.2.2.2.1.sig.returnType = (some .int)) (hn : 75 ≤ oN ω)  {K59 : Int32 → Int32 → Int32 → Int32 → Mem → Option (Int32 × Mem)} (hK59 : ∀ (x9 : Int32) (x8 : Int32) (x7 : Int32) (x6 : Int32) (J : Mem), EE κ ω 11 (Gi κ ω) (K59 x9 x8 x7 x6 J) J 59 [(9, .int x9), (8, .int x8), (7, .int x7), (6, .int x6), (0, .ref (oA ω 56)), (1, .int a1), (2, .int a2), (3, .int a3), (4, .int a4)] []) : ∀ (x10 : Int32) (x9 : Int32) (x8 : Int32) (x6 : Int32) (s0 : Int32) (s1 : Int32) (I : Mem), EE κ ω 11 (Gi κ ω) (f_X7_states_b107 a1 a2 a3 a4 K59 x10 x9 x8 x6 s0 s1 I) I 107 [(10, .int x10), (9, .int x9), (8, .int x8), (6, .int x6), (0, .ref (oA ω 56)), (1, .int a1), (2, .int a2), (3, .int a3), (4, .int a4)] [.int s0, .int s1] := by
  intro x10 x9 x8 x6 s0 s1 I
  unfold f_X7_states_b107
  refine e_iadd C dX7_states_107 (q := 108) rfl ?_
  refine e_nmi (fun v12 => ?_)
  refine e_istore C (lv1 := [(7, .int v12), (10, .int x10), (9, .int x9), (8, .int x8), (6, .int x6), (0, .ref (oA ω 56)), (1, .int a1), (2, .int a2), (3, .int a3), (4, .int a4)]) dX7_states_108 (Nat.le_of_ble_eq_true rfl) rfl (q := 110) rfl ?_
  refine e_iload C dX7_states_110 1 rfl (q := 112) rfl ?_
  refine e_ifeq C (tgt := 126) (q := 115) dX7_states_112 rfl rfl ?_ ?_
  · exact e_lv [0, 2, 3, 4, 5, 6, 7, 8, 9] (lv1 := [(7, .int v12), (9, .int x9), (8, .int x8), (6, .int x6), (0, .ref (oA ω 56)), (1, .int a1), (2, .int a2), (3, .int a3), (4, .int a4)]) rfl (xb_X7_states_b126 C hlau hret hn hK59 v12 x9 x8 x6 _)
  · refine e_iload C dX7_states_115 3 rfl (q := 117) rfl ?_
    refine e_iconst C dX7_states_117 ic_m1 (q := 118) rfl ?_
    refine e_icmpne C (tgt := 126) (q := 121) dX7_states_118 rfl rfl ?_ ?_
    · exact e_lv [0, 2, 3, 4, 5, 6, 7, 8, 9] (lv1 := [(7, .int v12), (9, .int x9), (8, .int x8), (6, .int x6), (0, .ref (oA ω 56)), (1, .int a1), (2, .int a2), (3, .int a3), (4, .int a4)]) rfl (xb_X7_states_b126 C hlau hret hn hK59 v12 x9 x8 x6 _)
    · refine e_iload C dX7_states_121 2 rfl (q := 123) rfl ?_
      refine e_goto C (tgt := 128) dX7_states_123 rfl ?_
      exact e_lv [0, 2, 4, 5, 6, 7, 8, 9] (lv1 := [(7, .int v12), (9, .int x9), (6, .int x6), (0, .ref (oA ω 56)), (1, .int a1), (2, .int a2), (3, .int a3), (4, .int a4)]) rfl (xb_X7_states_b128 C hlau hret hn hK59 v12 x9 x6 x9 _)
set_option maxHeartbeats 4000000 in
set_option maxRecDepth 100000 in
theorem xb_X7_states_b93 {l : Launch} {κ : Kx} {ω : Om} {a1 : Int32} {a2 : Int32} {a3 : Int32} {a4 : Int32} (C : CX κ ω cX7_states 11 9 yX7_states.cls) (hlau : κ.2.1 = l) (hret : κ.2.2.2.2.2.2.2.2.1.sig.returnType = (some .int)) (hn : 75 ≤ oN ω)  {K59 : Int32 → Int32 → Int32 → Int32 → Mem → Option (Int32 × Mem)} (hK59 : ∀ (x9 : Int32) (x8 : Int32) (x7 : Int32) (x6 : Int32) (J : Mem), EE κ ω 11 (Gi κ ω) (K59 x9 x8 x7 x6 J) J 59 [(9, .int x9), (8, .int x8), (7, .int x7), (6, .int x6), (0, .ref (oA ω 56)), (1, .int a1), (2, .int a2), (3, .int a3), (4, .int a4)] []) : ∀ (x9 : Int32) (x8 : Int32) (x7 : Int32) (x6 : Int32) (s0 : Int32) (I : Mem), EE κ ω 11 (Gi κ ω) (f_X7_states_b93 a1 a2 a3 a4 K59 x9 x8 x7 x6 s0 I) I 93 [(9, .int x9), (8, .int x8), (7, .int x7), (6, .int x6), (0, .ref (oA ω 56)), (1, .int a1), (2, .int a2), (3, .int a3), (4, .int a4)] [.int s0] := by
  intro x9 x8 x7 x6 s0 I
  unfold f_X7_states_b93
  refine e_istore C (lv1 := [(10, .int s0), (9, .int x9), (8, .int x8), (7, .int x7), (6, .int x6), (0, .ref (oA ω 56)), (1, .int a1), (2, .int a2), (3, .int a3), (4, .int a4)]) dX7_states_93 (Nat.le_of_ble_eq_true rfl) rfl (q := 95) rfl ?_
  refine e_iload C dX7_states_95 3 rfl (q := 97) rfl ?_
  refine e_iload C dX7_states_97 0 rfl (q := 99) rfl ?_
  refine e_ifeq C (tgt := 106) (q := 102) dX7_states_99 rfl rfl ?_ ?_
  · refine e_iconst C dX7_states_106 ic_0 (q := 107) rfl ?_
    exact e_lv [0, 1, 2, 4, 5, 6, 7, 8, 9] (lv1 := [(10, .int s0), (9, .int x9), (8, .int x8), (6, .int x6), (0, .ref (oA ω 56)), (1, .int a1), (2, .int a2), (3, .int a3), (4, .int a4)]) rfl (xb_X7_states_b107 C hlau hret hn hK59 s0 x9 x8 x6 (0 : Int32) x7 _)
  · refine e_iconst C dX7_states_102 ic_1 (q := 103) rfl ?_
    refine e_goto C (tgt := 107) dX7_states_103 rfl ?_
    exact e_lv [0, 1, 2, 4, 5, 6, 7, 8, 9] (lv1 := [(10, .int s0), (9, .int x9), (8, .int x8), (6, .int x6), (0, .ref (oA ω 56)), (1, .int a1), (2, .int a2), (3, .int a3), (4, .int a4)]) rfl (xb_X7_states_b107 C hlau hret hn hK59 s0 x9 x8 x6 (1 : Int32) x7 _)
set_option maxHeartbeats 4000000 in
set_option maxRecDepth 100000 in
theorem xb_X7_states_b59 {l : Launch} {κ : Kx} {ω : Om} {a1 : Int32} {a2 : Int32} {a3 : Int32} {a4 : Int32} (C : CX κ ω cX7_states 11 9 yX7_states.cls) (hlau : κ.2.1 = l) (hret : κ.2.2.2.2.2.2.2.2.1.sig.returnType = (some .int)) (hn : 75 ≤ oN ω)  : ∀ (n : Nat) (x9 : Int32) (x8 : Int32) (x7 : Int32) (x6 : Int32) (I : Mem), EE κ ω 11 (Gi κ ω) (f_X7_states_b59 a1 a2 a3 a4 n x9 x8 x7 x6 I) I 59 [(9, .int x9), (8, .int x8), (7, .int x7), (6, .int x6), (0, .ref (oA ω 56)), (1, .int a1), (2, .int a2), (3, .int a3), (4, .int a4)] [] := by
  intro n
  induction n with
  | zero => intro x9 x8 x7 x6 I; exact e_none
  | succ n ih =>
    intro x9 x8 x7 x6 I
    rw [f_X7_states_b59]
    refine e_iload C dX7_states_59 0 rfl (q := 61) rfl ?_
    refine e_bipush C dX7_states_61 b8_99 (q := 63) rfl ?_
    refine e_icmpgt C (tgt := 136) (q := 66) dX7_states_63 rfl rfl ?_ ?_
    · refine e_aload_n C dX7_states_136 rfl 4 rfl (q := 137) rfl ?_
      refine e_getf C (k := 56) (j := 3) (T := TX7) (N := 32) (v := .ref (oA ω 59)) dX7_states_137 (ltL hn (Nat.le_of_ble_eq_true rfl)) rfl rfl (by decide) in_X7 w_765 rfl (q := 140) rfl ?_
      refine e_iconst C dX7_states_140 ic_4 (q := 141) rfl ?_
      refine e_iload_n C dX7_states_141 rfl 6 rfl (q := 142) rfl ?_
      refine e_imul C dX7_states_142 (q := 143) rfl ?_
      refine e_iload_n C dX7_states_143 rfl 7 rfl (q := 144) rfl ?_
      refine e_iadd C dX7_states_144 (q := 145) rfl ?_
      refine e_iload C dX7_states_145 3 rfl (q := 147) rfl ?_
      refine e_iast C (k := 59) (n := 24) dX7_states_147 (ltL hn (Nat.le_of_ble_eq_true rfl)) (fun _ => rfl) (q := 148) rfl ?_
      refine e_nmM (fun J8 => ?_)
      refine e_iload C dX7_states_148 8 rfl (q := 150) rfl ?_
      refine e_ifne C (tgt := 158) (q := 153) dX7_states_150 rfl rfl ?_ ?_
      · refine e_iload C dX7_states_158 1 rfl (q := 160) rfl ?_
        exact e_ireturn C dX7_states_160 hret rfl
      · refine e_iload C dX7_states_153 2 rfl (q := 155) rfl ?_
        refine e_goto C (tgt := 160) dX7_states_155 rfl ?_
        exact e_ireturn C dX7_states_160 hret rfl
    · refine e_aload_n C dX7_states_66 rfl 4 rfl (q := 67) rfl ?_
      refine e_getf C (k := 56) (j := 3) (T := TX7) (N := 32) (v := .ref (oA ω 59)) dX7_states_67 (ltL hn (Nat.le_of_ble_eq_true rfl)) rfl rfl (by decide) in_X7 w_765 rfl (q := 70) rfl ?_
      refine e_iconst C dX7_states_70 ic_4 (q := 71) rfl ?_
      refine e_iload_n C dX7_states_71 rfl 6 rfl (q := 72) rfl ?_
      refine e_imul C dX7_states_72 (q := 73) rfl ?_
      refine e_iload_n C dX7_states_73 rfl 7 rfl (q := 74) rfl ?_
      refine e_iadd C dX7_states_74 (q := 75) rfl ?_
      refine e_iload C dX7_states_75 0 rfl (q := 77) rfl ?_
      refine e_iast C (k := 59) (n := 24) dX7_states_77 (ltL hn (Nat.le_of_ble_eq_true rfl)) (fun _ => rfl) (q := 78) rfl ?_
      refine e_nmM (fun J9 => ?_)
      refine e_aload_n C dX7_states_78 rfl 4 rfl (q := 79) rfl ?_
      refine e_iload_n C dX7_states_79 rfl 5 rfl (q := 80) rfl ?_
      refine e_iload_n C dX7_states_80 rfl 6 rfl (q := 81) rfl ?_
      refine e_callVi C (l := l) (k := 56) (av := [.int a1, .int a2]) (st := []) hlau (x_X7_unlike (l := l) (ω := ω) (a1 := a1) (a2 := a2) hn (I := J9)) dX7_states_81 w_1044 w_1046 w_53 w_67 w_1047 md_X7_unlike (by decide) (by decide) rfl (ltL hn (Nat.le_of_ble_eq_true rfl)) rfl rfl (Nat.le_of_ble_eq_true rfl) (q := 84) rfl (fun v11 J10 => ?_)
      refine e_iconst C dX7_states_84 ic_m1 (q := 85) rfl ?_
      refine e_icmpne C (tgt := 92) (q := 88) dX7_states_85 rfl rfl ?_ ?_
      · refine e_iconst C dX7_states_92 ic_0 (q := 93) rfl ?_
        exact xb_X7_states_b93 C hlau hret hn ih x9 x8 x7 x6 (0 : Int32) _
      · refine e_iconst C dX7_states_88 ic_1 (q := 89) rfl ?_
        refine e_goto C (tgt := 93) dX7_states_89 rfl ?_
        exact xb_X7_states_b93 C hlau hret hn ih x9 x8 x7 x6 (1 : Int32) _
set_option maxHeartbeats 4000000 in
set_option maxRecDepth 100000 in
theorem x_X7_states {l : Launch} {ω : Om} {a1 : Int32} {a2 : Int32} {a3 : Int32} {a4 : Int32} (hn : 75 ≤ oN ω)  {I : Mem} : CTi l ω yX7_states cX7_states 11 (some .int) 9 [.ref (oA ω 56), .int a1, .int a2, .int a3, .int a4] (f_X7_states a1 a2 a3 a4 I) I := by
  refine ct_i (by decide) (Nat.le_of_ble_eq_true rfl) ?_
  intro κ hlau hret C
  refine e_lv [0, 1, 2, 3, 4] (lv1 := [(0, .ref (oA ω 56)), (1, .int a1), (2, .int a2), (3, .int a3), (4, .int a4)]) rfl ?_
  unfold f_X7_states
  refine e_aload_n C dX7_states_0 rfl 0 rfl (q := 1) rfl ?_
  refine e_iload_n C dX7_states_1 rfl 1 rfl (q := 2) rfl ?_
  refine e_iload_n C dX7_states_2 rfl 2 rfl (q := 3) rfl ?_
  refine e_callVi C (l := l) (k := 56) (av := [.int a1, .int a2]) (st := []) hlau (x_X7_toldWrong (l := l) (ω := ω) (a1 := a1) (a2 := a2) hn (I := I)) dX7_states_3 w_1036 w_1038 w_51 w_67 w_1039 md_X7_toldWrong (by decide) (by decide) rfl (ltL hn (Nat.le_of_ble_eq_true rfl)) rfl rfl (Nat.le_of_ble_eq_true rfl) (q := 6) rfl (fun v2 J1 => ?_)
  refine e_istore C (lv1 := [(5, .int v2), (0, .ref (oA ω 56)), (1, .int a1), (2, .int a2), (3, .int a3), (4, .int a4)]) dX7_states_6 (Nat.le_of_ble_eq_true rfl) rfl (q := 8) rfl ?_
  refine e_iload C dX7_states_8 0 rfl (q := 10) rfl ?_
  refine e_ifeq C (tgt := 16) (q := 13) dX7_states_10 rfl rfl ?_ ?_
  · refine e_iload_n C dX7_states_16 rfl 4 rfl (q := 17) rfl ?_
    refine e_iconst C dX7_states_17 ic_1 (q := 18) rfl ?_
    refine e_iconst C dX7_states_18 ic_2 (q := 19) rfl ?_
    refine e_callSi C (l := l) (av := [.int a3, .int (1 : Int32), .int (2 : Int32)]) (st := []) hlau (x_X7_in (l := l) (ω := ω) (a0 := a3) (a1 := (1 : Int32)) (a2 := (2 : Int32)) hn (I := J1)) dX7_states_19 w_723 w_724 w_67 w_725 md_X7_in (by decide) (by decide) rfl (Nat.le_of_ble_eq_true rfl) (q := 22) rfl (fun v4 J3 => ?_)
    refine e_ifeq C (tgt := 35) (q := 25) dX7_states_22 rfl rfl ?_ ?_
    · refine e_bipush C dX7_states_35 b8_m7 (q := 37) rfl ?_
      exact e_ireturn C dX7_states_37 hret rfl
    · refine e_iload C dX7_states_25 5 rfl (q := 27) rfl ?_
      refine e_iconst C dX7_states_27 ic_0 (q := 28) rfl ?_
      refine e_iconst C dX7_states_28 ic_1 (q := 29) rfl ?_
      refine e_callSi C (l := l) (av := [.int a4, .int (0 : Int32), .int (1 : Int32)]) (st := []) hlau (x_X7_in (l := l) (ω := ω) (a0 := a4) (a1 := (0 : Int32)) (a2 := (1 : Int32)) hn (I := J3)) dX7_states_29 w_723 w_724 w_67 w_725 md_X7_in (by decide) (by decide) rfl (Nat.le_of_ble_eq_true rfl) (q := 32) rfl (fun v6 J5 => ?_)
      refine e_ifne C (tgt := 38) (q := 35) dX7_states_32 rfl rfl ?_ ?_
      · refine e_aload_n C dX7_states_38 rfl 1 rfl (q := 39) rfl ?_
        refine e_getf C (k := 56) (j := 3) (T := TX7) (N := 32) (v := .ref (oA ω 59)) dX7_states_39 (ltL hn (Nat.le_of_ble_eq_true rfl)) rfl rfl (by decide) in_X7 w_765 rfl (q := 42) rfl ?_
        refine e_iconst C dX7_states_42 ic_4 (q := 43) rfl ?_
        refine e_iload_n C dX7_states_43 rfl 3 rfl (q := 44) rfl ?_
        refine e_imul C dX7_states_44 (q := 45) rfl ?_
        refine e_iload_n C dX7_states_45 rfl 4 rfl (q := 46) rfl ?_
        refine e_iadd C dX7_states_46 (q := 47) rfl ?_
        refine e_iald C (k := 59) (n := 24) dX7_states_47 (ltL hn (Nat.le_of_ble_eq_true rfl)) rfl (q := 48) rfl ?_
        refine e_nmi (fun v7 => ?_)
        refine e_istore C (lv1 := [(6, .int v7), (5, .int v2), (0, .ref (oA ω 56)), (1, .int a1), (2, .int a2), (3, .int a3), (4, .int a4)]) dX7_states_48 (Nat.le_of_ble_eq_true rfl) rfl (q := 50) rfl ?_
        refine e_iconst C dX7_states_50 ic_0 (q := 51) rfl ?_
        refine e_istore C (lv1 := [(7, .int (0 : Int32)), (6, .int v7), (5, .int v2), (0, .ref (oA ω 56)), (1, .int a1), (2, .int a2), (3, .int a3), (4, .int a4)]) dX7_states_51 (Nat.le_of_ble_eq_true rfl) rfl (q := 53) rfl ?_
        refine e_iconst C dX7_states_53 ic_m1 (q := 54) rfl ?_
        refine e_istore C (lv1 := [(8, .int (-1 : Int32)), (7, .int (0 : Int32)), (6, .int v7), (5, .int v2), (0, .ref (oA ω 56)), (1, .int a1), (2, .int a2), (3, .int a3), (4, .int a4)]) dX7_states_54 (Nat.le_of_ble_eq_true rfl) rfl (q := 56) rfl ?_
        refine e_iconst C dX7_states_56 ic_0 (q := 57) rfl ?_
        refine e_istore C (lv1 := [(9, .int (0 : Int32)), (8, .int (-1 : Int32)), (7, .int (0 : Int32)), (6, .int v7), (5, .int v2), (0, .ref (oA ω 56)), (1, .int a1), (2, .int a2), (3, .int a3), (4, .int a4)]) dX7_states_57 (Nat.le_of_ble_eq_true rfl) rfl (q := 59) rfl ?_
        exact e_lv [0, 1, 2, 3, 5, 6, 7, 8, 9] (lv1 := [(9, .int (0 : Int32)), (8, .int (-1 : Int32)), (7, .int (0 : Int32)), (6, .int v7), (0, .ref (oA ω 56)), (1, .int a1), (2, .int a2), (3, .int a3), (4, .int a4)]) rfl (xb_X7_states_b59 C hlau hret hn FU (0 : Int32) (-1 : Int32) (0 : Int32) v7 _)
      · refine e_bipush C dX7_states_35 b8_m7 (q := 37) rfl ?_
        exact e_ireturn C dX7_states_37 hret rfl
  · refine e_iload C dX7_states_13 0 rfl (q := 15) rfl ?_
    exact e_ireturn C dX7_states_15 hret rfl
set_option maxHeartbeats 4000000 in
set_option maxRecDepth 100000 in
theorem xb_X7_places_b65 {l : Launch} {κ : Kx} {ω : Om} {a1 : Int32} {a2 : Int32} (C : CX κ ω cX7_places 7 9 yX7_places.cls) (hlau : κ.2.1 = l) (hret : κ.2.2.2.2.2.2.2.2.1.sig.returnType = (some .long)) (hn : 75 ≤ oN ω)  {K28 : Int32 → Int64 → Int32 → Mem → Option (Int64 × Mem)} (hK28 : ∀ (x6 : Int32) (x4 : Int64) (x3 : Int32) (J : Mem), EE κ ω 7 (Gl κ ω) (K28 x6 x4 x3 J) J 28 [(6, .int x6), (4, .long x4), (3, .int x3), (0, .ref (oA ω 56)), (1, .int a1), (2, .int a2)] []) : ∀ (x6 : Int32) (x3 : Int32) (s0 : Int64) (s1 : Int64) (I : Mem), EE κ ω 7 (Gl κ ω) (f_X7_places_b65 a1 a2 K28 x6 x3 s0 s1 I) I 65 [(6, .int x6), (3, .int x3), (0, .ref (oA ω 56)), (1, .int a1), (2, .int a2)] [.long s0, .long s1] := by
  intro x6 x3 s0 s1 I
  unfold f_X7_places_b65
  refine e_lor C dX7_places_65 (q := 66) rfl ?_
  refine e_nml (fun v8 => ?_)
  refine e_lstore C (lv1 := [(4, .long v8), (6, .int x6), (3, .int x3), (0, .ref (oA ω 56)), (1, .int a1), (2, .int a2)]) dX7_places_66 (Nat.le_of_ble_eq_true rfl) rfl (q := 68) rfl ?_
  refine e_iinc C (v := x6 + (1 : Int32)) (lv1 := [(6, .int (x6 + (1 : Int32))), (4, .long v8), (3, .int x3), (0, .ref (oA ω 56)), (1, .int a1), (2, .int a2)]) dX7_places_68 1 rfl (Nat.le_of_ble_eq_true rfl) (by rw [ic_1]) rfl (q := 71) rfl ?_
  refine e_goto C (tgt := 28) dX7_places_71 rfl ?_
  exact hK28 (x6 + (1 : Int32)) v8 x3 _
set_option maxHeartbeats 4000000 in
set_option maxRecDepth 100000 in
theorem xb_X7_places_b28 {l : Launch} {κ : Kx} {ω : Om} {a1 : Int32} {a2 : Int32} (C : CX κ ω cX7_places 7 9 yX7_places.cls) (hlau : κ.2.1 = l) (hret : κ.2.2.2.2.2.2.2.2.1.sig.returnType = (some .long)) (hn : 75 ≤ oN ω)  : ∀ (n : Nat) (x6 : Int32) (x4 : Int64) (x3 : Int32) (I : Mem), EE κ ω 7 (Gl κ ω) (f_X7_places_b28 a1 a2 n x6 x4 x3 I) I 28 [(6, .int x6), (4, .long x4), (3, .int x3), (0, .ref (oA ω 56)), (1, .int a1), (2, .int a2)] [] := by
  intro n
  induction n with
  | zero => intro x6 x4 x3 I; exact e_none
  | succ n ih =>
    intro x6 x4 x3 I
    rw [f_X7_places_b28]
    refine e_iload C dX7_places_28 0 rfl (q := 30) rfl ?_
    refine e_bipush C dX7_places_30 b8_64 (q := 32) rfl ?_
    refine e_icmpge C (tgt := 74) (q := 35) dX7_places_32 rfl rfl ?_ ?_
    · refine e_aload_n C dX7_places_74 rfl 3 rfl (q := 75) rfl ?_
      refine e_getf C (k := 56) (j := 3) (T := TX7) (N := 32) (v := .ref (oA ω 59)) dX7_places_75 (ltL hn (Nat.le_of_ble_eq_true rfl)) rfl rfl (by decide) in_X7 w_765 rfl (q := 78) rfl ?_
      refine e_iconst C dX7_places_78 ic_4 (q := 79) rfl ?_
      refine e_iload_n C dX7_places_79 rfl 5 rfl (q := 80) rfl ?_
      refine e_imul C dX7_places_80 (q := 81) rfl ?_
      refine e_iload_n C dX7_places_81 rfl 2 rfl (q := 82) rfl ?_
      refine e_iast C (k := 59) (n := 24) dX7_places_82 (ltL hn (Nat.le_of_ble_eq_true rfl)) (fun _ => rfl) (q := 83) rfl ?_
      refine e_nmM (fun J4 => ?_)
      refine e_lload C dX7_places_83 1 rfl (q := 85) rfl ?_
      exact e_lreturn C dX7_places_85 hret
    · refine e_aload_n C dX7_places_35 rfl 3 rfl (q := 36) rfl ?_
      refine e_getf C (k := 56) (j := 3) (T := TX7) (N := 32) (v := .ref (oA ω 59)) dX7_places_36 (ltL hn (Nat.le_of_ble_eq_true rfl)) rfl rfl (by decide) in_X7 w_765 rfl (q := 39) rfl ?_
      refine e_iconst C dX7_places_39 ic_4 (q := 40) rfl ?_
      refine e_iload_n C dX7_places_40 rfl 5 rfl (q := 41) rfl ?_
      refine e_imul C dX7_places_41 (q := 42) rfl ?_
      refine e_iload C dX7_places_42 0 rfl (q := 44) rfl ?_
      refine e_iast C (k := 59) (n := 24) dX7_places_44 (ltL hn (Nat.le_of_ble_eq_true rfl)) (fun _ => rfl) (q := 45) rfl ?_
      refine e_nmM (fun J5 => ?_)
      refine e_lload C dX7_places_45 1 rfl (q := 47) rfl ?_
      refine e_aload_n C dX7_places_47 rfl 3 rfl (q := 48) rfl ?_
      refine e_iload_n C dX7_places_48 rfl 4 rfl (q := 49) rfl ?_
      refine e_iload_n C dX7_places_49 rfl 5 rfl (q := 50) rfl ?_
      refine e_callVi C (l := l) (k := 56) (av := [.int a1, .int a2]) (st := [.long x4]) hlau (x_X7_unlike (l := l) (ω := ω) (a1 := a1) (a2 := a2) hn (I := J5)) dX7_places_50 w_1044 w_1046 w_53 w_67 w_1047 md_X7_unlike (by decide) (by decide) rfl (ltL hn (Nat.le_of_ble_eq_true rfl)) rfl rfl (Nat.le_of_ble_eq_true rfl) (q := 53) rfl (fun v7 J6 => ?_)
      refine e_iconst C dX7_places_53 ic_m1 (q := 54) rfl ?_
      refine e_icmpne C (tgt := 64) (q := 57) dX7_places_54 rfl rfl ?_ ?_
      · refine e_lconst C (v := (0 : Int64)) dX7_places_64 (by decide) (q := 65) rfl ?_
        exact e_lv [0, 2, 3, 4, 5] (lv1 := [(6, .int x6), (3, .int x3), (0, .ref (oA ω 56)), (1, .int a1), (2, .int a2)]) rfl (xb_X7_places_b65 C hlau hret hn ih x6 x3 (0 : Int64) x4 _)
      · refine e_lconst C (v := (1 : Int64)) dX7_places_57 (by decide) (q := 58) rfl ?_
        refine e_iload C dX7_places_58 0 rfl (q := 60) rfl ?_
        refine e_lshl C dX7_places_60 (q := 61) rfl ?_
        refine e_goto C (tgt := 65) dX7_places_61 rfl ?_
        exact e_lv [0, 2, 3, 4, 5] (lv1 := [(6, .int x6), (3, .int x3), (0, .ref (oA ω 56)), (1, .int a1), (2, .int a2)]) rfl (xb_X7_places_b65 C hlau hret hn ih x6 x3 ((1 : Int64) <<< ((x6).toInt64 &&& 63)) x4 _)
set_option maxHeartbeats 4000000 in
set_option maxRecDepth 100000 in
theorem x_X7_places {l : Launch} {ω : Om} {a1 : Int32} {a2 : Int32} (hn : 75 ≤ oN ω)  {I : Mem} : CTl l ω yX7_places cX7_places 7 (some .long) 9 [.ref (oA ω 56), .int a1, .int a2] (f_X7_places a1 a2 I) I := by
  refine ct_l (by decide) (Nat.le_of_ble_eq_true rfl) ?_
  intro κ hlau hret C
  refine e_lv [0, 1, 2] (lv1 := [(0, .ref (oA ω 56)), (1, .int a1), (2, .int a2)]) rfl ?_
  unfold f_X7_places
  refine e_aload_n C dX7_places_0 rfl 0 rfl (q := 1) rfl ?_
  refine e_iload_n C dX7_places_1 rfl 1 rfl (q := 2) rfl ?_
  refine e_iload_n C dX7_places_2 rfl 2 rfl (q := 3) rfl ?_
  refine e_callVi C (l := l) (k := 56) (av := [.int a1, .int a2]) (st := []) hlau (x_X7_toldWrong (l := l) (ω := ω) (a1 := a1) (a2 := a2) hn (I := I)) dX7_places_3 w_1036 w_1038 w_51 w_67 w_1039 md_X7_toldWrong (by decide) (by decide) rfl (ltL hn (Nat.le_of_ble_eq_true rfl)) rfl rfl (Nat.le_of_ble_eq_true rfl) (q := 6) rfl (fun v2 J1 => ?_)
  refine e_ifeq C (tgt := 13) (q := 9) dX7_places_6 rfl rfl ?_ ?_
  · refine e_aload_n C dX7_places_13 rfl 0 rfl (q := 14) rfl ?_
    refine e_getf C (k := 56) (j := 3) (T := TX7) (N := 32) (v := .ref (oA ω 59)) dX7_places_14 (ltL hn (Nat.le_of_ble_eq_true rfl)) rfl rfl (by decide) in_X7 w_765 rfl (q := 17) rfl ?_
    refine e_iconst C dX7_places_17 ic_4 (q := 18) rfl ?_
    refine e_iload_n C dX7_places_18 rfl 2 rfl (q := 19) rfl ?_
    refine e_imul C dX7_places_19 (q := 20) rfl ?_
    refine e_iald C (k := 59) (n := 24) dX7_places_20 (ltL hn (Nat.le_of_ble_eq_true rfl)) rfl (q := 21) rfl ?_
    refine e_nmi (fun v3 => ?_)
    refine e_istore_n C (lv1 := [(3, .int v3), (0, .ref (oA ω 56)), (1, .int a1), (2, .int a2)]) dX7_places_21 rfl (Nat.le_of_ble_eq_true rfl) rfl (q := 22) rfl ?_
    refine e_lconst C (v := (0 : Int64)) dX7_places_22 (by decide) (q := 23) rfl ?_
    refine e_lstore C (lv1 := [(4, .long (0 : Int64)), (3, .int v3), (0, .ref (oA ω 56)), (1, .int a1), (2, .int a2)]) dX7_places_23 (Nat.le_of_ble_eq_true rfl) rfl (q := 25) rfl ?_
    refine e_iconst C dX7_places_25 ic_0 (q := 26) rfl ?_
    refine e_istore C (lv1 := [(6, .int (0 : Int32)), (4, .long (0 : Int64)), (3, .int v3), (0, .ref (oA ω 56)), (1, .int a1), (2, .int a2)]) dX7_places_26 (Nat.le_of_ble_eq_true rfl) rfl (q := 28) rfl ?_
    exact xb_X7_places_b28 C hlau hret hn FU (0 : Int32) (0 : Int64) v3 _
  · refine e_ldc2 C dX7_places_9 w_1031 (q := 12) rfl ?_
    exact e_lreturn C dX7_places_12 hret
set_option maxHeartbeats 4000000 in
set_option maxRecDepth 100000 in
theorem xb_X7_whose_b46 {l : Launch} {κ : Kx} {ω : Om} {a1 : Int32} (C : CX κ ω cX7_whose 5 9 yX7_whose.cls) (hlau : κ.2.1 = l) (hret : κ.2.2.2.2.2.2.2.2.1.sig.returnType = (some .int)) (hn : 75 ≤ oN ω)  {K17 : Int32 → Int32 → Mem → Option (Int32 × Mem)} (hK17 : ∀ (x4 : Int32) (x3 : Int32) (J : Mem), EE κ ω 5 (Gi κ ω) (K17 x4 x3 J) J 17 [(4, .int x4), (3, .int x3), (0, .ref (oA ω 56)), (1, .int a1)] []) : ∀ (x4 : Int32) (s0 : Int32) (s1 : Int32) (I : Mem), EE κ ω 5 (Gi κ ω) (f_X7_whose_b46 a1 K17 x4 s0 s1 I) I 46 [(4, .int x4), (0, .ref (oA ω 56)), (1, .int a1)] [.int s0, .int s1] := by
  intro x4 s0 s1 I
  unfold f_X7_whose_b46
  refine e_ior C dX7_whose_46 (q := 47) rfl ?_
  refine e_nmi (fun v5 => ?_)
  refine e_istore_n C (lv1 := [(3, .int v5), (4, .int x4), (0, .ref (oA ω 56)), (1, .int a1)]) dX7_whose_47 rfl (Nat.le_of_ble_eq_true rfl) rfl (q := 48) rfl ?_
  refine e_iinc C (v := x4 + (1 : Int32)) (lv1 := [(4, .int (x4 + (1 : Int32))), (3, .int v5), (0, .ref (oA ω 56)), (1, .int a1)]) dX7_whose_48 1 rfl (Nat.le_of_ble_eq_true rfl) (by rw [ic_1]) rfl (q := 51) rfl ?_
  refine e_goto C (tgt := 17) dX7_whose_51 rfl ?_
  exact hK17 (x4 + (1 : Int32)) v5 _
set_option maxHeartbeats 4000000 in
set_option maxRecDepth 100000 in
theorem xb_X7_whose_b17 {l : Launch} {κ : Kx} {ω : Om} {a1 : Int32} (C : CX κ ω cX7_whose 5 9 yX7_whose.cls) (hlau : κ.2.1 = l) (hret : κ.2.2.2.2.2.2.2.2.1.sig.returnType = (some .int)) (hn : 75 ≤ oN ω)  : ∀ (n : Nat) (x4 : Int32) (x3 : Int32) (I : Mem), EE κ ω 5 (Gi κ ω) (f_X7_whose_b17 a1 n x4 x3 I) I 17 [(4, .int x4), (3, .int x3), (0, .ref (oA ω 56)), (1, .int a1)] [] := by
  intro n
  induction n with
  | zero => intro x4 x3 I; exact e_none
  | succ n ih =>
    intro x4 x3 I
    rw [f_X7_whose_b17]
    refine e_iload C dX7_whose_17 0 rfl (q := 19) rfl ?_
    refine e_aload_n C dX7_whose_19 rfl 2 rfl (q := 20) rfl ?_
    refine e_getf C (k := 56) (j := 0) (T := TX7) (N := 32) (v := .int (I 56 0)) dX7_whose_20 (ltL hn (Nat.le_of_ble_eq_true rfl)) rfl rfl (by decide) in_X7 w_762 rfl (q := 23) rfl ?_
    refine e_icmpge C (tgt := 54) (q := 26) dX7_whose_23 rfl rfl ?_ ?_
    · refine e_iload_n C dX7_whose_54 rfl 1 rfl (q := 55) rfl ?_
      exact e_ireturn C dX7_whose_55 hret rfl
    · refine e_iload_n C dX7_whose_26 rfl 1 rfl (q := 27) rfl ?_
      refine e_aload_n C dX7_whose_27 rfl 2 rfl (q := 28) rfl ?_
      refine e_iload_n C dX7_whose_28 rfl 3 rfl (q := 29) rfl ?_
      refine e_iload C dX7_whose_29 0 rfl (q := 31) rfl ?_
      refine e_callVi C (l := l) (k := 56) (av := [.int a1, .int x4]) (st := [.int x3]) hlau (x_X7_unlike (l := l) (ω := ω) (a1 := a1) (a2 := x4) hn (I := I)) dX7_whose_31 w_1044 w_1046 w_53 w_67 w_1047 md_X7_unlike (by decide) (by decide) rfl (ltL hn (Nat.le_of_ble_eq_true rfl)) rfl rfl (Nat.le_of_ble_eq_true rfl) (q := 34) rfl (fun v4 J3 => ?_)
      refine e_iconst C dX7_whose_34 ic_m1 (q := 35) rfl ?_
      refine e_icmpne C (tgt := 45) (q := 38) dX7_whose_35 rfl rfl ?_ ?_
      · refine e_iconst C dX7_whose_45 ic_0 (q := 46) rfl ?_
        exact e_lv [0, 2, 3] (lv1 := [(4, .int x4), (0, .ref (oA ω 56)), (1, .int a1)]) rfl (xb_X7_whose_b46 C hlau hret hn ih x4 (0 : Int32) x3 _)
      · refine e_iconst C dX7_whose_38 ic_1 (q := 39) rfl ?_
        refine e_iload C dX7_whose_39 0 rfl (q := 41) rfl ?_
        refine e_ishl C dX7_whose_41 (q := 42) rfl ?_
        refine e_goto C (tgt := 46) dX7_whose_42 rfl ?_
        exact e_lv [0, 2, 3] (lv1 := [(4, .int x4), (0, .ref (oA ω 56)), (1, .int a1)]) rfl (xb_X7_whose_b46 C hlau hret hn ih x4 ((1 : Int32) <<< (x4 &&& 31)) x3 _)
set_option maxHeartbeats 4000000 in
set_option maxRecDepth 100000 in
theorem x_X7_whose {l : Launch} {ω : Om} {a1 : Int32} (hn : 75 ≤ oN ω)  {I : Mem} : CTi l ω yX7_whose cX7_whose 5 (some .int) 9 [.ref (oA ω 56), .int a1] (f_X7_whose a1 I) I := by
  refine ct_i (by decide) (Nat.le_of_ble_eq_true rfl) ?_
  intro κ hlau hret C
  refine e_lv [0, 1] (lv1 := [(0, .ref (oA ω 56)), (1, .int a1)]) rfl ?_
  unfold f_X7_whose
  refine e_aload_n C dX7_whose_0 rfl 0 rfl (q := 1) rfl ?_
  refine e_iload_n C dX7_whose_1 rfl 1 rfl (q := 2) rfl ?_
  refine e_callVi C (l := l) (k := 56) (av := [.int a1]) (st := []) hlau (x_X7_sheetWrong (l := l) (ω := ω) (a1 := a1) hn (I := I)) dX7_whose_2 w_1040 w_1042 w_52 w_67 w_1043 md_X7_sheetWrong (by decide) (by decide) rfl (ltL hn (Nat.le_of_ble_eq_true rfl)) rfl rfl (Nat.le_of_ble_eq_true rfl) (q := 5) rfl (fun v2 J1 => ?_)
  refine e_istore_n C (lv1 := [(2, .int v2), (0, .ref (oA ω 56)), (1, .int a1)]) dX7_whose_5 rfl (Nat.le_of_ble_eq_true rfl) rfl (q := 6) rfl ?_
  refine e_iload_n C dX7_whose_6 rfl 0 rfl (q := 7) rfl ?_
  refine e_ifeq C (tgt := 12) (q := 10) dX7_whose_7 rfl rfl ?_ ?_
  · refine e_iconst C dX7_whose_12 ic_0 (q := 13) rfl ?_
    refine e_istore_n C (lv1 := [(3, .int (0 : Int32)), (2, .int v2), (0, .ref (oA ω 56)), (1, .int a1)]) dX7_whose_13 rfl (Nat.le_of_ble_eq_true rfl) rfl (q := 14) rfl ?_
    refine e_iconst C dX7_whose_14 ic_0 (q := 15) rfl ?_
    refine e_istore C (lv1 := [(4, .int (0 : Int32)), (3, .int (0 : Int32)), (2, .int v2), (0, .ref (oA ω 56)), (1, .int a1)]) dX7_whose_15 (Nat.le_of_ble_eq_true rfl) rfl (q := 17) rfl ?_
    exact e_lv [0, 1, 3, 4] (lv1 := [(4, .int (0 : Int32)), (3, .int (0 : Int32)), (0, .ref (oA ω 56)), (1, .int a1)]) rfl (xb_X7_whose_b17 C hlau hret hn FU (0 : Int32) (0 : Int32) _)
  · refine e_iload_n C dX7_whose_10 rfl 0 rfl (q := 11) rfl ?_
    exact e_ireturn C dX7_whose_11 hret rfl
set_option maxHeartbeats 4000000 in
set_option maxRecDepth 100000 in
theorem xb_X7_laws_b60 {l : Launch} {κ : Kx} {ω : Om} {a1 : Int32} {a2 : Int32} (C : CX κ ω cX7_laws 7 9 yX7_laws.cls) (hlau : κ.2.1 = l) (hret : κ.2.2.2.2.2.2.2.2.1.sig.returnType = (some .int)) (hn : 75 ≤ oN ω)  {K25 : Int32 → Int32 → Int32 → Mem → Option (Int32 × Mem)} (hK25 : ∀ (x6 : Int32) (x5 : Int32) (x4 : Int32) (J : Mem), EE κ ω 7 (Gi κ ω) (K25 x6 x5 x4 J) J 25 [(6, .int x6), (5, .int x5), (4, .int x4), (0, .ref (oA ω 56)), (1, .int a1), (2, .int a2)] []) : ∀ (x6 : Int32) (x4 : Int32) (s0 : Int32) (s1 : Int32) (I : Mem), EE κ ω 7 (Gi κ ω) (f_X7_laws_b60 a1 a2 K25 x6 x4 s0 s1 I) I 60 [(6, .int x6), (4, .int x4), (0, .ref (oA ω 56)), (1, .int a1), (2, .int a2)] [.int s0, .int s1] := by
  intro x6 x4 s0 s1 I
  unfold f_X7_laws_b60
  refine e_ior C dX7_laws_60 (q := 61) rfl ?_
  refine e_nmi (fun v8 => ?_)
  refine e_istore C (lv1 := [(5, .int v8), (6, .int x6), (4, .int x4), (0, .ref (oA ω 56)), (1, .int a1), (2, .int a2)]) dX7_laws_61 (Nat.le_of_ble_eq_true rfl) rfl (q := 63) rfl ?_
  refine e_iinc C (v := x6 + (1 : Int32)) (lv1 := [(6, .int (x6 + (1 : Int32))), (5, .int v8), (4, .int x4), (0, .ref (oA ω 56)), (1, .int a1), (2, .int a2)]) dX7_laws_63 1 rfl (Nat.le_of_ble_eq_true rfl) (by rw [ic_1]) rfl (q := 66) rfl ?_
  refine e_goto C (tgt := 25) dX7_laws_66 rfl ?_
  exact hK25 (x6 + (1 : Int32)) v8 x4 _
set_option maxHeartbeats 4000000 in
set_option maxRecDepth 100000 in
theorem xb_X7_laws_b25 {l : Launch} {κ : Kx} {ω : Om} {a1 : Int32} {a2 : Int32} (C : CX κ ω cX7_laws 7 9 yX7_laws.cls) (hlau : κ.2.1 = l) (hret : κ.2.2.2.2.2.2.2.2.1.sig.returnType = (some .int)) (hn : 75 ≤ oN ω)  : ∀ (n : Nat) (x6 : Int32) (x5 : Int32) (x4 : Int32) (I : Mem), EE κ ω 7 (Gi κ ω) (f_X7_laws_b25 a1 a2 n x6 x5 x4 I) I 25 [(6, .int x6), (5, .int x5), (4, .int x4), (0, .ref (oA ω 56)), (1, .int a1), (2, .int a2)] [] := by
  intro n
  induction n with
  | zero => intro x6 x5 x4 I; exact e_none
  | succ n ih =>
    intro x6 x5 x4 I
    rw [f_X7_laws_b25]
    refine e_iload C dX7_laws_25 0 rfl (q := 27) rfl ?_
    refine e_aload_n C dX7_laws_27 rfl 3 rfl (q := 28) rfl ?_
    refine e_getf C (k := 56) (j := 10) (T := TX7) (N := 32) (v := .int (I 56 10)) dX7_laws_28 (ltL hn (Nat.le_of_ble_eq_true rfl)) rfl rfl (by decide) in_X7 w_772 rfl (q := 31) rfl ?_
    refine e_icmpge C (tgt := 69) (q := 34) dX7_laws_31 rfl rfl ?_ ?_
    · refine e_aload_n C dX7_laws_69 rfl 3 rfl (q := 70) rfl ?_
      refine e_iload C dX7_laws_70 2 rfl (q := 72) rfl ?_
      refine e_putf C (k := 56) (j := 11) (T := TX7) (N := 32) dX7_laws_72 (ltL hn (Nat.le_of_ble_eq_true rfl)) rfl rfl (by decide) in_X7 w_773 tyX7_ok nmX7 rfl rfl rfl (show 11 < 32 by decide) (set_Mo_11_ _) (q := 75) rfl ?_
      refine e_nmM (fun J4 => ?_)
      refine e_iload C dX7_laws_75 1 rfl (q := 77) rfl ?_
      exact e_ireturn C dX7_laws_77 hret rfl
    · refine e_aload_n C dX7_laws_34 rfl 3 rfl (q := 35) rfl ?_
      refine e_iload C dX7_laws_35 0 rfl (q := 37) rfl ?_
      refine e_putf C (k := 56) (j := 11) (T := TX7) (N := 32) dX7_laws_37 (ltL hn (Nat.le_of_ble_eq_true rfl)) rfl rfl (by decide) in_X7 w_773 tyX7_ok nmX7 rfl rfl rfl (show 11 < 32 by decide) (set_Mo_11_ _) (q := 40) rfl ?_
      refine e_nmM (fun J5 => ?_)
      refine e_iload C dX7_laws_40 1 rfl (q := 42) rfl ?_
      refine e_aload_n C dX7_laws_42 rfl 3 rfl (q := 43) rfl ?_
      refine e_iload_n C dX7_laws_43 rfl 4 rfl (q := 44) rfl ?_
      refine e_iload_n C dX7_laws_44 rfl 5 rfl (q := 45) rfl ?_
      refine e_callVi C (l := l) (k := 56) (av := [.int a1, .int a2]) (st := [.int x5]) hlau (x_X7_unlike (l := l) (ω := ω) (a1 := a1) (a2 := a2) hn (I := J5)) dX7_laws_45 w_1044 w_1046 w_53 w_67 w_1047 md_X7_unlike (by decide) (by decide) rfl (ltL hn (Nat.le_of_ble_eq_true rfl)) rfl rfl (Nat.le_of_ble_eq_true rfl) (q := 48) rfl (fun v7 J6 => ?_)
      refine e_iconst C dX7_laws_48 ic_m1 (q := 49) rfl ?_
      refine e_icmpne C (tgt := 59) (q := 52) dX7_laws_49 rfl rfl ?_ ?_
      · refine e_iconst C dX7_laws_59 ic_0 (q := 60) rfl ?_
        exact e_lv [0, 2, 3, 4, 5] (lv1 := [(6, .int x6), (4, .int x4), (0, .ref (oA ω 56)), (1, .int a1), (2, .int a2)]) rfl (xb_X7_laws_b60 C hlau hret hn ih x6 x4 (0 : Int32) x5 _)
      · refine e_iconst C dX7_laws_52 ic_1 (q := 53) rfl ?_
        refine e_iload C dX7_laws_53 0 rfl (q := 55) rfl ?_
        refine e_ishl C dX7_laws_55 (q := 56) rfl ?_
        refine e_goto C (tgt := 60) dX7_laws_56 rfl ?_
        exact e_lv [0, 2, 3, 4, 5] (lv1 := [(6, .int x6), (4, .int x4), (0, .ref (oA ω 56)), (1, .int a1), (2, .int a2)]) rfl (xb_X7_laws_b60 C hlau hret hn ih x6 x4 ((1 : Int32) <<< (x6 &&& 31)) x5 _)
set_option maxHeartbeats 4000000 in
set_option maxRecDepth 100000 in
theorem x_X7_laws {l : Launch} {ω : Om} {a1 : Int32} {a2 : Int32} (hn : 75 ≤ oN ω)  {I : Mem} : CTi l ω yX7_laws cX7_laws 7 (some .int) 9 [.ref (oA ω 56), .int a1, .int a2] (f_X7_laws a1 a2 I) I := by
  refine ct_i (by decide) (Nat.le_of_ble_eq_true rfl) ?_
  intro κ hlau hret C
  refine e_lv [0, 1, 2] (lv1 := [(0, .ref (oA ω 56)), (1, .int a1), (2, .int a2)]) rfl ?_
  unfold f_X7_laws
  refine e_aload_n C dX7_laws_0 rfl 0 rfl (q := 1) rfl ?_
  refine e_iload_n C dX7_laws_1 rfl 1 rfl (q := 2) rfl ?_
  refine e_iload_n C dX7_laws_2 rfl 2 rfl (q := 3) rfl ?_
  refine e_callVi C (l := l) (k := 56) (av := [.int a1, .int a2]) (st := []) hlau (x_X7_toldWrong (l := l) (ω := ω) (a1 := a1) (a2 := a2) hn (I := I)) dX7_laws_3 w_1036 w_1038 w_51 w_67 w_1039 md_X7_toldWrong (by decide) (by decide) rfl (ltL hn (Nat.le_of_ble_eq_true rfl)) rfl rfl (Nat.le_of_ble_eq_true rfl) (q := 6) rfl (fun v2 J1 => ?_)
  refine e_istore_n C (lv1 := [(3, .int v2), (0, .ref (oA ω 56)), (1, .int a1), (2, .int a2)]) dX7_laws_6 rfl (Nat.le_of_ble_eq_true rfl) rfl (q := 7) rfl ?_
  refine e_iload_n C dX7_laws_7 rfl 0 rfl (q := 8) rfl ?_
  refine e_ifeq C (tgt := 13) (q := 11) dX7_laws_8 rfl rfl ?_ ?_
  · refine e_aload_n C dX7_laws_13 rfl 1 rfl (q := 14) rfl ?_
    refine e_getf C (k := 56) (j := 11) (T := TX7) (N := 32) (v := .int (J1 56 11)) dX7_laws_14 (ltL hn (Nat.le_of_ble_eq_true rfl)) rfl rfl (by decide) in_X7 w_773 rfl (q := 17) rfl ?_
    refine e_nmi (fun v3 => ?_)
    refine e_istore C (lv1 := [(4, .int v3), (3, .int v2), (0, .ref (oA ω 56)), (1, .int a1), (2, .int a2)]) dX7_laws_17 (Nat.le_of_ble_eq_true rfl) rfl (q := 19) rfl ?_
    refine e_iconst C dX7_laws_19 ic_0 (q := 20) rfl ?_
    refine e_istore C (lv1 := [(5, .int (0 : Int32)), (4, .int v3), (3, .int v2), (0, .ref (oA ω 56)), (1, .int a1), (2, .int a2)]) dX7_laws_20 (Nat.le_of_ble_eq_true rfl) rfl (q := 22) rfl ?_
    refine e_iconst C dX7_laws_22 ic_0 (q := 23) rfl ?_
    refine e_istore C (lv1 := [(6, .int (0 : Int32)), (5, .int (0 : Int32)), (4, .int v3), (3, .int v2), (0, .ref (oA ω 56)), (1, .int a1), (2, .int a2)]) dX7_laws_23 (Nat.le_of_ble_eq_true rfl) rfl (q := 25) rfl ?_
    exact e_lv [0, 1, 2, 4, 5, 6] (lv1 := [(6, .int (0 : Int32)), (5, .int (0 : Int32)), (4, .int v3), (0, .ref (oA ω 56)), (1, .int a1), (2, .int a2)]) rfl (xb_X7_laws_b25 C hlau hret hn FU (0 : Int32) (0 : Int32) v3 _)
  · refine e_iload_n C dX7_laws_11 rfl 0 rfl (q := 12) rfl ?_
    exact e_ireturn C dX7_laws_12 hret rfl
set_option maxHeartbeats 4000000 in
set_option maxRecDepth 100000 in
theorem xb_X7_film_b57 {l : Launch} {κ : Kx} {ω : Om} {a1 : Int32} {a2 : Int32} {a3 : Int32} (C : CX κ ω cX7_film 5 8 yX7_film.cls) (hlau : κ.2.1 = l) (hret : κ.2.2.2.2.2.2.2.2.1.sig.returnType = (some .int)) (hn : 75 ≤ oN ω)  : ∀ (n : Nat) (x4 : Int32) (I : Mem), EE κ ω 5 (Gi κ ω) (f_X7_film_b57 a1 a2 a3 n x4 I) I 57 [(4, .int x4), (0, .ref (oA ω 56)), (1, .int a1), (2, .int a2), (3, .int a3)] [] := by
  intro n
  induction n with
  | zero => intro x4 I; exact e_none
  | succ n ih =>
    intro x4 I
    rw [f_X7_film_b57]
    refine e_iload C dX7_film_57 0 rfl (q := 59) rfl ?_
    refine e_bipush C dX7_film_59 b8_40 (q := 61) rfl ?_
    refine e_icmpge C (tgt := 116) (q := 64) dX7_film_61 rfl rfl ?_ ?_
    · refine e_aload_n C dX7_film_116 rfl 1 rfl (q := 117) rfl ?_
      refine e_callVv C (l := l) (k := 56) (av := []) (st := []) hlau (x_X7_lays (l := l) (ω := ω) hn (I := I)) dX7_film_117 w_988 w_990 w_48 w_67 w_991 md_X7_lays (by decide) (by decide) rfl (ltL hn (Nat.le_of_ble_eq_true rfl)) rfl rfl (Nat.le_of_ble_eq_true rfl) (q := 120) rfl (fun _ J10 => ?_)
      refine e_iload_n C dX7_film_120 rfl 4 rfl (q := 121) rfl ?_
      exact e_ireturn C dX7_film_121 hret rfl
    · refine e_aload_n C dX7_film_64 rfl 1 rfl (q := 65) rfl ?_
      refine e_getf C (k := 56) (j := 17) (T := TX7) (N := 32) (v := .ref (oA ω 68)) dX7_film_65 (ltL hn (Nat.le_of_ble_eq_true rfl)) rfl rfl (by decide) in_X7 w_779 rfl (q := 68) rfl ?_
      refine e_bipush C dX7_film_68 b8_40 (q := 70) rfl ?_
      refine e_iload_n C dX7_film_70 rfl 2 rfl (q := 71) rfl ?_
      refine e_imul C dX7_film_71 (q := 72) rfl ?_
      refine e_iload C dX7_film_72 0 rfl (q := 74) rfl ?_
      refine e_iadd C dX7_film_74 (q := 75) rfl ?_
      refine e_iconst C dX7_film_75 ic_0 (q := 76) rfl ?_
      refine e_iast C (k := 68) (n := 160) dX7_film_76 (ltL hn (Nat.le_of_ble_eq_true rfl)) (fun _ => rfl) (q := 77) rfl ?_
      refine e_nmM (fun J11 => ?_)
      refine e_iload C dX7_film_77 0 rfl (q := 79) rfl ?_
      refine e_iload_n C dX7_film_79 rfl 4 rfl (q := 80) rfl ?_
      refine e_icmpge C (tgt := 110) (q := 83) dX7_film_80 rfl rfl ?_ ?_
      · refine e_iinc C (v := x4 + (1 : Int32)) (lv1 := [(4, .int (x4 + (1 : Int32))), (0, .ref (oA ω 56)), (1, .int a1), (2, .int a2), (3, .int a3)]) dX7_film_110 0 rfl (Nat.le_of_ble_eq_true rfl) (by rw [ic_1]) rfl (q := 113) rfl ?_
        refine e_goto C (tgt := 57) dX7_film_113 rfl ?_
        exact ih (x4 + (1 : Int32)) _
      · refine e_aload_n C dX7_film_83 rfl 1 rfl (q := 84) rfl ?_
        refine e_callVi C (l := l) (k := 56) (av := []) (st := []) hlau (x_X7_roundOf (l := l) (ω := ω) hn (I := J11)) dX7_film_84 w_956 w_958 w_42 w_67 w_959 md_X7_roundOf (by decide) (by decide) rfl (ltL hn (Nat.le_of_ble_eq_true rfl)) rfl rfl (Nat.le_of_ble_eq_true rfl) (q := 87) rfl (fun v13 J12 => ?_)
        refine e_pop C dX7_film_87 rfl (q := 88) rfl ?_
        refine e_aload_n C dX7_film_88 rfl 1 rfl (q := 89) rfl ?_
        refine e_getf C (k := 56) (j := 17) (T := TX7) (N := 32) (v := .ref (oA ω 68)) dX7_film_89 (ltL hn (Nat.le_of_ble_eq_true rfl)) rfl rfl (by decide) in_X7 w_779 rfl (q := 92) rfl ?_
        refine e_bipush C dX7_film_92 b8_40 (q := 94) rfl ?_
        refine e_iload_n C dX7_film_94 rfl 2 rfl (q := 95) rfl ?_
        refine e_imul C dX7_film_95 (q := 96) rfl ?_
        refine e_iload C dX7_film_96 0 rfl (q := 98) rfl ?_
        refine e_iadd C dX7_film_98 (q := 99) rfl ?_
        refine e_aload_n C dX7_film_99 rfl 1 rfl (q := 100) rfl ?_
        refine e_getf C (k := 56) (j := 3) (T := TX7) (N := 32) (v := .ref (oA ω 59)) dX7_film_100 (ltL hn (Nat.le_of_ble_eq_true rfl)) rfl rfl (by decide) in_X7 w_765 rfl (q := 103) rfl ?_
        refine e_iconst C dX7_film_103 ic_4 (q := 104) rfl ?_
        refine e_iload_n C dX7_film_104 rfl 3 rfl (q := 105) rfl ?_
        refine e_imul C dX7_film_105 (q := 106) rfl ?_
        refine e_iconst C dX7_film_106 ic_1 (q := 107) rfl ?_
        refine e_iadd C dX7_film_107 (q := 108) rfl ?_
        refine e_nmi (fun v14 => ?_)
        refine e_iald C (k := 59) (n := 24) dX7_film_108 (ltL hn (Nat.le_of_ble_eq_true rfl)) rfl (q := 109) rfl ?_
        refine e_iast C (k := 68) (n := 160) dX7_film_109 (ltL hn (Nat.le_of_ble_eq_true rfl)) (fun _ => rfl) (q := 110) rfl ?_
        refine e_nmM (fun J15 => ?_)
        refine e_iinc C (v := x4 + (1 : Int32)) (lv1 := [(4, .int (x4 + (1 : Int32))), (0, .ref (oA ω 56)), (1, .int a1), (2, .int a2), (3, .int a3)]) dX7_film_110 0 rfl (Nat.le_of_ble_eq_true rfl) (by rw [ic_1]) rfl (q := 113) rfl ?_
        refine e_goto C (tgt := 57) dX7_film_113 rfl ?_
        exact ih (x4 + (1 : Int32)) _
set_option maxHeartbeats 4000000 in
set_option maxRecDepth 100000 in
theorem x_X7_film {l : Launch} {ω : Om} {a1 : Int32} {a2 : Int32} {a3 : Int32} (hn : 75 ≤ oN ω)  {I : Mem} : CTi l ω yX7_film cX7_film 5 (some .int) 8 [.ref (oA ω 56), .int a1, .int a2, .int a3] (f_X7_film a1 a2 a3 I) I := by
  refine ct_i (by decide) (Nat.le_of_ble_eq_true rfl) ?_
  intro κ hlau hret C
  refine e_lv [0, 1, 2, 3] (lv1 := [(0, .ref (oA ω 56)), (1, .int a1), (2, .int a2), (3, .int a3)]) rfl ?_
  unfold f_X7_film
  refine e_iload_n C dX7_film_0 rfl 1 rfl (q := 1) rfl ?_
  refine e_iconst C dX7_film_1 ic_0 (q := 2) rfl ?_
  refine e_iconst C dX7_film_2 ic_3 (q := 3) rfl ?_
  refine e_callSi C (l := l) (av := [.int a1, .int (0 : Int32), .int (3 : Int32)]) (st := []) hlau (x_X7_in (l := l) (ω := ω) (a0 := a1) (a1 := (0 : Int32)) (a2 := (3 : Int32)) hn (I := I)) dX7_film_3 w_723 w_724 w_67 w_725 md_X7_in (by decide) (by decide) rfl (Nat.le_of_ble_eq_true rfl) (q := 6) rfl (fun v2 J1 => ?_)
  refine e_ifne C (tgt := 12) (q := 9) dX7_film_6 rfl rfl ?_ ?_
  · refine e_aload_n C dX7_film_12 rfl 0 rfl (q := 13) rfl ?_
    refine e_iload_n C dX7_film_13 rfl 2 rfl (q := 14) rfl ?_
    refine e_callVi C (l := l) (k := 56) (av := [.int a2]) (st := []) hlau (x_X7_isOne (l := l) (ω := ω) (a1 := a2) hn (I := J1)) dX7_film_14 w_890 w_892 w_32 w_67 w_893 md_X7_isOne (by decide) (by decide) rfl (ltL hn (Nat.le_of_ble_eq_true rfl)) rfl rfl (Nat.le_of_ble_eq_true rfl) (q := 17) rfl (fun v4 J3 => ?_)
    refine e_ifne C (tgt := 23) (q := 20) dX7_film_17 rfl rfl ?_ ?_
    · refine e_iload_n C dX7_film_23 rfl 3 rfl (q := 24) rfl ?_
      refine e_iconst C dX7_film_24 ic_0 (q := 25) rfl ?_
      refine e_bipush C dX7_film_25 b8_20 (q := 27) rfl ?_
      refine e_callSi C (l := l) (av := [.int a3, .int (0 : Int32), .int (20 : Int32)]) (st := []) hlau (x_X7_in (l := l) (ω := ω) (a0 := a3) (a1 := (0 : Int32)) (a2 := (20 : Int32)) hn (I := J3)) dX7_film_27 w_723 w_724 w_67 w_725 md_X7_in (by decide) (by decide) rfl (Nat.le_of_ble_eq_true rfl) (q := 30) rfl (fun v6 J5 => ?_)
      refine e_ifne C (tgt := 36) (q := 33) dX7_film_30 rfl rfl ?_ ?_
      · refine e_aload_n C dX7_film_36 rfl 0 rfl (q := 37) rfl ?_
        refine e_getf C (k := 56) (j := 15) (T := TX7) (N := 32) (v := .ref (oA ω 66)) dX7_film_37 (ltL hn (Nat.le_of_ble_eq_true rfl)) rfl rfl (by decide) in_X7 w_777 rfl (q := 40) rfl ?_
        refine e_iload_n C dX7_film_40 rfl 1 rfl (q := 41) rfl ?_
        refine e_iconst C dX7_film_41 ic_0 (q := 42) rfl ?_
        refine e_iast C (k := 66) (n := 4) dX7_film_42 (ltL hn (Nat.le_of_ble_eq_true rfl)) (fun _ => rfl) (q := 43) rfl ?_
        refine e_nmM (fun J7 => ?_)
        refine e_aload_n C dX7_film_43 rfl 0 rfl (q := 44) rfl ?_
        refine e_getf C (k := 56) (j := 16) (T := TX7) (N := 32) (v := .ref (oA ω 67)) dX7_film_44 (ltL hn (Nat.le_of_ble_eq_true rfl)) rfl rfl (by decide) in_X7 w_778 rfl (q := 47) rfl ?_
        refine e_iload_n C dX7_film_47 rfl 1 rfl (q := 48) rfl ?_
        refine e_iload_n C dX7_film_48 rfl 3 rfl (q := 49) rfl ?_
        refine e_iast C (k := 67) (n := 4) dX7_film_49 (ltL hn (Nat.le_of_ble_eq_true rfl)) (fun _ => rfl) (q := 50) rfl ?_
        refine e_nmM (fun J8 => ?_)
        refine e_aload_n C dX7_film_50 rfl 0 rfl (q := 51) rfl ?_
        refine e_callVv C (l := l) (k := 56) (av := []) (st := []) hlau (x_X7_keeps (l := l) (ω := ω) hn (I := J8)) dX7_film_51 w_976 w_978 w_45 w_67 w_979 md_X7_keeps (by decide) (by decide) rfl (ltL hn (Nat.le_of_ble_eq_true rfl)) rfl rfl (Nat.le_of_ble_eq_true rfl) (q := 54) rfl (fun _ J9 => ?_)
        refine e_iconst C dX7_film_54 ic_0 (q := 55) rfl ?_
        refine e_istore C (lv1 := [(4, .int (0 : Int32)), (0, .ref (oA ω 56)), (1, .int a1), (2, .int a2), (3, .int a3)]) dX7_film_55 (Nat.le_of_ble_eq_true rfl) rfl (q := 57) rfl ?_
        exact xb_X7_film_b57 C hlau hret hn FU (0 : Int32) _
      · refine e_bipush C dX7_film_33 b8_m7 (q := 35) rfl ?_
        exact e_ireturn C dX7_film_35 hret rfl
    · refine e_bipush C dX7_film_20 b8_m5 (q := 22) rfl ?_
      exact e_ireturn C dX7_film_22 hret rfl
  · refine e_bipush C dX7_film_9 b8_m2 (q := 11) rfl ?_
    exact e_ireturn C dX7_film_11 hret rfl
set_option maxHeartbeats 4000000 in
set_option maxRecDepth 100000 in
theorem xb_X7_lotRing_b12 {l : Launch} {κ : Kx} {ω : Om} {a1 : Int32} (C : CX κ ω cX7_lotRing 5 9 yX7_lotRing.cls) (hlau : κ.2.1 = l) (hret : κ.2.2.2.2.2.2.2.2.1.sig.returnType = (some .int)) (hn : 75 ≤ oN ω)  : ∀ (n : Nat) (x4 : Int32) (x2 : Int64) (I : Mem), EE κ ω 5 (Gi κ ω) (f_X7_lotRing_b12 a1 n x4 x2 I) I 12 [(4, .int x4), (2, .long x2), (0, .ref (oA ω 56))] [] := by
  intro n
  induction n with
  | zero => intro x4 x2 I; exact e_none
  | succ n ih =>
    intro x4 x2 I
    rw [f_X7_lotRing_b12]
    refine e_iload C dX7_lotRing_12 0 rfl (q := 14) rfl ?_
    refine e_aload_n C dX7_lotRing_14 rfl 2 rfl (q := 15) rfl ?_
    refine e_getf C (k := 56) (j := 0) (T := TX7) (N := 32) (v := .int (I 56 0)) dX7_lotRing_15 (ltL hn (Nat.le_of_ble_eq_true rfl)) rfl rfl (by decide) in_X7 w_762 rfl (q := 18) rfl ?_
    refine e_icmpge C (tgt := 52) (q := 21) dX7_lotRing_18 rfl rfl ?_ ?_
    · refine e_aload_n C dX7_lotRing_52 rfl 2 rfl (q := 53) rfl ?_
      refine e_bipush C dX7_lotRing_53 b8_20 (q := 55) rfl ?_
      refine e_callVv C (l := l) (k := 56) (av := [.int (20 : Int32)]) (st := []) hlau (x_X7_passes (l := l) (ω := ω) (a1 := (20 : Int32)) hn (I := I)) dX7_lotRing_55 w_980 w_982 w_46 w_67 w_983 md_X7_passes (by decide) (by decide) rfl (ltL hn (Nat.le_of_ble_eq_true rfl)) rfl rfl (Nat.le_of_ble_eq_true rfl) (q := 58) rfl (fun _ J3 => ?_)
      refine e_aload_n C dX7_lotRing_58 rfl 2 rfl (q := 59) rfl ?_
      refine e_callVi C (l := l) (k := 56) (av := []) (st := []) hlau (x_X7_upSet (l := l) (ω := ω) hn (I := J3)) dX7_lotRing_59 w_863 w_865 w_30 w_67 w_866 md_X7_upSet (by decide) (by decide) rfl (ltL hn (Nat.le_of_ble_eq_true rfl)) rfl rfl (Nat.le_of_ble_eq_true rfl) (q := 62) rfl (fun v5 J4 => ?_)
      refine e_istore C (lv1 := [(4, .int v5), (2, .long x2), (0, .ref (oA ω 56))]) dX7_lotRing_62 (Nat.le_of_ble_eq_true rfl) rfl (q := 64) rfl ?_
      refine e_aload_n C dX7_lotRing_64 rfl 2 rfl (q := 65) rfl ?_
      refine e_aload_n C dX7_lotRing_65 rfl 2 rfl (q := 66) rfl ?_
      refine e_callVi C (l := l) (k := 56) (av := []) (st := [.ref (oA ω 56)]) hlau (x_X7_talliesAll (l := l) (ω := ω) hn (I := J4)) dX7_lotRing_66 w_984 w_986 w_47 w_67 w_987 md_X7_talliesAll (by decide) (by decide) rfl (ltL hn (Nat.le_of_ble_eq_true rfl)) rfl rfl (Nat.le_of_ble_eq_true rfl) (q := 69) rfl (fun v7 J6 => ?_)
      refine e_putf C (k := 56) (j := 31) (T := TX7) (N := 32) dX7_lotRing_69 (ltL hn (Nat.le_of_ble_eq_true rfl)) rfl rfl (by decide) in_X7 w_793 tyX7_ok nmX7 rfl rfl rfl (show 31 < 32 by decide) (set_Mo_31_ _) (q := 72) rfl ?_
      refine e_nmM (fun J8 => ?_)
      refine e_aload_n C dX7_lotRing_72 rfl 2 rfl (q := 73) rfl ?_
      refine e_callVv C (l := l) (k := 56) (av := []) (st := []) hlau (x_X7_lays (l := l) (ω := ω) hn (I := J8)) dX7_lotRing_73 w_988 w_990 w_48 w_67 w_991 md_X7_lays (by decide) (by decide) rfl (ltL hn (Nat.le_of_ble_eq_true rfl)) rfl rfl (Nat.le_of_ble_eq_true rfl) (q := 76) rfl (fun _ J9 => ?_)
      refine e_iload C dX7_lotRing_76 0 rfl (q := 78) rfl ?_
      exact e_ireturn C dX7_lotRing_78 hret rfl
    · refine e_lload_n C dX7_lotRing_21 rfl 1 rfl (q := 22) rfl ?_
      refine e_ldc2 C dX7_lotRing_22 w_1081 (q := 25) rfl ?_
      refine e_lmul C dX7_lotRing_25 (q := 26) rfl ?_
      refine e_ldc2 C dX7_lotRing_26 w_1082 (q := 29) rfl ?_
      refine e_lrem C dX7_lotRing_29 (by decide) (q := 30) rfl ?_
      refine e_nml (fun v10 => ?_)
      refine e_lstore_n C (lv1 := [(2, .long v10), (4, .int x4), (0, .ref (oA ω 56))]) dX7_lotRing_30 rfl (Nat.le_of_ble_eq_true rfl) rfl (q := 31) rfl ?_
      refine e_aload_n C dX7_lotRing_31 rfl 2 rfl (q := 32) rfl ?_
      refine e_getf C (k := 56) (j := 3) (T := TX7) (N := 32) (v := .ref (oA ω 59)) dX7_lotRing_32 (ltL hn (Nat.le_of_ble_eq_true rfl)) rfl rfl (by decide) in_X7 w_765 rfl (q := 35) rfl ?_
      refine e_iconst C dX7_lotRing_35 ic_4 (q := 36) rfl ?_
      refine e_iload C dX7_lotRing_36 1 rfl (q := 38) rfl ?_
      refine e_imul C dX7_lotRing_38 (q := 39) rfl ?_
      refine e_lload_n C dX7_lotRing_39 rfl 0 rfl (q := 40) rfl ?_
      refine e_ldc2 C dX7_lotRing_40 w_1083 (q := 43) rfl ?_
      refine e_lrem C dX7_lotRing_43 (by decide) (q := 44) rfl ?_
      refine e_l2i C dX7_lotRing_44 (q := 45) rfl ?_
      refine e_iast C (k := 59) (n := 24) dX7_lotRing_45 (ltL hn (Nat.le_of_ble_eq_true rfl)) (fun _ => rfl) (q := 46) rfl ?_
      refine e_nmM (fun J11 => ?_)
      refine e_iinc C (v := x4 + (1 : Int32)) (lv1 := [(4, .int (x4 + (1 : Int32))), (2, .long v10), (0, .ref (oA ω 56))]) dX7_lotRing_46 1 rfl (Nat.le_of_ble_eq_true rfl) (by rw [ic_1]) rfl (q := 49) rfl ?_
      refine e_goto C (tgt := 12) dX7_lotRing_49 rfl ?_
      exact ih (x4 + (1 : Int32)) v10 _
set_option maxHeartbeats 4000000 in
set_option maxRecDepth 100000 in
theorem x_X7_lotRing {l : Launch} {ω : Om} {a1 : Int32} (hn : 75 ≤ oN ω)  {I : Mem} : CTi l ω yX7_lotRing cX7_lotRing 5 (some .int) 9 [.ref (oA ω 56), .int a1] (f_X7_lotRing a1 I) I := by
  refine ct_i (by decide) (Nat.le_of_ble_eq_true rfl) ?_
  intro κ hlau hret C
  refine e_lv [0, 1] (lv1 := [(0, .ref (oA ω 56)), (1, .int a1)]) rfl ?_
  unfold f_X7_lotRing
  refine e_iload_n C dX7_lotRing_0 rfl 1 rfl (q := 1) rfl ?_
  refine e_i2l C dX7_lotRing_1 (q := 2) rfl ?_
  refine e_lconst C (v := (1 : Int64)) dX7_lotRing_2 (by decide) (q := 3) rfl ?_
  refine e_ladd C dX7_lotRing_3 (q := 4) rfl ?_
  refine e_nml (fun v1 => ?_)
  refine e_lstore_n C (lv1 := [(2, .long v1), (0, .ref (oA ω 56)), (1, .int a1)]) dX7_lotRing_4 rfl (Nat.le_of_ble_eq_true rfl) rfl (q := 5) rfl ?_
  refine e_aload_n C dX7_lotRing_5 rfl 1 rfl (q := 6) rfl ?_
  refine e_callVv C (l := l) (k := 56) (av := []) (st := []) hlau (x_X7_keeps (l := l) (ω := ω) hn (I := I)) dX7_lotRing_6 w_976 w_978 w_45 w_67 w_979 md_X7_keeps (by decide) (by decide) rfl (ltL hn (Nat.le_of_ble_eq_true rfl)) rfl rfl (Nat.le_of_ble_eq_true rfl) (q := 9) rfl (fun _ J2 => ?_)
  refine e_iconst C dX7_lotRing_9 ic_0 (q := 10) rfl ?_
  refine e_istore C (lv1 := [(4, .int (0 : Int32)), (2, .long v1), (0, .ref (oA ω 56)), (1, .int a1)]) dX7_lotRing_10 (Nat.le_of_ble_eq_true rfl) rfl (q := 12) rfl ?_
  exact e_lv [0, 1, 2] (lv1 := [(4, .int (0 : Int32)), (2, .long v1), (0, .ref (oA ω 56))]) rfl (xb_X7_lotRing_b12 C hlau hret hn FU (0 : Int32) v1 _)
set_option maxHeartbeats 4000000 in
set_option maxRecDepth 100000 in
theorem x_X7_drawn {l : Launch} {ω : Om} {a1 : Int32} {a2 : Int32} (hn : 75 ≤ oN ω)  {I : Mem} : CTi l ω yX7_drawn cX7_drawn 4 (some .int) 10 [.ref (oA ω 56), .int a1, .int a2] (f_X7_drawn a1 a2 I) I := by
  refine ct_i (by decide) (Nat.le_of_ble_eq_true rfl) ?_
  intro κ hlau hret C
  refine e_lv [0, 1, 2] (lv1 := [(0, .ref (oA ω 56)), (1, .int a1), (2, .int a2)]) rfl ?_
  unfold f_X7_drawn
  refine e_iload_n C dX7_drawn_0 rfl 1 rfl (q := 1) rfl ?_
  refine e_iconst C dX7_drawn_1 ic_0 (q := 2) rfl ?_
  refine e_ldc C dX7_drawn_2 w_1076 (q := 4) rfl ?_
  refine e_callSi C (l := l) (av := [.int a1, .int (0 : Int32), .int (99999 : Int32)]) (st := []) hlau (x_X7_in (l := l) (ω := ω) (a0 := a1) (a1 := (0 : Int32)) (a2 := (99999 : Int32)) hn (I := I)) dX7_drawn_4 w_723 w_724 w_67 w_725 md_X7_in (by decide) (by decide) rfl (Nat.le_of_ble_eq_true rfl) (q := 7) rfl (fun v2 J1 => ?_)
  refine e_ifeq C (tgt := 19) (q := 10) dX7_drawn_7 rfl rfl ?_ ?_
  · refine e_bipush C dX7_drawn_19 b8_m2 (q := 21) rfl ?_
    exact e_ireturn C dX7_drawn_21 hret rfl
  · refine e_iload_n C dX7_drawn_10 rfl 2 rfl (q := 11) rfl ?_
    refine e_iconst C dX7_drawn_11 ic_0 (q := 12) rfl ?_
    refine e_iconst C dX7_drawn_12 ic_1 (q := 13) rfl ?_
    refine e_callSi C (l := l) (av := [.int a2, .int (0 : Int32), .int (1 : Int32)]) (st := []) hlau (x_X7_in (l := l) (ω := ω) (a0 := a2) (a1 := (0 : Int32)) (a2 := (1 : Int32)) hn (I := J1)) dX7_drawn_13 w_723 w_724 w_67 w_725 md_X7_in (by decide) (by decide) rfl (Nat.le_of_ble_eq_true rfl) (q := 16) rfl (fun v4 J3 => ?_)
    refine e_ifne C (tgt := 22) (q := 19) dX7_drawn_16 rfl rfl ?_ ?_
    · refine e_aload_n C dX7_drawn_22 rfl 0 rfl (q := 23) rfl ?_
      refine e_iload_n C dX7_drawn_23 rfl 1 rfl (q := 24) rfl ?_
      refine e_callVi C (l := l) (k := 56) (av := [.int a1]) (st := []) hlau (x_X7_lotRing (l := l) (ω := ω) (a1 := a1) hn (I := J3)) dX7_drawn_24 w_1077 w_1079 w_54 w_67 w_1080 md_X7_lotRing (by decide) (by decide) rfl (ltL hn (Nat.le_of_ble_eq_true rfl)) rfl rfl (Nat.le_of_ble_eq_true rfl) (q := 27) rfl (fun v6 J5 => ?_)
      refine e_istore_n C (lv1 := [(3, .int v6), (0, .ref (oA ω 56)), (1, .int a1), (2, .int a2)]) dX7_drawn_27 rfl (Nat.le_of_ble_eq_true rfl) rfl (q := 28) rfl ?_
      refine e_iload_n C dX7_drawn_28 rfl 3 rfl (q := 29) rfl ?_
      refine e_ifne C (tgt := 36) (q := 32) dX7_drawn_29 rfl rfl ?_ ?_
      · refine e_aload_n C dX7_drawn_36 rfl 1 rfl (q := 37) rfl ?_
        refine e_getf C (k := 56) (j := 31) (T := TX7) (N := 32) (v := .int (J5 56 31)) dX7_drawn_37 (ltL hn (Nat.le_of_ble_eq_true rfl)) rfl rfl (by decide) in_X7 w_793 rfl (q := 40) rfl ?_
        exact e_ireturn C dX7_drawn_40 hret rfl
      · refine e_iload_n C dX7_drawn_32 rfl 0 rfl (q := 33) rfl ?_
        refine e_goto C (tgt := 40) dX7_drawn_33 rfl ?_
        exact e_ireturn C dX7_drawn_40 hret rfl
    · refine e_bipush C dX7_drawn_19 b8_m2 (q := 21) rfl ?_
      exact e_ireturn C dX7_drawn_21 hret rfl
set_option maxHeartbeats 4000000 in
set_option maxRecDepth 100000 in
theorem xb_X7_odds_b77 {l : Launch} {κ : Kx} {ω : Om} {a1 : Int32} {a2 : Int32} {a3 : Int32} {a4 : Int32} (C : CX κ ω cX7_odds 8 10 yX7_odds.cls) (hlau : κ.2.1 = l) (hret : κ.2.2.2.2.2.2.2.2.1.sig.returnType = (some .long)) (hn : 75 ≤ oN ω)  {K48 : Int32 → Int64 → Mem → Option (Int64 × Mem)} (hK48 : ∀ (x7 : Int32) (x5 : Int64) (J : Mem), EE κ ω 8 (Gl κ ω) (K48 x7 x5 J) J 48 [(7, .int x7), (5, .long x5), (0, .ref (oA ω 56)), (1, .int a1), (2, .int a2), (3, .int a3), (4, .int a4)] []) : ∀ (x7 : Int32) (s0 : Int64) (s1 : Int64) (I : Mem), EE κ ω 8 (Gl κ ω) (f_X7_odds_b77 a1 a2 a3 a4 K48 x7 s0 s1 I) I 77 [(7, .int x7), (0, .ref (oA ω 56)), (1, .int a1), (2, .int a2), (3, .int a3), (4, .int a4)] [.long s0, .long s1] := by
  intro x7 s0 s1 I
  unfold f_X7_odds_b77
  refine e_ladd C dX7_odds_77 (q := 78) rfl ?_
  refine e_nml (fun v13 => ?_)
  refine e_lstore C (lv1 := [(5, .long v13), (7, .int x7), (0, .ref (oA ω 56)), (1, .int a1), (2, .int a2), (3, .int a3), (4, .int a4)]) dX7_odds_78 (Nat.le_of_ble_eq_true rfl) rfl (q := 80) rfl ?_
  refine e_iinc C (v := x7 + (1 : Int32)) (lv1 := [(7, .int (x7 + (1 : Int32))), (5, .long v13), (0, .ref (oA ω 56)), (1, .int a1), (2, .int a2), (3, .int a3), (4, .int a4)]) dX7_odds_80 1 rfl (Nat.le_of_ble_eq_true rfl) (by rw [ic_1]) rfl (q := 83) rfl ?_
  refine e_goto C (tgt := 48) dX7_odds_83 rfl ?_
  exact hK48 (x7 + (1 : Int32)) v13 _
set_option maxHeartbeats 4000000 in
set_option maxRecDepth 100000 in
theorem xb_X7_odds_b48 {l : Launch} {κ : Kx} {ω : Om} {a1 : Int32} {a2 : Int32} {a3 : Int32} {a4 : Int32} (C : CX κ ω cX7_odds 8 10 yX7_odds.cls) (hlau : κ.2.1 = l) (hret : κ.2.2.2.2.2.2.2.2.1.sig.returnType = (some .long)) (hn : 75 ≤ oN ω)  : ∀ (n : Nat) (x7 : Int32) (x5 : Int64) (I : Mem), EE κ ω 8 (Gl κ ω) (f_X7_odds_b48 a1 a2 a3 a4 n x7 x5 I) I 48 [(7, .int x7), (5, .long x5), (0, .ref (oA ω 56)), (1, .int a1), (2, .int a2), (3, .int a3), (4, .int a4)] [] := by
  intro n
  induction n with
  | zero => intro x7 x5 I; exact e_none
  | succ n ih =>
    intro x7 x5 I
    rw [f_X7_odds_b48]
    refine e_iload C dX7_odds_48 0 rfl (q := 50) rfl ?_
    refine e_iload_n C dX7_odds_50 rfl 4 rfl (q := 51) rfl ?_
    refine e_icmpge C (tgt := 86) (q := 54) dX7_odds_51 rfl rfl ?_ ?_
    · refine e_lload C dX7_odds_86 1 rfl (q := 88) rfl ?_
      refine e_iload_n C dX7_odds_88 rfl 4 rfl (q := 89) rfl ?_
      refine e_i2l C dX7_odds_89 (q := 90) rfl ?_
      refine e_iload C dX7_odds_90 6 rfl (q := 92) rfl ?_
      refine e_callSl C (l := l) (av := [.long x5, .long ((a2).toInt64), .int a4]) (st := []) hlau (x_X7_lowest (l := l) (ω := ω) (a0 := x5) (a2 := (a2).toInt64) (a4 := a4) hn (I := I)) dX7_odds_92 w_1028 w_1029 w_67 w_1030 md_X7_lowest (by decide) (by decide) rfl (Nat.le_of_ble_eq_true rfl) (q := 95) rfl (fun v10 J9 => ?_)
      exact e_lreturn C dX7_odds_95 hret
    · refine e_lload C dX7_odds_54 1 rfl (q := 56) rfl ?_
      refine e_aload_n C dX7_odds_56 rfl 2 rfl (q := 57) rfl ?_
      refine e_iload_n C dX7_odds_57 rfl 3 rfl (q := 58) rfl ?_
      refine e_iload C dX7_odds_58 0 rfl (q := 60) rfl ?_
      refine e_iadd C dX7_odds_60 (q := 61) rfl ?_
      refine e_callVi C (l := l) (k := 56) (av := [.int (a1 + x7)]) (st := [.long x5]) hlau (x_X7_lotRing (l := l) (ω := ω) (a1 := a1 + x7) hn (I := I)) dX7_odds_61 w_1077 w_1079 w_54 w_67 w_1080 md_X7_lotRing (by decide) (by decide) rfl (ltL hn (Nat.le_of_ble_eq_true rfl)) rfl rfl (Nat.le_of_ble_eq_true rfl) (q := 64) rfl (fun v12 J11 => ?_)
      refine e_iload_n C dX7_odds_64 rfl 5 rfl (q := 65) rfl ?_
      refine e_ishr C dX7_odds_65 (q := 66) rfl ?_
      refine e_iconst C dX7_odds_66 ic_1 (q := 67) rfl ?_
      refine e_iand C dX7_odds_67 (q := 68) rfl ?_
      refine e_iconst C dX7_odds_68 ic_1 (q := 69) rfl ?_
      refine e_icmpne C (tgt := 76) (q := 72) dX7_odds_69 rfl rfl ?_ ?_
      · refine e_lconst C (v := (0 : Int64)) dX7_odds_76 (by decide) (q := 77) rfl ?_
        exact e_lv [0, 2, 3, 4, 5, 6] (lv1 := [(7, .int x7), (0, .ref (oA ω 56)), (1, .int a1), (2, .int a2), (3, .int a3), (4, .int a4)]) rfl (xb_X7_odds_b77 C hlau hret hn ih x7 (0 : Int64) x5 _)
      · refine e_lconst C (v := (1 : Int64)) dX7_odds_72 (by decide) (q := 73) rfl ?_
        refine e_goto C (tgt := 77) dX7_odds_73 rfl ?_
        exact e_lv [0, 2, 3, 4, 5, 6] (lv1 := [(7, .int x7), (0, .ref (oA ω 56)), (1, .int a1), (2, .int a2), (3, .int a3), (4, .int a4)]) rfl (xb_X7_odds_b77 C hlau hret hn ih x7 (1 : Int64) x5 _)
set_option maxHeartbeats 4000000 in
set_option maxRecDepth 100000 in
theorem x_X7_odds {l : Launch} {ω : Om} {a1 : Int32} {a2 : Int32} {a3 : Int32} {a4 : Int32} (hn : 75 ≤ oN ω)  {I : Mem} : CTl l ω yX7_odds cX7_odds 8 (some .long) 10 [.ref (oA ω 56), .int a1, .int a2, .int a3, .int a4] (f_X7_odds a1 a2 a3 a4 I) I := by
  refine ct_l (by decide) (Nat.le_of_ble_eq_true rfl) ?_
  intro κ hlau hret C
  refine e_lv [0, 1, 2, 3, 4] (lv1 := [(0, .ref (oA ω 56)), (1, .int a1), (2, .int a2), (3, .int a3), (4, .int a4)]) rfl ?_
  unfold f_X7_odds
  refine e_iload_n C dX7_odds_0 rfl 1 rfl (q := 1) rfl ?_
  refine e_iconst C dX7_odds_1 ic_0 (q := 2) rfl ?_
  refine e_ldc C dX7_odds_2 w_1076 (q := 4) rfl ?_
  refine e_callSi C (l := l) (av := [.int a1, .int (0 : Int32), .int (99999 : Int32)]) (st := []) hlau (x_X7_in (l := l) (ω := ω) (a0 := a1) (a1 := (0 : Int32)) (a2 := (99999 : Int32)) hn (I := I)) dX7_odds_4 w_723 w_724 w_67 w_725 md_X7_in (by decide) (by decide) rfl (Nat.le_of_ble_eq_true rfl) (q := 7) rfl (fun v2 J1 => ?_)
  refine e_ifeq C (tgt := 38) (q := 10) dX7_odds_7 rfl rfl ?_ ?_
  · refine e_ldc2 C dX7_odds_38 w_1031 (q := 41) rfl ?_
    exact e_lreturn C dX7_odds_41 hret
  · refine e_iload_n C dX7_odds_10 rfl 2 rfl (q := 11) rfl ?_
    refine e_iconst C dX7_odds_11 ic_1 (q := 12) rfl ?_
    refine e_bipush C dX7_odds_12 b8_40 (q := 14) rfl ?_
    refine e_callSi C (l := l) (av := [.int a2, .int (1 : Int32), .int (40 : Int32)]) (st := []) hlau (x_X7_in (l := l) (ω := ω) (a0 := a2) (a1 := (1 : Int32)) (a2 := (40 : Int32)) hn (I := J1)) dX7_odds_14 w_723 w_724 w_67 w_725 md_X7_in (by decide) (by decide) rfl (Nat.le_of_ble_eq_true rfl) (q := 17) rfl (fun v4 J3 => ?_)
    refine e_ifeq C (tgt := 38) (q := 20) dX7_odds_17 rfl rfl ?_ ?_
    · refine e_ldc2 C dX7_odds_38 w_1031 (q := 41) rfl ?_
      exact e_lreturn C dX7_odds_41 hret
    · refine e_aload_n C dX7_odds_20 rfl 0 rfl (q := 21) rfl ?_
      refine e_iload_n C dX7_odds_21 rfl 3 rfl (q := 22) rfl ?_
      refine e_callVi C (l := l) (k := 56) (av := [.int a3]) (st := []) hlau (x_X7_isOne (l := l) (ω := ω) (a1 := a3) hn (I := J3)) dX7_odds_22 w_890 w_892 w_32 w_67 w_893 md_X7_isOne (by decide) (by decide) rfl (ltL hn (Nat.le_of_ble_eq_true rfl)) rfl rfl (Nat.le_of_ble_eq_true rfl) (q := 25) rfl (fun v6 J5 => ?_)
      refine e_ifeq C (tgt := 38) (q := 28) dX7_odds_25 rfl rfl ?_ ?_
      · refine e_ldc2 C dX7_odds_38 w_1031 (q := 41) rfl ?_
        exact e_lreturn C dX7_odds_41 hret
      · refine e_iload C dX7_odds_28 4 rfl (q := 30) rfl ?_
        refine e_iconst C dX7_odds_30 ic_0 (q := 31) rfl ?_
        refine e_iconst C dX7_odds_31 ic_1 (q := 32) rfl ?_
        refine e_callSi C (l := l) (av := [.int a4, .int (0 : Int32), .int (1 : Int32)]) (st := []) hlau (x_X7_in (l := l) (ω := ω) (a0 := a4) (a1 := (0 : Int32)) (a2 := (1 : Int32)) hn (I := J5)) dX7_odds_32 w_723 w_724 w_67 w_725 md_X7_in (by decide) (by decide) rfl (Nat.le_of_ble_eq_true rfl) (q := 35) rfl (fun v8 J7 => ?_)
        refine e_ifne C (tgt := 42) (q := 38) dX7_odds_35 rfl rfl ?_ ?_
        · refine e_lconst C (v := (0 : Int64)) dX7_odds_42 (by decide) (q := 43) rfl ?_
          refine e_lstore C (lv1 := [(5, .long (0 : Int64)), (0, .ref (oA ω 56)), (1, .int a1), (2, .int a2), (3, .int a3), (4, .int a4)]) dX7_odds_43 (Nat.le_of_ble_eq_true rfl) rfl (q := 45) rfl ?_
          refine e_iconst C dX7_odds_45 ic_0 (q := 46) rfl ?_
          refine e_istore C (lv1 := [(7, .int (0 : Int32)), (5, .long (0 : Int64)), (0, .ref (oA ω 56)), (1, .int a1), (2, .int a2), (3, .int a3), (4, .int a4)]) dX7_odds_46 (Nat.le_of_ble_eq_true rfl) rfl (q := 48) rfl ?_
          exact xb_X7_odds_b48 C hlau hret hn FU (0 : Int32) (0 : Int64) _
        · refine e_ldc2 C dX7_odds_38 w_1031 (q := 41) rfl ?_
          exact e_lreturn C dX7_odds_41 hret
set_option maxHeartbeats 4000000 in
set_option maxRecDepth 100000 in
theorem xb_X7_image_b33 {l : Launch} {κ : Kx} {ω : Om}  (C : CX κ ω cX7_image 2 1 yX7_image.cls) (hlau : κ.2.1 = l) (hret : κ.2.2.2.2.2.2.2.2.1.sig.returnType = (some .int)) (hn : 75 ≤ oN ω)  : ∀ (n : Nat) (x1 : Int32) (I : Mem), EE κ ω 2 (Gi κ ω) (f_X7_image_b33 n x1 I) I 33 [(1, .int x1), (0, .ref (oA ω 56))] [] := by
  intro n
  induction n with
  | zero => intro x1 I; exact e_none
  | succ n ih =>
    intro x1 I
    rw [f_X7_image_b33]
    refine e_iload_n C dX7_image_33 rfl 0 rfl (q := 34) rfl ?_
    refine e_bipush C dX7_image_34 b8_36 (q := 36) rfl ?_
    refine e_icmpge C (tgt := 60) (q := 39) dX7_image_36 rfl rfl ?_ ?_
    · refine e_aload_n C dX7_image_60 rfl 1 rfl (q := 61) rfl ?_
      refine e_getf C (k := 56) (j := 14) (T := TX7) (N := 32) (v := .ref (oA ω 65)) dX7_image_61 (ltL hn (Nat.le_of_ble_eq_true rfl)) rfl rfl (by decide) in_X7 w_776 rfl (q := 64) rfl ?_
      refine e_iconst C dX7_image_64 ic_0 (q := 65) rfl ?_
      refine e_aload_n C dX7_image_65 rfl 1 rfl (q := 66) rfl ?_
      refine e_getf C (k := 56) (j := 0) (T := TX7) (N := 32) (v := .int (I 56 0)) dX7_image_66 (ltL hn (Nat.le_of_ble_eq_true rfl)) rfl rfl (by decide) in_X7 w_762 rfl (q := 69) rfl ?_
      refine e_iast C (k := 65) (n := 3) dX7_image_69 (ltL hn (Nat.le_of_ble_eq_true rfl)) (fun _ => rfl) (q := 70) rfl ?_
      refine e_nmM (fun J2 => ?_)
      refine e_aload_n C dX7_image_70 rfl 1 rfl (q := 71) rfl ?_
      refine e_getf C (k := 56) (j := 14) (T := TX7) (N := 32) (v := .ref (oA ω 65)) dX7_image_71 (ltL hn (Nat.le_of_ble_eq_true rfl)) rfl rfl (by decide) in_X7 w_776 rfl (q := 74) rfl ?_
      refine e_iconst C dX7_image_74 ic_1 (q := 75) rfl ?_
      refine e_aload_n C dX7_image_75 rfl 1 rfl (q := 76) rfl ?_
      refine e_getf C (k := 56) (j := 5) (T := TX7) (N := 32) (v := .int (J2 56 5)) dX7_image_76 (ltL hn (Nat.le_of_ble_eq_true rfl)) rfl rfl (by decide) in_X7 w_767 rfl (q := 79) rfl ?_
      refine e_iast C (k := 65) (n := 3) dX7_image_79 (ltL hn (Nat.le_of_ble_eq_true rfl)) (fun _ => rfl) (q := 80) rfl ?_
      refine e_nmM (fun J3 => ?_)
      refine e_aload_n C dX7_image_80 rfl 1 rfl (q := 81) rfl ?_
      refine e_getf C (k := 56) (j := 14) (T := TX7) (N := 32) (v := .ref (oA ω 65)) dX7_image_81 (ltL hn (Nat.le_of_ble_eq_true rfl)) rfl rfl (by decide) in_X7 w_776 rfl (q := 84) rfl ?_
      refine e_iconst C dX7_image_84 ic_2 (q := 85) rfl ?_
      refine e_aload_n C dX7_image_85 rfl 1 rfl (q := 86) rfl ?_
      refine e_getf C (k := 56) (j := 11) (T := TX7) (N := 32) (v := .int (J3 56 11)) dX7_image_86 (ltL hn (Nat.le_of_ble_eq_true rfl)) rfl rfl (by decide) in_X7 w_773 rfl (q := 89) rfl ?_
      refine e_iast C (k := 65) (n := 3) dX7_image_89 (ltL hn (Nat.le_of_ble_eq_true rfl)) (fun _ => rfl) (q := 90) rfl ?_
      refine e_nmM (fun J4 => ?_)
      refine e_aload_n C dX7_image_90 rfl 1 rfl (q := 91) rfl ?_
      refine e_getf C (k := 56) (j := 0) (T := TX7) (N := 32) (v := .int (J4 56 0)) dX7_image_91 (ltL hn (Nat.le_of_ble_eq_true rfl)) rfl rfl (by decide) in_X7 w_762 rfl (q := 94) rfl ?_
      exact e_ireturn C dX7_image_94 hret rfl
    · refine e_aload_n C dX7_image_39 rfl 1 rfl (q := 40) rfl ?_
      refine e_getf C (k := 56) (j := 13) (T := TX7) (N := 32) (v := .ref (oA ω 64)) dX7_image_40 (ltL hn (Nat.le_of_ble_eq_true rfl)) rfl rfl (by decide) in_X7 w_775 rfl (q := 43) rfl ?_
      refine e_bipush C dX7_image_43 b8_24 (q := 45) rfl ?_
      refine e_iload_n C dX7_image_45 rfl 0 rfl (q := 46) rfl ?_
      refine e_iadd C dX7_image_46 (q := 47) rfl ?_
      refine e_aload_n C dX7_image_47 rfl 1 rfl (q := 48) rfl ?_
      refine e_getf C (k := 56) (j := 4) (T := TX7) (N := 32) (v := .ref (oA ω 60)) dX7_image_48 (ltL hn (Nat.le_of_ble_eq_true rfl)) rfl rfl (by decide) in_X7 w_766 rfl (q := 51) rfl ?_
      refine e_iload_n C dX7_image_51 rfl 0 rfl (q := 52) rfl ?_
      refine e_iald C (k := 60) (n := 36) dX7_image_52 (ltL hn (Nat.le_of_ble_eq_true rfl)) rfl (q := 53) rfl ?_
      refine e_iast C (k := 64) (n := 60) dX7_image_53 (ltL hn (Nat.le_of_ble_eq_true rfl)) (fun _ => rfl) (q := 54) rfl ?_
      refine e_nmM (fun J5 => ?_)
      refine e_iinc C (v := x1 + (1 : Int32)) (lv1 := [(1, .int (x1 + (1 : Int32))), (0, .ref (oA ω 56))]) dX7_image_54 0 rfl (Nat.le_of_ble_eq_true rfl) (by rw [ic_1]) rfl (q := 57) rfl ?_
      refine e_goto C (tgt := 33) dX7_image_57 rfl ?_
      exact ih (x1 + (1 : Int32)) _
set_option maxHeartbeats 4000000 in
set_option maxRecDepth 100000 in
theorem xb_X7_image_b7 {l : Launch} {κ : Kx} {ω : Om}  (C : CX κ ω cX7_image 2 1 yX7_image.cls) (hlau : κ.2.1 = l) (hret : κ.2.2.2.2.2.2.2.2.1.sig.returnType = (some .int)) (hn : 75 ≤ oN ω)  : ∀ (n : Nat) (x1 : Int32) (I : Mem), EE κ ω 2 (Gi κ ω) (f_X7_image_b7 n x1 I) I 7 [(1, .int x1), (0, .ref (oA ω 56))] [] := by
  intro n
  induction n with
  | zero => intro x1 I; exact e_none
  | succ n ih =>
    intro x1 I
    rw [f_X7_image_b7]
    refine e_iload_n C dX7_image_7 rfl 0 rfl (q := 8) rfl ?_
    refine e_bipush C dX7_image_8 b8_24 (q := 10) rfl ?_
    refine e_icmpge C (tgt := 31) (q := 13) dX7_image_10 rfl rfl ?_ ?_
    · refine e_iconst C dX7_image_31 ic_0 (q := 32) rfl ?_
      refine e_istore_n C (lv1 := [(1, .int (0 : Int32)), (0, .ref (oA ω 56))]) dX7_image_32 rfl (Nat.le_of_ble_eq_true rfl) rfl (q := 33) rfl ?_
      exact xb_X7_image_b33 C hlau hret hn FU (0 : Int32) _
    · refine e_aload_n C dX7_image_13 rfl 1 rfl (q := 14) rfl ?_
      refine e_getf C (k := 56) (j := 13) (T := TX7) (N := 32) (v := .ref (oA ω 64)) dX7_image_14 (ltL hn (Nat.le_of_ble_eq_true rfl)) rfl rfl (by decide) in_X7 w_775 rfl (q := 17) rfl ?_
      refine e_iload_n C dX7_image_17 rfl 0 rfl (q := 18) rfl ?_
      refine e_aload_n C dX7_image_18 rfl 1 rfl (q := 19) rfl ?_
      refine e_getf C (k := 56) (j := 3) (T := TX7) (N := 32) (v := .ref (oA ω 59)) dX7_image_19 (ltL hn (Nat.le_of_ble_eq_true rfl)) rfl rfl (by decide) in_X7 w_765 rfl (q := 22) rfl ?_
      refine e_iload_n C dX7_image_22 rfl 0 rfl (q := 23) rfl ?_
      refine e_iald C (k := 59) (n := 24) dX7_image_23 (ltL hn (Nat.le_of_ble_eq_true rfl)) rfl (q := 24) rfl ?_
      refine e_iast C (k := 64) (n := 60) dX7_image_24 (ltL hn (Nat.le_of_ble_eq_true rfl)) (fun _ => rfl) (q := 25) rfl ?_
      refine e_nmM (fun J6 => ?_)
      refine e_iinc C (v := x1 + (1 : Int32)) (lv1 := [(1, .int (x1 + (1 : Int32))), (0, .ref (oA ω 56))]) dX7_image_25 0 rfl (Nat.le_of_ble_eq_true rfl) (by rw [ic_1]) rfl (q := 28) rfl ?_
      refine e_goto C (tgt := 7) dX7_image_28 rfl ?_
      exact ih (x1 + (1 : Int32)) _
set_option maxHeartbeats 4000000 in
set_option maxRecDepth 100000 in
theorem x_X7_image {l : Launch} {ω : Om}  (hn : 75 ≤ oN ω)  {I : Mem} : CTi l ω yX7_image cX7_image 2 (some .int) 1 [.ref (oA ω 56)] (f_X7_image  I) I := by
  refine ct_i (by decide) (Nat.le_of_ble_eq_true rfl) ?_
  intro κ hlau hret C
  refine e_lv [0] (lv1 := [(0, .ref (oA ω 56))]) rfl ?_
  unfold f_X7_image
  refine e_aload_n C dX7_image_0 rfl 0 rfl (q := 1) rfl ?_
  refine e_iconst C dX7_image_1 ic_1 (q := 2) rfl ?_
  refine e_putf C (k := 56) (j := 12) (T := TX7) (N := 32) dX7_image_2 (ltL hn (Nat.le_of_ble_eq_true rfl)) rfl rfl (by decide) in_X7 w_774 tyX7_ok nmX7 rfl rfl rfl (show 12 < 32 by decide) (set_Mo_12_ _) (q := 5) rfl ?_
  refine e_nmM (fun J1 => ?_)
  refine e_iconst C dX7_image_5 ic_0 (q := 6) rfl ?_
  refine e_istore_n C (lv1 := [(1, .int (0 : Int32)), (0, .ref (oA ω 56))]) dX7_image_6 rfl (Nat.le_of_ble_eq_true rfl) rfl (q := 7) rfl ?_
  exact xb_X7_image_b7 C hlau hret hn FU (0 : Int32) _
set_option maxHeartbeats 4000000 in
set_option maxRecDepth 100000 in
theorem xb_X7_back_b38 {l : Launch} {κ : Kx} {ω : Om}  (C : CX κ ω cX7_back 2 1 yX7_back.cls) (hlau : κ.2.1 = l) (hret : κ.2.2.2.2.2.2.2.2.1.sig.returnType = (some .int)) (hn : 75 ≤ oN ω)  : ∀ (n : Nat) (x1 : Int32) (I : Mem), EE κ ω 2 (Gi κ ω) (f_X7_back_b38 n x1 I) I 38 [(1, .int x1), (0, .ref (oA ω 56))] [] := by
  intro n
  induction n with
  | zero => intro x1 I; exact e_none
  | succ n ih =>
    intro x1 I
    rw [f_X7_back_b38]
    refine e_iload_n C dX7_back_38 rfl 0 rfl (q := 39) rfl ?_
    refine e_bipush C dX7_back_39 b8_36 (q := 41) rfl ?_
    refine e_icmpge C (tgt := 65) (q := 44) dX7_back_41 rfl rfl ?_ ?_
    · refine e_aload_n C dX7_back_65 rfl 1 rfl (q := 66) rfl ?_
      refine e_aload_n C dX7_back_66 rfl 1 rfl (q := 67) rfl ?_
      refine e_getf C (k := 56) (j := 14) (T := TX7) (N := 32) (v := .ref (oA ω 65)) dX7_back_67 (ltL hn (Nat.le_of_ble_eq_true rfl)) rfl rfl (by decide) in_X7 w_776 rfl (q := 70) rfl ?_
      refine e_iconst C dX7_back_70 ic_0 (q := 71) rfl ?_
      refine e_iald C (k := 65) (n := 3) dX7_back_71 (ltL hn (Nat.le_of_ble_eq_true rfl)) rfl (q := 72) rfl ?_
      refine e_putf C (k := 56) (j := 0) (T := TX7) (N := 32) dX7_back_72 (ltL hn (Nat.le_of_ble_eq_true rfl)) rfl rfl (by decide) in_X7 w_762 tyX7_ok nmX7 rfl rfl rfl (show 0 < 32 by decide) (set_Mo_0_ _) (q := 75) rfl ?_
      refine e_nmM (fun J1 => ?_)
      refine e_aload_n C dX7_back_75 rfl 1 rfl (q := 76) rfl ?_
      refine e_aload_n C dX7_back_76 rfl 1 rfl (q := 77) rfl ?_
      refine e_getf C (k := 56) (j := 14) (T := TX7) (N := 32) (v := .ref (oA ω 65)) dX7_back_77 (ltL hn (Nat.le_of_ble_eq_true rfl)) rfl rfl (by decide) in_X7 w_776 rfl (q := 80) rfl ?_
      refine e_iconst C dX7_back_80 ic_1 (q := 81) rfl ?_
      refine e_iald C (k := 65) (n := 3) dX7_back_81 (ltL hn (Nat.le_of_ble_eq_true rfl)) rfl (q := 82) rfl ?_
      refine e_putf C (k := 56) (j := 5) (T := TX7) (N := 32) dX7_back_82 (ltL hn (Nat.le_of_ble_eq_true rfl)) rfl rfl (by decide) in_X7 w_767 tyX7_ok nmX7 rfl rfl rfl (show 5 < 32 by decide) (set_Mo_5_ _) (q := 85) rfl ?_
      refine e_nmM (fun J2 => ?_)
      refine e_aload_n C dX7_back_85 rfl 1 rfl (q := 86) rfl ?_
      refine e_aload_n C dX7_back_86 rfl 1 rfl (q := 87) rfl ?_
      refine e_getf C (k := 56) (j := 14) (T := TX7) (N := 32) (v := .ref (oA ω 65)) dX7_back_87 (ltL hn (Nat.le_of_ble_eq_true rfl)) rfl rfl (by decide) in_X7 w_776 rfl (q := 90) rfl ?_
      refine e_iconst C dX7_back_90 ic_2 (q := 91) rfl ?_
      refine e_iald C (k := 65) (n := 3) dX7_back_91 (ltL hn (Nat.le_of_ble_eq_true rfl)) rfl (q := 92) rfl ?_
      refine e_putf C (k := 56) (j := 11) (T := TX7) (N := 32) dX7_back_92 (ltL hn (Nat.le_of_ble_eq_true rfl)) rfl rfl (by decide) in_X7 w_773 tyX7_ok nmX7 rfl rfl rfl (show 11 < 32 by decide) (set_Mo_11_ _) (q := 95) rfl ?_
      refine e_nmM (fun J3 => ?_)
      refine e_aload_n C dX7_back_95 rfl 1 rfl (q := 96) rfl ?_
      refine e_getf C (k := 56) (j := 0) (T := TX7) (N := 32) (v := .int (J3 56 0)) dX7_back_96 (ltL hn (Nat.le_of_ble_eq_true rfl)) rfl rfl (by decide) in_X7 w_762 rfl (q := 99) rfl ?_
      exact e_ireturn C dX7_back_99 hret rfl
    · refine e_aload_n C dX7_back_44 rfl 1 rfl (q := 45) rfl ?_
      refine e_getf C (k := 56) (j := 4) (T := TX7) (N := 32) (v := .ref (oA ω 60)) dX7_back_45 (ltL hn (Nat.le_of_ble_eq_true rfl)) rfl rfl (by decide) in_X7 w_766 rfl (q := 48) rfl ?_
      refine e_iload_n C dX7_back_48 rfl 0 rfl (q := 49) rfl ?_
      refine e_aload_n C dX7_back_49 rfl 1 rfl (q := 50) rfl ?_
      refine e_getf C (k := 56) (j := 13) (T := TX7) (N := 32) (v := .ref (oA ω 64)) dX7_back_50 (ltL hn (Nat.le_of_ble_eq_true rfl)) rfl rfl (by decide) in_X7 w_775 rfl (q := 53) rfl ?_
      refine e_bipush C dX7_back_53 b8_24 (q := 55) rfl ?_
      refine e_iload_n C dX7_back_55 rfl 0 rfl (q := 56) rfl ?_
      refine e_iadd C dX7_back_56 (q := 57) rfl ?_
      refine e_iald C (k := 64) (n := 60) dX7_back_57 (ltL hn (Nat.le_of_ble_eq_true rfl)) rfl (q := 58) rfl ?_
      refine e_iast C (k := 60) (n := 36) dX7_back_58 (ltL hn (Nat.le_of_ble_eq_true rfl)) (fun _ => rfl) (q := 59) rfl ?_
      refine e_nmM (fun J4 => ?_)
      refine e_iinc C (v := x1 + (1 : Int32)) (lv1 := [(1, .int (x1 + (1 : Int32))), (0, .ref (oA ω 56))]) dX7_back_59 0 rfl (Nat.le_of_ble_eq_true rfl) (by rw [ic_1]) rfl (q := 62) rfl ?_
      refine e_goto C (tgt := 38) dX7_back_62 rfl ?_
      exact ih (x1 + (1 : Int32)) _
set_option maxHeartbeats 4000000 in
set_option maxRecDepth 100000 in
theorem xb_X7_back_b12 {l : Launch} {κ : Kx} {ω : Om}  (C : CX κ ω cX7_back 2 1 yX7_back.cls) (hlau : κ.2.1 = l) (hret : κ.2.2.2.2.2.2.2.2.1.sig.returnType = (some .int)) (hn : 75 ≤ oN ω)  : ∀ (n : Nat) (x1 : Int32) (I : Mem), EE κ ω 2 (Gi κ ω) (f_X7_back_b12 n x1 I) I 12 [(1, .int x1), (0, .ref (oA ω 56))] [] := by
  intro n
  induction n with
  | zero => intro x1 I; exact e_none
  | succ n ih =>
    intro x1 I
    rw [f_X7_back_b12]
    refine e_iload_n C dX7_back_12 rfl 0 rfl (q := 13) rfl ?_
    refine e_bipush C dX7_back_13 b8_24 (q := 15) rfl ?_
    refine e_icmpge C (tgt := 36) (q := 18) dX7_back_15 rfl rfl ?_ ?_
    · refine e_iconst C dX7_back_36 ic_0 (q := 37) rfl ?_
      refine e_istore_n C (lv1 := [(1, .int (0 : Int32)), (0, .ref (oA ω 56))]) dX7_back_37 rfl (Nat.le_of_ble_eq_true rfl) rfl (q := 38) rfl ?_
      exact xb_X7_back_b38 C hlau hret hn FU (0 : Int32) _
    · refine e_aload_n C dX7_back_18 rfl 1 rfl (q := 19) rfl ?_
      refine e_getf C (k := 56) (j := 3) (T := TX7) (N := 32) (v := .ref (oA ω 59)) dX7_back_19 (ltL hn (Nat.le_of_ble_eq_true rfl)) rfl rfl (by decide) in_X7 w_765 rfl (q := 22) rfl ?_
      refine e_iload_n C dX7_back_22 rfl 0 rfl (q := 23) rfl ?_
      refine e_aload_n C dX7_back_23 rfl 1 rfl (q := 24) rfl ?_
      refine e_getf C (k := 56) (j := 13) (T := TX7) (N := 32) (v := .ref (oA ω 64)) dX7_back_24 (ltL hn (Nat.le_of_ble_eq_true rfl)) rfl rfl (by decide) in_X7 w_775 rfl (q := 27) rfl ?_
      refine e_iload_n C dX7_back_27 rfl 0 rfl (q := 28) rfl ?_
      refine e_iald C (k := 64) (n := 60) dX7_back_28 (ltL hn (Nat.le_of_ble_eq_true rfl)) rfl (q := 29) rfl ?_
      refine e_iast C (k := 59) (n := 24) dX7_back_29 (ltL hn (Nat.le_of_ble_eq_true rfl)) (fun _ => rfl) (q := 30) rfl ?_
      refine e_nmM (fun J5 => ?_)
      refine e_iinc C (v := x1 + (1 : Int32)) (lv1 := [(1, .int (x1 + (1 : Int32))), (0, .ref (oA ω 56))]) dX7_back_30 0 rfl (Nat.le_of_ble_eq_true rfl) (by rw [ic_1]) rfl (q := 33) rfl ?_
      refine e_goto C (tgt := 12) dX7_back_33 rfl ?_
      exact ih (x1 + (1 : Int32)) _
set_option maxHeartbeats 4000000 in
set_option maxRecDepth 100000 in
theorem x_X7_back {l : Launch} {ω : Om}  (hn : 75 ≤ oN ω)  {I : Mem} : CTi l ω yX7_back cX7_back 2 (some .int) 1 [.ref (oA ω 56)] (f_X7_back  I) I := by
  refine ct_i (by decide) (Nat.le_of_ble_eq_true rfl) ?_
  intro κ hlau hret C
  refine e_lv [0] (lv1 := [(0, .ref (oA ω 56))]) rfl ?_
  unfold f_X7_back
  refine e_aload_n C dX7_back_0 rfl 0 rfl (q := 1) rfl ?_
  refine e_getf C (k := 56) (j := 12) (T := TX7) (N := 32) (v := .int (I 56 12)) dX7_back_1 (ltL hn (Nat.le_of_ble_eq_true rfl)) rfl rfl (by decide) in_X7 w_774 rfl (q := 4) rfl ?_
  refine e_ifne C (tgt := 10) (q := 7) dX7_back_4 rfl rfl ?_ ?_
  · refine e_iconst C dX7_back_10 ic_0 (q := 11) rfl ?_
    refine e_istore_n C (lv1 := [(1, .int (0 : Int32)), (0, .ref (oA ω 56))]) dX7_back_11 rfl (Nat.le_of_ble_eq_true rfl) rfl (q := 12) rfl ?_
    exact xb_X7_back_b12 C hlau hret hn FU (0 : Int32) _
  · refine e_bipush C dX7_back_7 b8_m3 (q := 9) rfl ?_
    exact e_ireturn C dX7_back_9 hret rfl
set_option maxHeartbeats 4000000 in
set_option maxRecDepth 100000 in
theorem xb_X7_sheet_b70 {l : Launch} {κ : Kx} {ω : Om} {a1 : Int32} {a2 : Int32} {a3 : Int32} (C : CX κ ω cX7_sheet 5 2 yX7_sheet.cls) (hlau : κ.2.1 = l) (hret : κ.2.2.2.2.2.2.2.2.1.sig.returnType = (some .int)) (hn : 75 ≤ oN ω)  : ∀ (n : Nat) (x4 : Int32) (I : Mem), EE κ ω 5 (Gi κ ω) (f_X7_sheet_b70 a1 a2 a3 n x4 I) I 70 [(4, .int x4), (0, .ref (oA ω 56)), (1, .int a1)] [] := by
  intro n
  induction n with
  | zero => intro x4 I; exact e_none
  | succ n ih =>
    intro x4 I
    rw [f_X7_sheet_b70]
    refine e_iload C dX7_sheet_70 0 rfl (q := 72) rfl ?_
    refine e_bipush C dX7_sheet_72 b8_40 (q := 74) rfl ?_
    refine e_icmpge C (tgt := 96) (q := 77) dX7_sheet_74 rfl rfl ?_ ?_
    · refine e_iconst C dX7_sheet_96 ic_1 (q := 97) rfl ?_
      exact e_ireturn C dX7_sheet_97 hret rfl
    · refine e_aload_n C dX7_sheet_77 rfl 1 rfl (q := 78) rfl ?_
      refine e_getf C (k := 56) (j := 17) (T := TX7) (N := 32) (v := .ref (oA ω 68)) dX7_sheet_78 (ltL hn (Nat.le_of_ble_eq_true rfl)) rfl rfl (by decide) in_X7 w_779 rfl (q := 81) rfl ?_
      refine e_bipush C dX7_sheet_81 b8_40 (q := 83) rfl ?_
      refine e_iload_n C dX7_sheet_83 rfl 2 rfl (q := 84) rfl ?_
      refine e_imul C dX7_sheet_84 (q := 85) rfl ?_
      refine e_iload C dX7_sheet_85 0 rfl (q := 87) rfl ?_
      refine e_iadd C dX7_sheet_87 (q := 88) rfl ?_
      refine e_iconst C dX7_sheet_88 ic_0 (q := 89) rfl ?_
      refine e_iast C (k := 68) (n := 160) dX7_sheet_89 (ltL hn (Nat.le_of_ble_eq_true rfl)) (fun _ => rfl) (q := 90) rfl ?_
      refine e_nmM (fun J7 => ?_)
      refine e_iinc C (v := x4 + (1 : Int32)) (lv1 := [(4, .int (x4 + (1 : Int32))), (0, .ref (oA ω 56)), (1, .int a1)]) dX7_sheet_90 0 rfl (Nat.le_of_ble_eq_true rfl) (by rw [ic_1]) rfl (q := 93) rfl ?_
      refine e_goto C (tgt := 70) dX7_sheet_93 rfl ?_
      exact ih (x4 + (1 : Int32)) _
set_option maxHeartbeats 4000000 in
set_option maxRecDepth 100000 in
theorem xb_X7_sheet_b66 {l : Launch} {κ : Kx} {ω : Om} {a1 : Int32} {a2 : Int32} {a3 : Int32} (C : CX κ ω cX7_sheet 5 2 yX7_sheet.cls) (hlau : κ.2.1 = l) (hret : κ.2.2.2.2.2.2.2.2.1.sig.returnType = (some .int)) (hn : 75 ≤ oN ω)  : ∀ (s0 : Int32) (s1 : Int32) (I : Mem), EE κ ω 5 (Gi κ ω) (f_X7_sheet_b66 a1 a2 a3 s0 s1 I) I 66 [(0, .ref (oA ω 56)), (1, .int a1)] [.int s0, .int s1, .ref (oA ω 67)] := by
  intro s0 s1 I
  unfold f_X7_sheet_b66
  refine e_iast C (k := 67) (n := 4) dX7_sheet_66 (ltL hn (Nat.le_of_ble_eq_true rfl)) (fun _ => rfl) (q := 67) rfl ?_
  refine e_nmM (fun J6 => ?_)
  refine e_iconst C dX7_sheet_67 ic_0 (q := 68) rfl ?_
  refine e_istore C (lv1 := [(4, .int (0 : Int32)), (0, .ref (oA ω 56)), (1, .int a1)]) dX7_sheet_68 (Nat.le_of_ble_eq_true rfl) rfl (q := 70) rfl ?_
  exact xb_X7_sheet_b70 C hlau hret hn FU (0 : Int32) _
set_option maxHeartbeats 4000000 in
set_option maxRecDepth 100000 in
theorem xb_X7_sheet_b44 {l : Launch} {κ : Kx} {ω : Om} {a1 : Int32} {a2 : Int32} {a3 : Int32} (C : CX κ ω cX7_sheet 5 2 yX7_sheet.cls) (hlau : κ.2.1 = l) (hret : κ.2.2.2.2.2.2.2.2.1.sig.returnType = (some .int)) (hn : 75 ≤ oN ω)  : ∀  (I : Mem), EE κ ω 5 (Gi κ ω) (f_X7_sheet_b44 a1 a2 a3  I) I 44 [(0, .ref (oA ω 56)), (1, .int a1), (2, .int a2), (3, .int a3)] [] := by
  intro  I
  unfold f_X7_sheet_b44
  refine e_aload_n C dX7_sheet_44 rfl 0 rfl (q := 45) rfl ?_
  refine e_getf C (k := 56) (j := 15) (T := TX7) (N := 32) (v := .ref (oA ω 66)) dX7_sheet_45 (ltL hn (Nat.le_of_ble_eq_true rfl)) rfl rfl (by decide) in_X7 w_777 rfl (q := 48) rfl ?_
  refine e_iload_n C dX7_sheet_48 rfl 1 rfl (q := 49) rfl ?_
  refine e_iload_n C dX7_sheet_49 rfl 2 rfl (q := 50) rfl ?_
  refine e_iast C (k := 66) (n := 4) dX7_sheet_50 (ltL hn (Nat.le_of_ble_eq_true rfl)) (fun _ => rfl) (q := 51) rfl ?_
  refine e_nmM (fun J5 => ?_)
  refine e_aload_n C dX7_sheet_51 rfl 0 rfl (q := 52) rfl ?_
  refine e_getf C (k := 56) (j := 16) (T := TX7) (N := 32) (v := .ref (oA ω 67)) dX7_sheet_52 (ltL hn (Nat.le_of_ble_eq_true rfl)) rfl rfl (by decide) in_X7 w_778 rfl (q := 55) rfl ?_
  refine e_iload_n C dX7_sheet_55 rfl 1 rfl (q := 56) rfl ?_
  refine e_iload_n C dX7_sheet_56 rfl 2 rfl (q := 57) rfl ?_
  refine e_iconst C dX7_sheet_57 ic_m1 (q := 58) rfl ?_
  refine e_icmpne C (tgt := 65) (q := 61) dX7_sheet_58 rfl rfl ?_ ?_
  · refine e_iload_n C dX7_sheet_65 rfl 3 rfl (q := 66) rfl ?_
    exact e_lv [0, 1] (lv1 := [(0, .ref (oA ω 56)), (1, .int a1)]) rfl (xb_X7_sheet_b66 C hlau hret hn a3 a1 _)
  · refine e_iconst C dX7_sheet_61 ic_0 (q := 62) rfl ?_
    refine e_goto C (tgt := 66) dX7_sheet_62 rfl ?_
    exact e_lv [0, 1] (lv1 := [(0, .ref (oA ω 56)), (1, .int a1)]) rfl (xb_X7_sheet_b66 C hlau hret hn (0 : Int32) a1 _)
set_option maxHeartbeats 4000000 in
set_option maxRecDepth 100000 in
theorem xb_X7_sheet_b32 {l : Launch} {κ : Kx} {ω : Om} {a1 : Int32} {a2 : Int32} {a3 : Int32} (C : CX κ ω cX7_sheet 5 2 yX7_sheet.cls) (hlau : κ.2.1 = l) (hret : κ.2.2.2.2.2.2.2.2.1.sig.returnType = (some .int)) (hn : 75 ≤ oN ω)  : ∀  (I : Mem), EE κ ω 5 (Gi κ ω) (f_X7_sheet_b32 a1 a2 a3  I) I 32 [(0, .ref (oA ω 56)), (1, .int a1), (2, .int a2), (3, .int a3)] [] := by
  intro  I
  unfold f_X7_sheet_b32
  refine e_iload_n C dX7_sheet_32 rfl 2 rfl (q := 33) rfl ?_
  refine e_iconst C dX7_sheet_33 ic_m1 (q := 34) rfl ?_
  refine e_icmpeq C (tgt := 44) (q := 37) dX7_sheet_34 rfl rfl ?_ ?_
  · exact xb_X7_sheet_b44 C hlau hret hn _
  · refine e_iload_n C dX7_sheet_37 rfl 3 rfl (q := 38) rfl ?_
    refine e_ifge C (tgt := 44) (q := 41) dX7_sheet_38 rfl rfl ?_ ?_
    · exact xb_X7_sheet_b44 C hlau hret hn _
    · refine e_bipush C dX7_sheet_41 b8_m14 (q := 43) rfl ?_
      exact e_ireturn C dX7_sheet_43 hret rfl
set_option maxHeartbeats 4000000 in
set_option maxRecDepth 100000 in
theorem x_X7_sheet {l : Launch} {ω : Om} {a1 : Int32} {a2 : Int32} {a3 : Int32} (hn : 75 ≤ oN ω)  {I : Mem} : CTi l ω yX7_sheet cX7_sheet 5 (some .int) 2 [.ref (oA ω 56), .int a1, .int a2, .int a3] (f_X7_sheet a1 a2 a3 I) I := by
  refine ct_i (by decide) (Nat.le_of_ble_eq_true rfl) ?_
  intro κ hlau hret C
  refine e_lv [0, 1, 2, 3] (lv1 := [(0, .ref (oA ω 56)), (1, .int a1), (2, .int a2), (3, .int a3)]) rfl ?_
  unfold f_X7_sheet
  refine e_iload_n C dX7_sheet_0 rfl 1 rfl (q := 1) rfl ?_
  refine e_iconst C dX7_sheet_1 ic_0 (q := 2) rfl ?_
  refine e_iconst C dX7_sheet_2 ic_3 (q := 3) rfl ?_
  refine e_callSi C (l := l) (av := [.int a1, .int (0 : Int32), .int (3 : Int32)]) (st := []) hlau (x_X7_in (l := l) (ω := ω) (a0 := a1) (a1 := (0 : Int32)) (a2 := (3 : Int32)) hn (I := I)) dX7_sheet_3 w_723 w_724 w_67 w_725 md_X7_in (by decide) (by decide) rfl (Nat.le_of_ble_eq_true rfl) (q := 6) rfl (fun v2 J1 => ?_)
  refine e_ifeq C (tgt := 29) (q := 9) dX7_sheet_6 rfl rfl ?_ ?_
  · refine e_bipush C dX7_sheet_29 b8_m2 (q := 31) rfl ?_
    exact e_ireturn C dX7_sheet_31 hret rfl
  · refine e_iload_n C dX7_sheet_9 rfl 2 rfl (q := 10) rfl ?_
    refine e_iconst C dX7_sheet_10 ic_m1 (q := 11) rfl ?_
    refine e_iconst C dX7_sheet_11 ic_2 (q := 12) rfl ?_
    refine e_callSi C (l := l) (av := [.int a2, .int (-1 : Int32), .int (2 : Int32)]) (st := []) hlau (x_X7_in (l := l) (ω := ω) (a0 := a2) (a1 := (-1 : Int32)) (a2 := (2 : Int32)) hn (I := J1)) dX7_sheet_12 w_723 w_724 w_67 w_725 md_X7_in (by decide) (by decide) rfl (Nat.le_of_ble_eq_true rfl) (q := 15) rfl (fun v4 J3 => ?_)
    refine e_ifeq C (tgt := 29) (q := 18) dX7_sheet_15 rfl rfl ?_ ?_
    · refine e_bipush C dX7_sheet_29 b8_m2 (q := 31) rfl ?_
      exact e_ireturn C dX7_sheet_31 hret rfl
    · refine e_iload_n C dX7_sheet_18 rfl 2 rfl (q := 19) rfl ?_
      refine e_iconst C dX7_sheet_19 ic_m1 (q := 20) rfl ?_
      refine e_icmpeq C (tgt := 32) (q := 23) dX7_sheet_20 rfl rfl ?_ ?_
      · exact xb_X7_sheet_b32 C hlau hret hn _
      · refine e_iload_n C dX7_sheet_23 rfl 3 rfl (q := 24) rfl ?_
        refine e_bipush C dX7_sheet_24 b8_40 (q := 26) rfl ?_
        refine e_icmple C (tgt := 32) (q := 29) dX7_sheet_26 rfl rfl ?_ ?_
        · exact xb_X7_sheet_b32 C hlau hret hn _
        · refine e_bipush C dX7_sheet_29 b8_m2 (q := 31) rfl ?_
          exact e_ireturn C dX7_sheet_31 hret rfl
set_option maxHeartbeats 4000000 in
set_option maxRecDepth 100000 in
theorem xb_X7_cell_b84 {l : Launch} {κ : Kx} {ω : Om} {a1 : Int32} {a2 : Int32} {a3 : Int32} (C : CX κ ω cX7_cell 4 2 yX7_cell.cls) (hlau : κ.2.1 = l) (hret : κ.2.2.2.2.2.2.2.2.1.sig.returnType = (some .int)) (hn : 75 ≤ oN ω)  : ∀ (s0 : Int32) (s1 : Int32) (I : Mem), EE κ ω 4 (Gi κ ω) (f_X7_cell_b84 a1 a2 a3 s0 s1 I) I 84 [] [.int s0, .int s1, .ref (oA ω 68)] := by
  intro s0 s1 I
  unfold f_X7_cell_b84
  refine e_iast C (k := 68) (n := 160) dX7_cell_84 (ltL hn (Nat.le_of_ble_eq_true rfl)) (fun _ => rfl) (q := 85) rfl ?_
  refine e_nmM (fun J5 => ?_)
  refine e_iconst C dX7_cell_85 ic_1 (q := 86) rfl ?_
  exact e_ireturn C dX7_cell_86 hret rfl
set_option maxHeartbeats 4000000 in
set_option maxRecDepth 100000 in
theorem x_X7_cell {l : Launch} {ω : Om} {a1 : Int32} {a2 : Int32} {a3 : Int32} (hn : 75 ≤ oN ω)  {I : Mem} : CTi l ω yX7_cell cX7_cell 4 (some .int) 2 [.ref (oA ω 56), .int a1, .int a2, .int a3] (f_X7_cell a1 a2 a3 I) I := by
  refine ct_i (by decide) (Nat.le_of_ble_eq_true rfl) ?_
  intro κ hlau hret C
  refine e_lv [0, 1, 2, 3] (lv1 := [(0, .ref (oA ω 56)), (1, .int a1), (2, .int a2), (3, .int a3)]) rfl ?_
  unfold f_X7_cell
  refine e_iload_n C dX7_cell_0 rfl 1 rfl (q := 1) rfl ?_
  refine e_iconst C dX7_cell_1 ic_0 (q := 2) rfl ?_
  refine e_iconst C dX7_cell_2 ic_3 (q := 3) rfl ?_
  refine e_callSi C (l := l) (av := [.int a1, .int (0 : Int32), .int (3 : Int32)]) (st := []) hlau (x_X7_in (l := l) (ω := ω) (a0 := a1) (a1 := (0 : Int32)) (a2 := (3 : Int32)) hn (I := I)) dX7_cell_3 w_723 w_724 w_67 w_725 md_X7_in (by decide) (by decide) rfl (Nat.le_of_ble_eq_true rfl) (q := 6) rfl (fun v2 J1 => ?_)
  refine e_ifne C (tgt := 12) (q := 9) dX7_cell_6 rfl rfl ?_ ?_
  · refine e_aload_n C dX7_cell_12 rfl 0 rfl (q := 13) rfl ?_
    refine e_getf C (k := 56) (j := 15) (T := TX7) (N := 32) (v := .ref (oA ω 66)) dX7_cell_13 (ltL hn (Nat.le_of_ble_eq_true rfl)) rfl rfl (by decide) in_X7 w_777 rfl (q := 16) rfl ?_
    refine e_iload_n C dX7_cell_16 rfl 1 rfl (q := 17) rfl ?_
    refine e_iald C (k := 66) (n := 4) dX7_cell_17 (ltL hn (Nat.le_of_ble_eq_true rfl)) rfl (q := 18) rfl ?_
    refine e_iconst C dX7_cell_18 ic_m1 (q := 19) rfl ?_
    refine e_icmpne C (tgt := 25) (q := 22) dX7_cell_19 rfl rfl ?_ ?_
    · refine e_iload_n C dX7_cell_25 rfl 2 rfl (q := 26) rfl ?_
      refine e_iconst C dX7_cell_26 ic_0 (q := 27) rfl ?_
      refine e_aload_n C dX7_cell_27 rfl 0 rfl (q := 28) rfl ?_
      refine e_getf C (k := 56) (j := 16) (T := TX7) (N := 32) (v := .ref (oA ω 67)) dX7_cell_28 (ltL hn (Nat.le_of_ble_eq_true rfl)) rfl rfl (by decide) in_X7 w_778 rfl (q := 31) rfl ?_
      refine e_iload_n C dX7_cell_31 rfl 1 rfl (q := 32) rfl ?_
      refine e_iald C (k := 67) (n := 4) dX7_cell_32 (ltL hn (Nat.le_of_ble_eq_true rfl)) rfl (q := 33) rfl ?_
      refine e_iconst C dX7_cell_33 ic_1 (q := 34) rfl ?_
      refine e_isub C dX7_cell_34 (q := 35) rfl ?_
      refine e_callSi C (l := l) (av := [.int a2, .int (0 : Int32), .int ((J1 67 (a1).toNatClampNeg) - (1 : Int32))]) (st := []) hlau (x_X7_in (l := l) (ω := ω) (a0 := a2) (a1 := (0 : Int32)) (a2 := (J1 67 (a1).toNatClampNeg) - (1 : Int32)) hn (I := J1)) dX7_cell_35 w_723 w_724 w_67 w_725 md_X7_in (by decide) (by decide) rfl (Nat.le_of_ble_eq_true rfl) (q := 38) rfl (fun v4 J3 => ?_)
      refine e_ifne C (tgt := 44) (q := 41) dX7_cell_38 rfl rfl ?_ ?_
      · refine e_aload_n C dX7_cell_44 rfl 0 rfl (q := 45) rfl ?_
        refine e_getf C (k := 56) (j := 17) (T := TX7) (N := 32) (v := .ref (oA ω 68)) dX7_cell_45 (ltL hn (Nat.le_of_ble_eq_true rfl)) rfl rfl (by decide) in_X7 w_779 rfl (q := 48) rfl ?_
        refine e_bipush C dX7_cell_48 b8_40 (q := 50) rfl ?_
        refine e_iload_n C dX7_cell_50 rfl 1 rfl (q := 51) rfl ?_
        refine e_imul C dX7_cell_51 (q := 52) rfl ?_
        refine e_iload_n C dX7_cell_52 rfl 2 rfl (q := 53) rfl ?_
        refine e_iadd C dX7_cell_53 (q := 54) rfl ?_
        refine e_aload_n C dX7_cell_54 rfl 0 rfl (q := 55) rfl ?_
        refine e_getf C (k := 56) (j := 15) (T := TX7) (N := 32) (v := .ref (oA ω 66)) dX7_cell_55 (ltL hn (Nat.le_of_ble_eq_true rfl)) rfl rfl (by decide) in_X7 w_777 rfl (q := 58) rfl ?_
        refine e_iload_n C dX7_cell_58 rfl 1 rfl (q := 59) rfl ?_
        refine e_iald C (k := 66) (n := 4) dX7_cell_59 (ltL hn (Nat.le_of_ble_eq_true rfl)) rfl (q := 60) rfl ?_
        refine e_ifne C (tgt := 68) (q := 63) dX7_cell_60 rfl rfl ?_ ?_
        · refine e_aload_n C dX7_cell_68 rfl 0 rfl (q := 69) rfl ?_
          refine e_getf C (k := 56) (j := 15) (T := TX7) (N := 32) (v := .ref (oA ω 66)) dX7_cell_69 (ltL hn (Nat.le_of_ble_eq_true rfl)) rfl rfl (by decide) in_X7 w_777 rfl (q := 72) rfl ?_
          refine e_iload_n C dX7_cell_72 rfl 1 rfl (q := 73) rfl ?_
          refine e_iald C (k := 66) (n := 4) dX7_cell_73 (ltL hn (Nat.le_of_ble_eq_true rfl)) rfl (q := 74) rfl ?_
          refine e_iconst C dX7_cell_74 ic_1 (q := 75) rfl ?_
          refine e_icmpne C (tgt := 83) (q := 78) dX7_cell_75 rfl rfl ?_ ?_
          · refine e_iload_n C dX7_cell_83 rfl 3 rfl (q := 84) rfl ?_
            exact e_lv [] (lv1 := []) rfl (xb_X7_cell_b84 C hlau hret hn a3 (((40 : Int32) * a1) + a2) _)
          · refine e_iload_n C dX7_cell_78 rfl 3 rfl (q := 79) rfl ?_
            refine e_i2s C dX7_cell_79 (q := 80) rfl ?_
            refine e_goto C (tgt := 84) dX7_cell_80 rfl ?_
            exact e_lv [] (lv1 := []) rfl (xb_X7_cell_b84 C hlau hret hn ((a3).toInt16.toInt32) (((40 : Int32) * a1) + a2) _)
        · refine e_iload_n C dX7_cell_63 rfl 3 rfl (q := 64) rfl ?_
          refine e_i2b C dX7_cell_64 (q := 65) rfl ?_
          refine e_goto C (tgt := 84) dX7_cell_65 rfl ?_
          exact e_lv [] (lv1 := []) rfl (xb_X7_cell_b84 C hlau hret hn ((a3).toInt8.toInt32) (((40 : Int32) * a1) + a2) _)
      · refine e_bipush C dX7_cell_41 b8_m12 (q := 43) rfl ?_
        exact e_ireturn C dX7_cell_43 hret rfl
    · refine e_bipush C dX7_cell_22 b8_m11 (q := 24) rfl ?_
      exact e_ireturn C dX7_cell_24 hret rfl
  · refine e_bipush C dX7_cell_9 b8_m2 (q := 11) rfl ?_
    exact e_ireturn C dX7_cell_11 hret rfl
