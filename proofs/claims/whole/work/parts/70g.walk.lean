/-! WALKS, written by program (wip/gen) -/
set_option maxHeartbeats 4000000 in
set_option maxRecDepth 100000 in
theorem xb_X7_roundOf_b95 {l : Launch} {κ : Kx} {ω : Om}  (C : CX κ ω cX7_roundOf 5 7 yX7_roundOf.cls) (hlau : κ.2.1 = l) (hret : κ.2.2.2.2.2.2.2.2.1.sig.returnType = (some .int)) (hn : 75 ≤ oN ω)  {K4 : Int32 → Int32 → Mem → Option (Int32 × Mem)} (hK4 : ∀ (x2 : Int32) (x1 : Int32) (J : Mem), EE κ ω 5 (Gi κ ω) (K4 x2 x1 J) J 4 [(2, .int x2), (1, .int x1), (0, .ref (oA ω 56))] []) : ∀ (x2 : Int32) (s0 : Int32) (s1 : Int32) (I : Mem), EE κ ω 5 (Gi κ ω) (f_X7_roundOf_b95 K4 x2 s0 s1 I) I 95 [(2, .int x2), (0, .ref (oA ω 56))] [.int s0, .int s1] := by
  intro x2 s0 s1 I
  unfold f_X7_roundOf_b95
  refine e_ior C dX7_roundOf_95 (q := 96) rfl ?_
  refine e_nmi (fun v8 => ?_)
  refine e_istore_n C (lv1 := [(1, .int v8), (2, .int x2), (0, .ref (oA ω 56))]) dX7_roundOf_96 rfl (Nat.le_of_ble_eq_true rfl) rfl (q := 97) rfl ?_
  refine e_iinc C (v := x2 + (1 : Int32)) (lv1 := [(2, .int (x2 + (1 : Int32))), (1, .int v8), (0, .ref (oA ω 56))]) dX7_roundOf_97 1 rfl (Nat.le_of_ble_eq_true rfl) (by rw [ic_1]) rfl (q := 100) rfl ?_
  refine e_goto C (tgt := 4) dX7_roundOf_100 rfl ?_
  exact hK4 (x2 + (1 : Int32)) v8 _
set_option maxHeartbeats 4000000 in
set_option maxRecDepth 100000 in
theorem xb_X7_roundOf_b54 {l : Launch} {κ : Kx} {ω : Om}  (C : CX κ ω cX7_roundOf 5 7 yX7_roundOf.cls) (hlau : κ.2.1 = l) (hret : κ.2.2.2.2.2.2.2.2.1.sig.returnType = (some .int)) (hn : 75 ≤ oN ω)  {K4 : Int32 → Int32 → Mem → Option (Int32 × Mem)} (hK4 : ∀ (x2 : Int32) (x1 : Int32) (J : Mem), EE κ ω 5 (Gi κ ω) (K4 x2 x1 J) J 4 [(2, .int x2), (1, .int x1), (0, .ref (oA ω 56))] []) : ∀ (x4 : Int32) (x3 : Int32) (x2 : Int32) (x1 : Int32) (I : Mem), EE κ ω 5 (Gi κ ω) (f_X7_roundOf_b54 K4 x4 x3 x2 x1 I) I 54 [(4, .int x4), (3, .int x3), (2, .int x2), (1, .int x1), (0, .ref (oA ω 56))] [] := by
  intro x4 x3 x2 x1 I
  unfold f_X7_roundOf_b54
  refine e_iload C dX7_roundOf_54 0 rfl (q := 56) rfl ?_
  refine e_ifeq C (tgt := 97) (q := 59) dX7_roundOf_56 rfl rfl ?_ ?_
  · refine e_iinc C (v := x2 + (1 : Int32)) (lv1 := [(2, .int (x2 + (1 : Int32))), (4, .int x4), (3, .int x3), (1, .int x1), (0, .ref (oA ω 56))]) dX7_roundOf_97 2 rfl (Nat.le_of_ble_eq_true rfl) (by rw [ic_1]) rfl (q := 100) rfl ?_
    refine e_goto C (tgt := 4) dX7_roundOf_100 rfl ?_
    exact e_lv [0, 3, 4] (lv1 := [(2, .int (x2 + (1 : Int32))), (1, .int x1), (0, .ref (oA ω 56))]) rfl (hK4 (x2 + (1 : Int32)) x1 _)
  · refine e_aload_n C dX7_roundOf_59 rfl 4 rfl (q := 60) rfl ?_
    refine e_iload_n C dX7_roundOf_60 rfl 2 rfl (q := 61) rfl ?_
    refine e_iload_n C dX7_roundOf_61 rfl 1 rfl (q := 62) rfl ?_
    refine e_callVi C (l := l) (k := 56) (av := [.int x2, .int x3]) (st := []) hlau (x_X7_farOf (l := l) (ω := ω) (a1 := x2) (a2 := x3) hn (I := I)) dX7_roundOf_62 w_928 w_930 w_37 w_67 w_931 md_X7_farOf (by decide) (by decide) rfl (ltL hn (Nat.le_of_ble_eq_true rfl)) rfl rfl (Nat.le_of_ble_eq_true rfl) (q := 65) rfl (fun v5 J4 => ?_)
    refine e_iconst C dX7_roundOf_65 ic_1 (q := 66) rfl ?_
    refine e_icmple C (tgt := 78) (q := 69) dX7_roundOf_66 rfl rfl ?_ ?_
    · refine e_iload_n C dX7_roundOf_78 rfl 3 rfl (q := 79) rfl ?_
      refine e_aload_n C dX7_roundOf_79 rfl 4 rfl (q := 80) rfl ?_
      refine e_iload_n C dX7_roundOf_80 rfl 2 rfl (q := 81) rfl ?_
      refine e_iload_n C dX7_roundOf_81 rfl 1 rfl (q := 82) rfl ?_
      refine e_callVi C (l := l) (k := 56) (av := [.int x2, .int x3]) (st := [.int x1]) hlau (x_X7_hitBy (l := l) (ω := ω) (a1 := x2) (a2 := x3) hn (I := J4)) dX7_roundOf_82 w_964 w_966 w_44 w_67 w_967 md_X7_hitBy (by decide) (by decide) rfl (ltL hn (Nat.le_of_ble_eq_true rfl)) rfl rfl (Nat.le_of_ble_eq_true rfl) (q := 85) rfl (fun v7 J6 => ?_)
      refine e_ifeq C (tgt := 94) (q := 88) dX7_roundOf_85 rfl rfl ?_ ?_
      · refine e_iconst C dX7_roundOf_94 ic_0 (q := 95) rfl ?_
        exact e_lv [2, 4] (lv1 := [(2, .int x2), (0, .ref (oA ω 56))]) rfl (xb_X7_roundOf_b95 C hlau hret hn hK4 x2 (0 : Int32) x1 _)
      · refine e_iconst C dX7_roundOf_88 ic_1 (q := 89) rfl ?_
        refine e_iload_n C dX7_roundOf_89 rfl 1 rfl (q := 90) rfl ?_
        refine e_ishl C dX7_roundOf_90 (q := 91) rfl ?_
        refine e_goto C (tgt := 95) dX7_roundOf_91 rfl ?_
        exact e_lv [2, 4] (lv1 := [(2, .int x2), (0, .ref (oA ω 56))]) rfl (xb_X7_roundOf_b95 C hlau hret hn hK4 x2 ((1 : Int32) <<< (x3 &&& 31)) x1 _)
    · refine e_aload_n C dX7_roundOf_69 rfl 4 rfl (q := 70) rfl ?_
      refine e_iload_n C dX7_roundOf_70 rfl 2 rfl (q := 71) rfl ?_
      refine e_iload_n C dX7_roundOf_71 rfl 1 rfl (q := 72) rfl ?_
      refine e_callVv C (l := l) (k := 56) (av := [.int x2, .int x3]) (st := []) hlau (x_X7_steps (l := l) (ω := ω) (a1 := x2) (a2 := x3) hn (I := J4)) dX7_roundOf_72 w_960 w_962 w_43 w_67 w_963 md_X7_steps (by decide) (by decide) rfl (ltL hn (Nat.le_of_ble_eq_true rfl)) rfl rfl (Nat.le_of_ble_eq_true rfl) (q := 75) rfl (fun _ J9 => ?_)
      refine e_goto C (tgt := 97) dX7_roundOf_75 rfl ?_
      refine e_iinc C (v := x2 + (1 : Int32)) (lv1 := [(2, .int (x2 + (1 : Int32))), (4, .int x4), (3, .int x3), (1, .int x1), (0, .ref (oA ω 56))]) dX7_roundOf_97 2 rfl (Nat.le_of_ble_eq_true rfl) (by rw [ic_1]) rfl (q := 100) rfl ?_
      refine e_goto C (tgt := 4) dX7_roundOf_100 rfl ?_
      exact e_lv [0, 3, 4] (lv1 := [(2, .int (x2 + (1 : Int32))), (1, .int x1), (0, .ref (oA ω 56))]) rfl (hK4 (x2 + (1 : Int32)) x1 _)
set_option maxHeartbeats 4000000 in
set_option maxRecDepth 100000 in
theorem xb_X7_roundOf_b40 {l : Launch} {κ : Kx} {ω : Om}  (C : CX κ ω cX7_roundOf 5 7 yX7_roundOf.cls) (hlau : κ.2.1 = l) (hret : κ.2.2.2.2.2.2.2.2.1.sig.returnType = (some .int)) (hn : 75 ≤ oN ω)  {K4 : Int32 → Int32 → Mem → Option (Int32 × Mem)} (hK4 : ∀ (x2 : Int32) (x1 : Int32) (J : Mem), EE κ ω 5 (Gi κ ω) (K4 x2 x1 J) J 4 [(2, .int x2), (1, .int x1), (0, .ref (oA ω 56))] []) : ∀ (x3 : Int32) (x2 : Int32) (x1 : Int32) (s0 : Int32) (I : Mem), EE κ ω 5 (Gi κ ω) (f_X7_roundOf_b40 K4 x3 x2 x1 s0 I) I 40 [(3, .int x3), (2, .int x2), (1, .int x1), (0, .ref (oA ω 56))] [.int s0] := by
  intro x3 x2 x1 s0 I
  unfold f_X7_roundOf_b40
  refine e_istore C (lv1 := [(4, .int s0), (3, .int x3), (2, .int x2), (1, .int x1), (0, .ref (oA ω 56))]) dX7_roundOf_40 (Nat.le_of_ble_eq_true rfl) rfl (q := 42) rfl ?_
  refine e_iload C dX7_roundOf_42 0 rfl (q := 44) rfl ?_
  refine e_ifeq C (tgt := 54) (q := 47) dX7_roundOf_44 rfl rfl ?_ ?_
  · exact xb_X7_roundOf_b54 C hlau hret hn hK4 s0 x3 x2 x1 _
  · refine e_aload_n C dX7_roundOf_47 rfl 4 rfl (q := 48) rfl ?_
    refine e_iload_n C dX7_roundOf_48 rfl 2 rfl (q := 49) rfl ?_
    refine e_callVi C (l := l) (k := 56) (av := [.int x2]) (st := []) hlau (x_X7_goes (l := l) (ω := ω) (a1 := x2) hn (I := I)) dX7_roundOf_49 w_920 w_922 w_35 w_67 w_923 md_X7_goes (by decide) (by decide) rfl (ltL hn (Nat.le_of_ble_eq_true rfl)) rfl rfl (Nat.le_of_ble_eq_true rfl) (q := 52) rfl (fun v11 J10 => ?_)
    refine e_istore C (lv1 := [(4, .int v11), (3, .int x3), (2, .int x2), (1, .int x1), (0, .ref (oA ω 56))]) dX7_roundOf_52 (Nat.le_of_ble_eq_true rfl) rfl (q := 54) rfl ?_
    exact xb_X7_roundOf_b54 C hlau hret hn hK4 v11 x3 x2 x1 _
set_option maxHeartbeats 4000000 in
set_option maxRecDepth 100000 in
theorem xb_X7_roundOf_b29 {l : Launch} {κ : Kx} {ω : Om}  (C : CX κ ω cX7_roundOf 5 7 yX7_roundOf.cls) (hlau : κ.2.1 = l) (hret : κ.2.2.2.2.2.2.2.2.1.sig.returnType = (some .int)) (hn : 75 ≤ oN ω)  {K4 : Int32 → Int32 → Mem → Option (Int32 × Mem)} (hK4 : ∀ (x2 : Int32) (x1 : Int32) (J : Mem), EE κ ω 5 (Gi κ ω) (K4 x2 x1 J) J 4 [(2, .int x2), (1, .int x1), (0, .ref (oA ω 56))] []) : ∀ (x2 : Int32) (x1 : Int32) (s0 : Int32) (I : Mem), EE κ ω 5 (Gi κ ω) (f_X7_roundOf_b29 K4 x2 x1 s0 I) I 29 [(2, .int x2), (1, .int x1), (0, .ref (oA ω 56))] [.int s0] := by
  intro x2 x1 s0 I
  unfold f_X7_roundOf_b29
  refine e_istore_n C (lv1 := [(3, .int s0), (2, .int x2), (1, .int x1), (0, .ref (oA ω 56))]) dX7_roundOf_29 rfl (Nat.le_of_ble_eq_true rfl) rfl (q := 30) rfl ?_
  refine e_iload_n C dX7_roundOf_30 rfl 0 rfl (q := 31) rfl ?_
  refine e_iconst C dX7_roundOf_31 ic_m1 (q := 32) rfl ?_
  refine e_icmpeq C (tgt := 39) (q := 35) dX7_roundOf_32 rfl rfl ?_ ?_
  · refine e_iconst C dX7_roundOf_39 ic_0 (q := 40) rfl ?_
    exact xb_X7_roundOf_b40 C hlau hret hn hK4 s0 x2 x1 (0 : Int32) _
  · refine e_iconst C dX7_roundOf_35 ic_1 (q := 36) rfl ?_
    refine e_goto C (tgt := 40) dX7_roundOf_36 rfl ?_
    exact xb_X7_roundOf_b40 C hlau hret hn hK4 s0 x2 x1 (1 : Int32) _
set_option maxHeartbeats 4000000 in
set_option maxRecDepth 100000 in
theorem xb_X7_roundOf_b4 {l : Launch} {κ : Kx} {ω : Om}  (C : CX κ ω cX7_roundOf 5 7 yX7_roundOf.cls) (hlau : κ.2.1 = l) (hret : κ.2.2.2.2.2.2.2.2.1.sig.returnType = (some .int)) (hn : 75 ≤ oN ω)  : ∀ (n : Nat) (x2 : Int32) (x1 : Int32) (I : Mem), EE κ ω 5 (Gi κ ω) (f_X7_roundOf_b4 n x2 x1 I) I 4 [(2, .int x2), (1, .int x1), (0, .ref (oA ω 56))] [] := by
  intro n
  induction n with
  | zero => intro x2 x1 I; exact e_none
  | succ n ih =>
    intro x2 x1 I
    rw [f_X7_roundOf_b4]
    refine e_iload_n C dX7_roundOf_4 rfl 0 rfl (q := 5) rfl ?_
    refine e_aload_n C dX7_roundOf_5 rfl 2 rfl (q := 6) rfl ?_
    refine e_getf C (k := 56) (j := 0) (T := TX7) (N := 32) (v := .int (I 56 0)) dX7_roundOf_6 (ltL hn (Nat.le_of_ble_eq_true rfl)) rfl rfl (by decide) in_X7 w_762 rfl (q := 9) rfl ?_
    refine e_icmpge C (tgt := 103) (q := 12) dX7_roundOf_9 rfl rfl ?_ ?_
    · refine e_aload_n C dX7_roundOf_103 rfl 2 rfl (q := 104) rfl ?_
      refine e_dup C dX7_roundOf_104 rfl (q := 105) rfl ?_
      refine e_getf C (k := 56) (j := 5) (T := TX7) (N := 32) (v := .int (I 56 5)) dX7_roundOf_105 (ltL hn (Nat.le_of_ble_eq_true rfl)) rfl rfl (by decide) in_X7 w_767 rfl (q := 108) rfl ?_
      refine e_iconst C dX7_roundOf_108 ic_1 (q := 109) rfl ?_
      refine e_iadd C dX7_roundOf_109 (q := 110) rfl ?_
      refine e_putf C (k := 56) (j := 5) (T := TX7) (N := 32) dX7_roundOf_110 (ltL hn (Nat.le_of_ble_eq_true rfl)) rfl rfl (by decide) in_X7 w_767 tyX7_ok nmX7 rfl rfl rfl (show 5 < 32 by decide) (set_Mo_5_ _) (q := 113) rfl ?_
      refine e_nmM (fun J1 => ?_)
      refine e_iload_n C dX7_roundOf_113 rfl 1 rfl (q := 114) rfl ?_
      exact e_ireturn C dX7_roundOf_114 hret rfl
    · refine e_aload_n C dX7_roundOf_12 rfl 2 rfl (q := 13) rfl ?_
      refine e_iload_n C dX7_roundOf_13 rfl 0 rfl (q := 14) rfl ?_
      refine e_callVi C (l := l) (k := 56) (av := [.int x2]) (st := []) hlau (x_X7_isUp (l := l) (ω := ω) (a1 := x2) hn (I := I)) dX7_roundOf_14 w_867 w_869 w_31 w_67 w_870 md_X7_isUp (by decide) (by decide) rfl (ltL hn (Nat.le_of_ble_eq_true rfl)) rfl rfl (Nat.le_of_ble_eq_true rfl) (q := 17) rfl (fun v3 J2 => ?_)
      refine e_ifeq C (tgt := 28) (q := 20) dX7_roundOf_17 rfl rfl ?_ ?_
      · refine e_iconst C dX7_roundOf_28 ic_m1 (q := 29) rfl ?_
        exact xb_X7_roundOf_b29 C hlau hret hn ih x2 x1 (-1 : Int32) _
      · refine e_aload_n C dX7_roundOf_20 rfl 2 rfl (q := 21) rfl ?_
        refine e_iload_n C dX7_roundOf_21 rfl 0 rfl (q := 22) rfl ?_
        refine e_callVi C (l := l) (k := 56) (av := [.int x2]) (st := []) hlau (x_X7_nearestOf (l := l) (ω := ω) (a1 := x2) hn (I := J2)) dX7_roundOf_22 w_924 w_926 w_36 w_67 w_927 md_X7_nearestOf (by decide) (by decide) rfl (ltL hn (Nat.le_of_ble_eq_true rfl)) rfl rfl (Nat.le_of_ble_eq_true rfl) (q := 25) rfl (fun v13 J12 => ?_)
        refine e_goto C (tgt := 29) dX7_roundOf_25 rfl ?_
        exact xb_X7_roundOf_b29 C hlau hret hn ih x2 x1 v13 _
set_option maxHeartbeats 4000000 in
set_option maxRecDepth 100000 in
theorem x_X7_roundOf {l : Launch} {ω : Om}  (hn : 75 ≤ oN ω)  {I : Mem} : CTi l ω yX7_roundOf cX7_roundOf 5 (some .int) 7 [.ref (oA ω 56)] (f_X7_roundOf  I) I := by
  refine ct_i (by decide) (Nat.le_of_ble_eq_true rfl) ?_
  intro κ hlau hret C
  refine e_lv [0] (lv1 := [(0, .ref (oA ω 56))]) rfl ?_
  unfold f_X7_roundOf
  refine e_iconst C dX7_roundOf_0 ic_0 (q := 1) rfl ?_
  refine e_istore_n C (lv1 := [(1, .int (0 : Int32)), (0, .ref (oA ω 56))]) dX7_roundOf_1 rfl (Nat.le_of_ble_eq_true rfl) rfl (q := 2) rfl ?_
  refine e_iconst C dX7_roundOf_2 ic_0 (q := 3) rfl ?_
  refine e_istore_n C (lv1 := [(2, .int (0 : Int32)), (1, .int (0 : Int32)), (0, .ref (oA ω 56))]) dX7_roundOf_3 rfl (Nat.le_of_ble_eq_true rfl) rfl (q := 4) rfl ?_
  exact xb_X7_roundOf_b4 C hlau hret hn FU (0 : Int32) (0 : Int32) _
set_option maxHeartbeats 4000000 in
set_option maxRecDepth 100000 in
theorem x_X7_round {l : Launch} {ω : Om}  (hn : 75 ≤ oN ω)  {I : Mem} : CTi l ω yX7_round cX7_round 1 (some .int) 8 [.ref (oA ω 56)] (f_X7_round  I) I := by
  refine ct_i (by decide) (Nat.le_of_ble_eq_true rfl) ?_
  intro κ hlau hret C
  refine e_lv [0] (lv1 := [(0, .ref (oA ω 56))]) rfl ?_
  unfold f_X7_round
  refine e_aload_n C dX7_round_0 rfl 0 rfl (q := 1) rfl ?_
  refine e_getf C (k := 56) (j := 5) (T := TX7) (N := 32) (v := .int (I 56 5)) dX7_round_1 (ltL hn (Nat.le_of_ble_eq_true rfl)) rfl rfl (by decide) in_X7 w_767 rfl (q := 4) rfl ?_
  refine e_sipush C dX7_round_4 b16_999 (q := 7) rfl ?_
  refine e_icmpne C (tgt := 15) (q := 10) dX7_round_7 rfl rfl ?_ ?_
  · refine e_aload_n C dX7_round_15 rfl 0 rfl (q := 16) rfl ?_
    refine e_callVi C (l := l) (k := 56) (av := []) (st := []) hlau (x_X7_roundOf (l := l) (ω := ω) hn (I := I)) dX7_round_16 w_956 w_958 w_42 w_67 w_959 md_X7_roundOf (by decide) (by decide) rfl (ltL hn (Nat.le_of_ble_eq_true rfl)) rfl rfl (Nat.le_of_ble_eq_true rfl) (q := 19) rfl (fun v2 J1 => ?_)
    exact e_ireturn C dX7_round_19 hret rfl
  · refine e_bipush C dX7_round_10 b8_m3 (q := 12) rfl ?_
    refine e_goto C (tgt := 19) dX7_round_12 rfl ?_
    exact e_ireturn C dX7_round_19 hret rfl
set_option maxHeartbeats 4000000 in
set_option maxRecDepth 100000 in
theorem x_X7_bell {l : Launch} {ω : Om} {a1 : Int32} (hn : 75 ≤ oN ω)  {I : Mem} : CTi l ω yX7_bell cX7_bell 3 (some .int) 2 [.ref (oA ω 56), .int a1] (f_X7_bell a1 I) I := by
  refine ct_i (by decide) (Nat.le_of_ble_eq_true rfl) ?_
  intro κ hlau hret C
  refine e_lv [0, 1] (lv1 := [(0, .ref (oA ω 56)), (1, .int a1)]) rfl ?_
  unfold f_X7_bell
  refine e_iload_n C dX7_bell_0 rfl 1 rfl (q := 1) rfl ?_
  refine e_iconst C dX7_bell_1 ic_0 (q := 2) rfl ?_
  refine e_sipush C dX7_bell_2 b16_999 (q := 5) rfl ?_
  refine e_callSi C (l := l) (av := [.int a1, .int (0 : Int32), .int (999 : Int32)]) (st := []) hlau (x_X7_in (l := l) (ω := ω) (a0 := a1) (a1 := (0 : Int32)) (a2 := (999 : Int32)) hn (I := I)) dX7_bell_5 w_723 w_724 w_67 w_725 md_X7_in (by decide) (by decide) rfl (Nat.le_of_ble_eq_true rfl) (q := 8) rfl (fun v2 J1 => ?_)
  refine e_ifne C (tgt := 14) (q := 11) dX7_bell_8 rfl rfl ?_ ?_
  · refine e_aload_n C dX7_bell_14 rfl 0 rfl (q := 15) rfl ?_
    refine e_getf C (k := 56) (j := 5) (T := TX7) (N := 32) (v := .int (J1 56 5)) dX7_bell_15 (ltL hn (Nat.le_of_ble_eq_true rfl)) rfl rfl (by decide) in_X7 w_767 rfl (q := 18) rfl ?_
    refine e_nmi (fun v3 => ?_)
    refine e_istore_n C (lv1 := [(2, .int v3), (0, .ref (oA ω 56)), (1, .int a1)]) dX7_bell_18 rfl (Nat.le_of_ble_eq_true rfl) rfl (q := 19) rfl ?_
    refine e_aload_n C dX7_bell_19 rfl 1 rfl (q := 20) rfl ?_
    refine e_iload_n C dX7_bell_20 rfl 2 rfl (q := 21) rfl ?_
    refine e_putf C (k := 56) (j := 5) (T := TX7) (N := 32) dX7_bell_21 (ltL hn (Nat.le_of_ble_eq_true rfl)) rfl rfl (by decide) in_X7 w_767 tyX7_ok nmX7 rfl rfl rfl (show 5 < 32 by decide) (set_Mo_5_ _) (q := 24) rfl ?_
    refine e_nmM (fun J4 => ?_)
    refine e_iload_n C dX7_bell_24 rfl 0 rfl (q := 25) rfl ?_
    exact e_ireturn C dX7_bell_25 hret rfl
  · refine e_bipush C dX7_bell_11 b8_m2 (q := 13) rfl ?_
    exact e_ireturn C dX7_bell_13 hret rfl
set_option maxHeartbeats 4000000 in
set_option maxRecDepth 100000 in
theorem xb_X7_keeps_b28 {l : Launch} {κ : Kx} {ω : Om}  (C : CX κ ω cX7_keeps 2 1 yX7_keeps.cls) (hlau : κ.2.1 = l) (hret : κ.2.2.2.2.2.2.2.2.1.sig.returnType = none) (hn : 75 ≤ oN ω)  : ∀ (n : Nat) (x1 : Int32) (I : Mem), EE κ ω 2 (Gv κ ω) (f_X7_keeps_b28 n x1 I) I 28 [(1, .int x1), (0, .ref (oA ω 56))] [] := by
  intro n
  induction n with
  | zero => intro x1 I; exact e_none
  | succ n ih =>
    intro x1 I
    rw [f_X7_keeps_b28]
    refine e_iload_n C dX7_keeps_28 rfl 0 rfl (q := 29) rfl ?_
    refine e_bipush C dX7_keeps_29 b8_36 (q := 31) rfl ?_
    refine e_icmpge C (tgt := 55) (q := 34) dX7_keeps_31 rfl rfl ?_ ?_
    · refine e_aload_n C dX7_keeps_55 rfl 1 rfl (q := 56) rfl ?_
      refine e_getf C (k := 56) (j := 30) (T := TX7) (N := 32) (v := .ref (oA ω 74)) dX7_keeps_56 (ltL hn (Nat.le_of_ble_eq_true rfl)) rfl rfl (by decide) in_X7 w_792 rfl (q := 59) rfl ?_
      refine e_bipush C dX7_keeps_59 b8_60 (q := 61) rfl ?_
      refine e_aload_n C dX7_keeps_61 rfl 1 rfl (q := 62) rfl ?_
      refine e_getf C (k := 56) (j := 5) (T := TX7) (N := 32) (v := .int (I 56 5)) dX7_keeps_62 (ltL hn (Nat.le_of_ble_eq_true rfl)) rfl rfl (by decide) in_X7 w_767 rfl (q := 65) rfl ?_
      refine e_iast C (k := 74) (n := 61) dX7_keeps_65 (ltL hn (Nat.le_of_ble_eq_true rfl)) (fun _ => rfl) (q := 66) rfl ?_
      refine e_nmM (fun J1 => ?_)
      exact e_vreturn C dX7_keeps_66 hret
    · refine e_aload_n C dX7_keeps_34 rfl 1 rfl (q := 35) rfl ?_
      refine e_getf C (k := 56) (j := 30) (T := TX7) (N := 32) (v := .ref (oA ω 74)) dX7_keeps_35 (ltL hn (Nat.le_of_ble_eq_true rfl)) rfl rfl (by decide) in_X7 w_792 rfl (q := 38) rfl ?_
      refine e_bipush C dX7_keeps_38 b8_24 (q := 40) rfl ?_
      refine e_iload_n C dX7_keeps_40 rfl 0 rfl (q := 41) rfl ?_
      refine e_iadd C dX7_keeps_41 (q := 42) rfl ?_
      refine e_aload_n C dX7_keeps_42 rfl 1 rfl (q := 43) rfl ?_
      refine e_getf C (k := 56) (j := 4) (T := TX7) (N := 32) (v := .ref (oA ω 60)) dX7_keeps_43 (ltL hn (Nat.le_of_ble_eq_true rfl)) rfl rfl (by decide) in_X7 w_766 rfl (q := 46) rfl ?_
      refine e_iload_n C dX7_keeps_46 rfl 0 rfl (q := 47) rfl ?_
      refine e_iald C (k := 60) (n := 36) dX7_keeps_47 (ltL hn (Nat.le_of_ble_eq_true rfl)) rfl (q := 48) rfl ?_
      refine e_iast C (k := 74) (n := 61) dX7_keeps_48 (ltL hn (Nat.le_of_ble_eq_true rfl)) (fun _ => rfl) (q := 49) rfl ?_
      refine e_nmM (fun J2 => ?_)
      refine e_iinc C (v := x1 + (1 : Int32)) (lv1 := [(1, .int (x1 + (1 : Int32))), (0, .ref (oA ω 56))]) dX7_keeps_49 0 rfl (Nat.le_of_ble_eq_true rfl) (by rw [ic_1]) rfl (q := 52) rfl ?_
      refine e_goto C (tgt := 28) dX7_keeps_52 rfl ?_
      exact ih (x1 + (1 : Int32)) _
set_option maxHeartbeats 4000000 in
set_option maxRecDepth 100000 in
theorem xb_X7_keeps_b2 {l : Launch} {κ : Kx} {ω : Om}  (C : CX κ ω cX7_keeps 2 1 yX7_keeps.cls) (hlau : κ.2.1 = l) (hret : κ.2.2.2.2.2.2.2.2.1.sig.returnType = none) (hn : 75 ≤ oN ω)  : ∀ (n : Nat) (x1 : Int32) (I : Mem), EE κ ω 2 (Gv κ ω) (f_X7_keeps_b2 n x1 I) I 2 [(1, .int x1), (0, .ref (oA ω 56))] [] := by
  intro n
  induction n with
  | zero => intro x1 I; exact e_none
  | succ n ih =>
    intro x1 I
    rw [f_X7_keeps_b2]
    refine e_iload_n C dX7_keeps_2 rfl 0 rfl (q := 3) rfl ?_
    refine e_bipush C dX7_keeps_3 b8_24 (q := 5) rfl ?_
    refine e_icmpge C (tgt := 26) (q := 8) dX7_keeps_5 rfl rfl ?_ ?_
    · refine e_iconst C dX7_keeps_26 ic_0 (q := 27) rfl ?_
      refine e_istore_n C (lv1 := [(1, .int (0 : Int32)), (0, .ref (oA ω 56))]) dX7_keeps_27 rfl (Nat.le_of_ble_eq_true rfl) rfl (q := 28) rfl ?_
      exact xb_X7_keeps_b28 C hlau hret hn FU (0 : Int32) _
    · refine e_aload_n C dX7_keeps_8 rfl 1 rfl (q := 9) rfl ?_
      refine e_getf C (k := 56) (j := 30) (T := TX7) (N := 32) (v := .ref (oA ω 74)) dX7_keeps_9 (ltL hn (Nat.le_of_ble_eq_true rfl)) rfl rfl (by decide) in_X7 w_792 rfl (q := 12) rfl ?_
      refine e_iload_n C dX7_keeps_12 rfl 0 rfl (q := 13) rfl ?_
      refine e_aload_n C dX7_keeps_13 rfl 1 rfl (q := 14) rfl ?_
      refine e_getf C (k := 56) (j := 3) (T := TX7) (N := 32) (v := .ref (oA ω 59)) dX7_keeps_14 (ltL hn (Nat.le_of_ble_eq_true rfl)) rfl rfl (by decide) in_X7 w_765 rfl (q := 17) rfl ?_
      refine e_iload_n C dX7_keeps_17 rfl 0 rfl (q := 18) rfl ?_
      refine e_iald C (k := 59) (n := 24) dX7_keeps_18 (ltL hn (Nat.le_of_ble_eq_true rfl)) rfl (q := 19) rfl ?_
      refine e_iast C (k := 74) (n := 61) dX7_keeps_19 (ltL hn (Nat.le_of_ble_eq_true rfl)) (fun _ => rfl) (q := 20) rfl ?_
      refine e_nmM (fun J3 => ?_)
      refine e_iinc C (v := x1 + (1 : Int32)) (lv1 := [(1, .int (x1 + (1 : Int32))), (0, .ref (oA ω 56))]) dX7_keeps_20 0 rfl (Nat.le_of_ble_eq_true rfl) (by rw [ic_1]) rfl (q := 23) rfl ?_
      refine e_goto C (tgt := 2) dX7_keeps_23 rfl ?_
      exact ih (x1 + (1 : Int32)) _
set_option maxHeartbeats 4000000 in
set_option maxRecDepth 100000 in
theorem x_X7_keeps {l : Launch} {ω : Om}  (hn : 75 ≤ oN ω)  {I : Mem} : CTv l ω yX7_keeps cX7_keeps 2 none 1 [.ref (oA ω 56)] (f_X7_keeps  I) I := by
  refine ct_v (by decide) (Nat.le_of_ble_eq_true rfl) ?_
  intro κ hlau hret C
  refine e_lv [0] (lv1 := [(0, .ref (oA ω 56))]) rfl ?_
  unfold f_X7_keeps
  refine e_iconst C dX7_keeps_0 ic_0 (q := 1) rfl ?_
  refine e_istore_n C (lv1 := [(1, .int (0 : Int32)), (0, .ref (oA ω 56))]) dX7_keeps_1 rfl (Nat.le_of_ble_eq_true rfl) rfl (q := 2) rfl ?_
  exact xb_X7_keeps_b2 C hlau hret hn FU (0 : Int32) _
set_option maxHeartbeats 4000000 in
set_option maxRecDepth 100000 in
theorem xb_X7_lays_b28 {l : Launch} {κ : Kx} {ω : Om}  (C : CX κ ω cX7_lays 2 1 yX7_lays.cls) (hlau : κ.2.1 = l) (hret : κ.2.2.2.2.2.2.2.2.1.sig.returnType = none) (hn : 75 ≤ oN ω)  : ∀ (n : Nat) (x1 : Int32) (I : Mem), EE κ ω 2 (Gv κ ω) (f_X7_lays_b28 n x1 I) I 28 [(1, .int x1), (0, .ref (oA ω 56))] [] := by
  intro n
  induction n with
  | zero => intro x1 I; exact e_none
  | succ n ih =>
    intro x1 I
    rw [f_X7_lays_b28]
    refine e_iload_n C dX7_lays_28 rfl 0 rfl (q := 29) rfl ?_
    refine e_bipush C dX7_lays_29 b8_36 (q := 31) rfl ?_
    refine e_icmpge C (tgt := 55) (q := 34) dX7_lays_31 rfl rfl ?_ ?_
    · refine e_aload_n C dX7_lays_55 rfl 1 rfl (q := 56) rfl ?_
      refine e_aload_n C dX7_lays_56 rfl 1 rfl (q := 57) rfl ?_
      refine e_getf C (k := 56) (j := 30) (T := TX7) (N := 32) (v := .ref (oA ω 74)) dX7_lays_57 (ltL hn (Nat.le_of_ble_eq_true rfl)) rfl rfl (by decide) in_X7 w_792 rfl (q := 60) rfl ?_
      refine e_bipush C dX7_lays_60 b8_60 (q := 62) rfl ?_
      refine e_iald C (k := 74) (n := 61) dX7_lays_62 (ltL hn (Nat.le_of_ble_eq_true rfl)) rfl (q := 63) rfl ?_
      refine e_putf C (k := 56) (j := 5) (T := TX7) (N := 32) dX7_lays_63 (ltL hn (Nat.le_of_ble_eq_true rfl)) rfl rfl (by decide) in_X7 w_767 tyX7_ok nmX7 rfl rfl rfl (show 5 < 32 by decide) (set_Mo_5_ _) (q := 66) rfl ?_
      refine e_nmM (fun J1 => ?_)
      exact e_vreturn C dX7_lays_66 hret
    · refine e_aload_n C dX7_lays_34 rfl 1 rfl (q := 35) rfl ?_
      refine e_getf C (k := 56) (j := 4) (T := TX7) (N := 32) (v := .ref (oA ω 60)) dX7_lays_35 (ltL hn (Nat.le_of_ble_eq_true rfl)) rfl rfl (by decide) in_X7 w_766 rfl (q := 38) rfl ?_
      refine e_iload_n C dX7_lays_38 rfl 0 rfl (q := 39) rfl ?_
      refine e_aload_n C dX7_lays_39 rfl 1 rfl (q := 40) rfl ?_
      refine e_getf C (k := 56) (j := 30) (T := TX7) (N := 32) (v := .ref (oA ω 74)) dX7_lays_40 (ltL hn (Nat.le_of_ble_eq_true rfl)) rfl rfl (by decide) in_X7 w_792 rfl (q := 43) rfl ?_
      refine e_bipush C dX7_lays_43 b8_24 (q := 45) rfl ?_
      refine e_iload_n C dX7_lays_45 rfl 0 rfl (q := 46) rfl ?_
      refine e_iadd C dX7_lays_46 (q := 47) rfl ?_
      refine e_iald C (k := 74) (n := 61) dX7_lays_47 (ltL hn (Nat.le_of_ble_eq_true rfl)) rfl (q := 48) rfl ?_
      refine e_iast C (k := 60) (n := 36) dX7_lays_48 (ltL hn (Nat.le_of_ble_eq_true rfl)) (fun _ => rfl) (q := 49) rfl ?_
      refine e_nmM (fun J2 => ?_)
      refine e_iinc C (v := x1 + (1 : Int32)) (lv1 := [(1, .int (x1 + (1 : Int32))), (0, .ref (oA ω 56))]) dX7_lays_49 0 rfl (Nat.le_of_ble_eq_true rfl) (by rw [ic_1]) rfl (q := 52) rfl ?_
      refine e_goto C (tgt := 28) dX7_lays_52 rfl ?_
      exact ih (x1 + (1 : Int32)) _
set_option maxHeartbeats 4000000 in
set_option maxRecDepth 100000 in
theorem xb_X7_lays_b2 {l : Launch} {κ : Kx} {ω : Om}  (C : CX κ ω cX7_lays 2 1 yX7_lays.cls) (hlau : κ.2.1 = l) (hret : κ.2.2.2.2.2.2.2.2.1.sig.returnType = none) (hn : 75 ≤ oN ω)  : ∀ (n : Nat) (x1 : Int32) (I : Mem), EE κ ω 2 (Gv κ ω) (f_X7_lays_b2 n x1 I) I 2 [(1, .int x1), (0, .ref (oA ω 56))] [] := by
  intro n
  induction n with
  | zero => intro x1 I; exact e_none
  | succ n ih =>
    intro x1 I
    rw [f_X7_lays_b2]
    refine e_iload_n C dX7_lays_2 rfl 0 rfl (q := 3) rfl ?_
    refine e_bipush C dX7_lays_3 b8_24 (q := 5) rfl ?_
    refine e_icmpge C (tgt := 26) (q := 8) dX7_lays_5 rfl rfl ?_ ?_
    · refine e_iconst C dX7_lays_26 ic_0 (q := 27) rfl ?_
      refine e_istore_n C (lv1 := [(1, .int (0 : Int32)), (0, .ref (oA ω 56))]) dX7_lays_27 rfl (Nat.le_of_ble_eq_true rfl) rfl (q := 28) rfl ?_
      exact xb_X7_lays_b28 C hlau hret hn FU (0 : Int32) _
    · refine e_aload_n C dX7_lays_8 rfl 1 rfl (q := 9) rfl ?_
      refine e_getf C (k := 56) (j := 3) (T := TX7) (N := 32) (v := .ref (oA ω 59)) dX7_lays_9 (ltL hn (Nat.le_of_ble_eq_true rfl)) rfl rfl (by decide) in_X7 w_765 rfl (q := 12) rfl ?_
      refine e_iload_n C dX7_lays_12 rfl 0 rfl (q := 13) rfl ?_
      refine e_aload_n C dX7_lays_13 rfl 1 rfl (q := 14) rfl ?_
      refine e_getf C (k := 56) (j := 30) (T := TX7) (N := 32) (v := .ref (oA ω 74)) dX7_lays_14 (ltL hn (Nat.le_of_ble_eq_true rfl)) rfl rfl (by decide) in_X7 w_792 rfl (q := 17) rfl ?_
      refine e_iload_n C dX7_lays_17 rfl 0 rfl (q := 18) rfl ?_
      refine e_iald C (k := 74) (n := 61) dX7_lays_18 (ltL hn (Nat.le_of_ble_eq_true rfl)) rfl (q := 19) rfl ?_
      refine e_iast C (k := 59) (n := 24) dX7_lays_19 (ltL hn (Nat.le_of_ble_eq_true rfl)) (fun _ => rfl) (q := 20) rfl ?_
      refine e_nmM (fun J3 => ?_)
      refine e_iinc C (v := x1 + (1 : Int32)) (lv1 := [(1, .int (x1 + (1 : Int32))), (0, .ref (oA ω 56))]) dX7_lays_20 0 rfl (Nat.le_of_ble_eq_true rfl) (by rw [ic_1]) rfl (q := 23) rfl ?_
      refine e_goto C (tgt := 2) dX7_lays_23 rfl ?_
      exact ih (x1 + (1 : Int32)) _
set_option maxHeartbeats 4000000 in
set_option maxRecDepth 100000 in
theorem x_X7_lays {l : Launch} {ω : Om}  (hn : 75 ≤ oN ω)  {I : Mem} : CTv l ω yX7_lays cX7_lays 2 none 1 [.ref (oA ω 56)] (f_X7_lays  I) I := by
  refine ct_v (by decide) (Nat.le_of_ble_eq_true rfl) ?_
  intro κ hlau hret C
  refine e_lv [0] (lv1 := [(0, .ref (oA ω 56))]) rfl ?_
  unfold f_X7_lays
  refine e_iconst C dX7_lays_0 ic_0 (q := 1) rfl ?_
  refine e_istore_n C (lv1 := [(1, .int (0 : Int32)), (0, .ref (oA ω 56))]) dX7_lays_1 rfl (Nat.le_of_ble_eq_true rfl) rfl (q := 2) rfl ?_
  exact xb_X7_lays_b2 C hlau hret hn FU (0 : Int32) _
set_option maxHeartbeats 4000000 in
set_option maxRecDepth 100000 in
theorem xb_X7_passes_b2 {l : Launch} {κ : Kx} {ω : Om} {a1 : Int32} (C : CX κ ω cX7_passes 3 8 yX7_passes.cls) (hlau : κ.2.1 = l) (hret : κ.2.2.2.2.2.2.2.2.1.sig.returnType = none) (hn : 75 ≤ oN ω)  : ∀ (n : Nat) (x2 : Int32) (I : Mem), EE κ ω 3 (Gv κ ω) (f_X7_passes_b2 a1 n x2 I) I 2 [(2, .int x2), (0, .ref (oA ω 56)), (1, .int a1)] [] := by
  intro n
  induction n with
  | zero => intro x2 I; exact e_none
  | succ n ih =>
    intro x2 I
    rw [f_X7_passes_b2]
    refine e_iload_n C dX7_passes_2 rfl 0 rfl (q := 3) rfl ?_
    refine e_iload_n C dX7_passes_3 rfl 2 rfl (q := 4) rfl ?_
    refine e_icmpge C (tgt := 18) (q := 7) dX7_passes_4 rfl rfl ?_ ?_
    · exact e_vreturn C dX7_passes_18 hret
    · refine e_aload_n C dX7_passes_7 rfl 1 rfl (q := 8) rfl ?_
      refine e_callVi C (l := l) (k := 56) (av := []) (st := []) hlau (x_X7_roundOf (l := l) (ω := ω) hn (I := I)) dX7_passes_8 w_956 w_958 w_42 w_67 w_959 md_X7_roundOf (by decide) (by decide) rfl (ltL hn (Nat.le_of_ble_eq_true rfl)) rfl rfl (Nat.le_of_ble_eq_true rfl) (q := 11) rfl (fun v2 J1 => ?_)
      refine e_pop C dX7_passes_11 rfl (q := 12) rfl ?_
      refine e_iinc C (v := x2 + (1 : Int32)) (lv1 := [(2, .int (x2 + (1 : Int32))), (0, .ref (oA ω 56)), (1, .int a1)]) dX7_passes_12 0 rfl (Nat.le_of_ble_eq_true rfl) (by rw [ic_1]) rfl (q := 15) rfl ?_
      refine e_goto C (tgt := 2) dX7_passes_15 rfl ?_
      exact ih (x2 + (1 : Int32)) _
set_option maxHeartbeats 4000000 in
set_option maxRecDepth 100000 in
theorem x_X7_passes {l : Launch} {ω : Om} {a1 : Int32} (hn : 75 ≤ oN ω)  {I : Mem} : CTv l ω yX7_passes cX7_passes 3 none 8 [.ref (oA ω 56), .int a1] (f_X7_passes a1 I) I := by
  refine ct_v (by decide) (Nat.le_of_ble_eq_true rfl) ?_
  intro κ hlau hret C
  refine e_lv [0, 1] (lv1 := [(0, .ref (oA ω 56)), (1, .int a1)]) rfl ?_
  unfold f_X7_passes
  refine e_iconst C dX7_passes_0 ic_0 (q := 1) rfl ?_
  refine e_istore_n C (lv1 := [(2, .int (0 : Int32)), (0, .ref (oA ω 56)), (1, .int a1)]) dX7_passes_1 rfl (Nat.le_of_ble_eq_true rfl) rfl (q := 2) rfl ?_
  exact xb_X7_passes_b2 C hlau hret hn FU (0 : Int32) _
set_option maxHeartbeats 4000000 in
set_option maxRecDepth 100000 in
theorem xb_X7_run_b115 {l : Launch} {κ : Kx} {ω : Om} {a1 : Int32} {a2 : Int32} (C : CX κ ω cX7_run 5 9 yX7_run.cls) (hlau : κ.2.1 = l) (hret : κ.2.2.2.2.2.2.2.2.1.sig.returnType = (some .int)) (hn : 75 ≤ oN ω)  : ∀ (x4 : Int32) (I : Mem), EE κ ω 5 (Gi κ ω) (f_X7_run_b115 a1 a2 x4 I) I 115 [(4, .int x4), (0, .ref (oA ω 56))] [] := by
  intro x4 I
  unfold f_X7_run_b115
  refine e_aload_n C dX7_run_115 rfl 1 rfl (q := 116) rfl ?_
  refine e_callVv C (l := l) (k := 56) (av := []) (st := []) hlau (x_X7_lays (l := l) (ω := ω) hn (I := I)) dX7_run_116 w_988 w_990 w_48 w_67 w_991 md_X7_lays (by decide) (by decide) rfl (ltL hn (Nat.le_of_ble_eq_true rfl)) rfl rfl (Nat.le_of_ble_eq_true rfl) (q := 119) rfl (fun _ J9 => ?_)
  refine e_iload C dX7_run_119 0 rfl (q := 121) rfl ?_
  exact e_ireturn C dX7_run_121 hret rfl
set_option maxHeartbeats 4000000 in
set_option maxRecDepth 100000 in
theorem xb_X7_run_b111 {l : Launch} {κ : Kx} {ω : Om} {a1 : Int32} {a2 : Int32} (C : CX κ ω cX7_run 5 9 yX7_run.cls) (hlau : κ.2.1 = l) (hret : κ.2.2.2.2.2.2.2.2.1.sig.returnType = (some .int)) (hn : 75 ≤ oN ω)  : ∀ (s0 : Int32) (s1 : Int32) (I : Mem), EE κ ω 5 (Gi κ ω) (f_X7_run_b111 a1 a2 s0 s1 I) I 111 [(0, .ref (oA ω 56))] [.int s0, .int s1, .ref (oA ω 59)] := by
  intro s0 s1 I
  unfold f_X7_run_b111
  refine e_iadd C dX7_run_111 (q := 112) rfl ?_
  refine e_iald C (k := 59) (n := 24) dX7_run_112 (ltL hn (Nat.le_of_ble_eq_true rfl)) rfl (q := 113) rfl ?_
  refine e_nmi (fun v8 => ?_)
  refine e_istore C (lv1 := [(4, .int v8), (0, .ref (oA ω 56))]) dX7_run_113 (Nat.le_of_ble_eq_true rfl) rfl (q := 115) rfl ?_
  exact xb_X7_run_b115 C hlau hret hn v8 _
set_option maxHeartbeats 4000000 in
set_option maxRecDepth 100000 in
theorem xb_X7_run_b78 {l : Launch} {κ : Kx} {ω : Om} {a1 : Int32} {a2 : Int32} (C : CX κ ω cX7_run 5 9 yX7_run.cls) (hlau : κ.2.1 = l) (hret : κ.2.2.2.2.2.2.2.2.1.sig.returnType = (some .int)) (hn : 75 ≤ oN ω)  : ∀ (s0 : Int32) (I : Mem), EE κ ω 5 (Gi κ ω) (f_X7_run_b78 a1 a2 s0 I) I 78 [(0, .ref (oA ω 56))] [.int s0] := by
  intro s0 I
  unfold f_X7_run_b78
  refine e_istore C (lv1 := [(4, .int s0), (0, .ref (oA ω 56))]) dX7_run_78 (Nat.le_of_ble_eq_true rfl) rfl (q := 80) rfl ?_
  refine e_goto C (tgt := 115) dX7_run_80 rfl ?_
  exact xb_X7_run_b115 C hlau hret hn s0 _
set_option maxHeartbeats 4000000 in
set_option maxRecDepth 100000 in
theorem xb_X7_run_b46 {l : Launch} {κ : Kx} {ω : Om} {a1 : Int32} {a2 : Int32} (C : CX κ ω cX7_run 5 9 yX7_run.cls) (hlau : κ.2.1 = l) (hret : κ.2.2.2.2.2.2.2.2.1.sig.returnType = (some .int)) (hn : 75 ≤ oN ω)  : ∀ (x3 : Int32) (I : Mem), EE κ ω 5 (Gi κ ω) (f_X7_run_b46 a1 a2 x3 I) I 46 [(3, .int x3), (0, .ref (oA ω 56)), (1, .int a1), (2, .int a2)] [] := by
  intro x3 I
  unfold f_X7_run_b46
  refine e_aload_n C dX7_run_46 rfl 1 rfl (q := 47) rfl ?_
  refine e_callVv C (l := l) (k := 56) (av := []) (st := []) hlau (x_X7_keeps (l := l) (ω := ω) hn (I := I)) dX7_run_47 w_976 w_978 w_45 w_67 w_979 md_X7_keeps (by decide) (by decide) rfl (ltL hn (Nat.le_of_ble_eq_true rfl)) rfl rfl (Nat.le_of_ble_eq_true rfl) (q := 50) rfl (fun _ J6 => ?_)
  refine e_aload_n C dX7_run_50 rfl 1 rfl (q := 51) rfl ?_
  refine e_iload_n C dX7_run_51 rfl 2 rfl (q := 52) rfl ?_
  refine e_callVv C (l := l) (k := 56) (av := [.int a1]) (st := []) hlau (x_X7_passes (l := l) (ω := ω) (a1 := a1) hn (I := J6)) dX7_run_52 w_980 w_982 w_46 w_67 w_983 md_X7_passes (by decide) (by decide) rfl (ltL hn (Nat.le_of_ble_eq_true rfl)) rfl rfl (Nat.le_of_ble_eq_true rfl) (q := 55) rfl (fun _ J7 => ?_)
  refine e_iconst C dX7_run_55 ic_0 (q := 56) rfl ?_
  refine e_istore C (lv1 := [(4, .int (0 : Int32)), (3, .int x3), (0, .ref (oA ω 56)), (1, .int a1), (2, .int a2)]) dX7_run_56 (Nat.le_of_ble_eq_true rfl) rfl (q := 58) rfl ?_
  refine e_iload_n C dX7_run_58 rfl 4 rfl (q := 59) rfl ?_
  refine e_iconst C dX7_run_59 ic_2 (q := 60) rfl ?_
  refine e_icmpge C (tgt := 83) (q := 63) dX7_run_60 rfl rfl ?_ ?_
  · refine e_aload_n C dX7_run_83 rfl 2 rfl (q := 84) rfl ?_
    refine e_getf C (k := 56) (j := 3) (T := TX7) (N := 32) (v := .ref (oA ω 59)) dX7_run_84 (ltL hn (Nat.le_of_ble_eq_true rfl)) rfl rfl (by decide) in_X7 w_765 rfl (q := 87) rfl ?_
    refine e_iconst C dX7_run_87 ic_4 (q := 88) rfl ?_
    refine e_iload_n C dX7_run_88 rfl 1 rfl (q := 89) rfl ?_
    refine e_imul C dX7_run_89 (q := 90) rfl ?_
    refine e_iload_n C dX7_run_90 rfl 4 rfl (q := 91) rfl ?_
    refine e_bipush C dX7_run_91 b8_20 (q := 93) rfl ?_
    refine e_icmpge C (tgt := 100) (q := 96) dX7_run_93 rfl rfl ?_ ?_
    · refine e_iload_n C dX7_run_100 rfl 4 rfl (q := 101) rfl ?_
      refine e_bipush C dX7_run_101 b8_30 (q := 103) rfl ?_
      refine e_icmpge C (tgt := 110) (q := 106) dX7_run_103 rfl rfl ?_ ?_
      · refine e_iconst C dX7_run_110 ic_3 (q := 111) rfl ?_
        exact e_lv [2] (lv1 := [(0, .ref (oA ω 56))]) rfl (xb_X7_run_b111 C hlau hret hn (3 : Int32) ((4 : Int32) * x3) _)
      · refine e_iconst C dX7_run_106 ic_1 (q := 107) rfl ?_
        refine e_goto C (tgt := 111) dX7_run_107 rfl ?_
        exact e_lv [2] (lv1 := [(0, .ref (oA ω 56))]) rfl (xb_X7_run_b111 C hlau hret hn (1 : Int32) ((4 : Int32) * x3) _)
    · refine e_iconst C dX7_run_96 ic_0 (q := 97) rfl ?_
      refine e_goto C (tgt := 111) dX7_run_97 rfl ?_
      exact e_lv [2] (lv1 := [(0, .ref (oA ω 56))]) rfl (xb_X7_run_b111 C hlau hret hn (0 : Int32) ((4 : Int32) * x3) _)
  · refine e_iload_n C dX7_run_63 rfl 4 rfl (q := 64) rfl ?_
    refine e_ifne C (tgt := 74) (q := 67) dX7_run_64 rfl rfl ?_ ?_
    · refine e_aload_n C dX7_run_74 rfl 2 rfl (q := 75) rfl ?_
      refine e_callVi C (l := l) (k := 56) (av := []) (st := []) hlau (x_X7_talliesAll (l := l) (ω := ω) hn (I := J7)) dX7_run_75 w_984 w_986 w_47 w_67 w_987 md_X7_talliesAll (by decide) (by decide) rfl (ltL hn (Nat.le_of_ble_eq_true rfl)) rfl rfl (Nat.le_of_ble_eq_true rfl) (q := 78) rfl (fun v11 J10 => ?_)
      exact e_lv [2] (lv1 := [(0, .ref (oA ω 56))]) rfl (xb_X7_run_b78 C hlau hret hn v11 _)
    · refine e_aload_n C dX7_run_67 rfl 2 rfl (q := 68) rfl ?_
      refine e_callVi C (l := l) (k := 56) (av := []) (st := []) hlau (x_X7_upSet (l := l) (ω := ω) hn (I := J7)) dX7_run_68 w_863 w_865 w_30 w_67 w_866 md_X7_upSet (by decide) (by decide) rfl (ltL hn (Nat.le_of_ble_eq_true rfl)) rfl rfl (Nat.le_of_ble_eq_true rfl) (q := 71) rfl (fun v13 J12 => ?_)
      refine e_goto C (tgt := 78) dX7_run_71 rfl ?_
      exact e_lv [2] (lv1 := [(0, .ref (oA ω 56))]) rfl (xb_X7_run_b78 C hlau hret hn v13 _)
set_option maxHeartbeats 4000000 in
set_option maxRecDepth 100000 in
theorem x_X7_run {l : Launch} {ω : Om} {a1 : Int32} {a2 : Int32} (hn : 75 ≤ oN ω)  {I : Mem} : CTi l ω yX7_run cX7_run 5 (some .int) 9 [.ref (oA ω 56), .int a1, .int a2] (f_X7_run a1 a2 I) I := by
  refine ct_i (by decide) (Nat.le_of_ble_eq_true rfl) ?_
  intro κ hlau hret C
  refine e_lv [0, 1, 2] (lv1 := [(0, .ref (oA ω 56)), (1, .int a1), (2, .int a2)]) rfl ?_
  unfold f_X7_run
  refine e_iload_n C dX7_run_0 rfl 2 rfl (q := 1) rfl ?_
  refine e_bipush C dX7_run_1 b8_10 (q := 3) rfl ?_
  refine e_irem C dX7_run_3 (by decide) (q := 4) rfl ?_
  refine e_nmi (fun v1 => ?_)
  refine e_istore_n C (lv1 := [(3, .int v1), (0, .ref (oA ω 56)), (1, .int a1), (2, .int a2)]) dX7_run_4 rfl (Nat.le_of_ble_eq_true rfl) rfl (q := 5) rfl ?_
  refine e_iload_n C dX7_run_5 rfl 2 rfl (q := 6) rfl ?_
  refine e_iconst C dX7_run_6 ic_0 (q := 7) rfl ?_
  refine e_bipush C dX7_run_7 b8_60 (q := 9) rfl ?_
  refine e_callSi C (l := l) (av := [.int a1, .int (0 : Int32), .int (60 : Int32)]) (st := []) hlau (x_X7_in (l := l) (ω := ω) (a0 := a1) (a1 := (0 : Int32)) (a2 := (60 : Int32)) hn (I := I)) dX7_run_9 w_723 w_724 w_67 w_725 md_X7_in (by decide) (by decide) rfl (Nat.le_of_ble_eq_true rfl) (q := 12) rfl (fun v3 J2 => ?_)
  refine e_ifeq C (tgt := 43) (q := 15) dX7_run_12 rfl rfl ?_ ?_
  · refine e_bipush C dX7_run_43 b8_m2 (q := 45) rfl ?_
    exact e_ireturn C dX7_run_45 hret rfl
  · refine e_iload_n C dX7_run_15 rfl 3 rfl (q := 16) rfl ?_
    refine e_iconst C dX7_run_16 ic_0 (q := 17) rfl ?_
    refine e_iconst C dX7_run_17 ic_1 (q := 18) rfl ?_
    refine e_callSi C (l := l) (av := [.int a2, .int (0 : Int32), .int (1 : Int32)]) (st := []) hlau (x_X7_in (l := l) (ω := ω) (a0 := a2) (a1 := (0 : Int32)) (a2 := (1 : Int32)) hn (I := J2)) dX7_run_18 w_723 w_724 w_67 w_725 md_X7_in (by decide) (by decide) rfl (Nat.le_of_ble_eq_true rfl) (q := 21) rfl (fun v5 J4 => ?_)
    refine e_ifne C (tgt := 46) (q := 24) dX7_run_21 rfl rfl ?_ ?_
    · exact xb_X7_run_b46 C hlau hret hn v1 _
    · refine e_iload_n C dX7_run_24 rfl 3 rfl (q := 25) rfl ?_
      refine e_bipush C dX7_run_25 b8_10 (q := 27) rfl ?_
      refine e_bipush C dX7_run_27 b8_39 (q := 29) rfl ?_
      refine e_callSi C (l := l) (av := [.int a2, .int (10 : Int32), .int (39 : Int32)]) (st := []) hlau (x_X7_in (l := l) (ω := ω) (a0 := a2) (a1 := (10 : Int32)) (a2 := (39 : Int32)) hn (I := J4)) dX7_run_29 w_723 w_724 w_67 w_725 md_X7_in (by decide) (by decide) rfl (Nat.le_of_ble_eq_true rfl) (q := 32) rfl (fun v15 J14 => ?_)
      refine e_ifeq C (tgt := 43) (q := 35) dX7_run_32 rfl rfl ?_ ?_
      · refine e_bipush C dX7_run_43 b8_m2 (q := 45) rfl ?_
        exact e_ireturn C dX7_run_45 hret rfl
      · refine e_aload_n C dX7_run_35 rfl 1 rfl (q := 36) rfl ?_
        refine e_iload_n C dX7_run_36 rfl 0 rfl (q := 37) rfl ?_
        refine e_callVi C (l := l) (k := 56) (av := [.int v1]) (st := []) hlau (x_X7_isOne (l := l) (ω := ω) (a1 := v1) hn (I := J14)) dX7_run_37 w_890 w_892 w_32 w_67 w_893 md_X7_isOne (by decide) (by decide) rfl (ltL hn (Nat.le_of_ble_eq_true rfl)) rfl rfl (Nat.le_of_ble_eq_true rfl) (q := 40) rfl (fun v17 J16 => ?_)
        refine e_ifne C (tgt := 46) (q := 43) dX7_run_40 rfl rfl ?_ ?_
        · exact xb_X7_run_b46 C hlau hret hn v1 _
        · refine e_bipush C dX7_run_43 b8_m2 (q := 45) rfl ?_
          exact e_ireturn C dX7_run_45 hret rfl
set_option maxHeartbeats 4000000 in
set_option maxRecDepth 100000 in
theorem xb_X7_when_b112 {l : Launch} {κ : Kx} {ω : Om} {a1 : Int32} (C : CX κ ω cX7_when 5 8 yX7_when.cls) (hlau : κ.2.1 = l) (hret : κ.2.2.2.2.2.2.2.2.1.sig.returnType = (some .int)) (hn : 75 ≤ oN ω)  : ∀ (x2 : Int32) (I : Mem), EE κ ω 5 (Gi κ ω) (f_X7_when_b112 a1 x2 I) I 112 [(2, .int x2), (0, .ref (oA ω 56))] [] := by
  intro x2 I
  unfold f_X7_when_b112
  refine e_aload_n C dX7_when_112 rfl 1 rfl (q := 113) rfl ?_
  refine e_callVv C (l := l) (k := 56) (av := []) (st := []) hlau (x_X7_lays (l := l) (ω := ω) hn (I := I)) dX7_when_113 w_988 w_990 w_48 w_67 w_991 md_X7_lays (by decide) (by decide) rfl (ltL hn (Nat.le_of_ble_eq_true rfl)) rfl rfl (Nat.le_of_ble_eq_true rfl) (q := 116) rfl (fun _ J2 => ?_)
  refine e_iload_n C dX7_when_116 rfl 0 rfl (q := 117) rfl ?_
  exact e_ireturn C dX7_when_117 hret rfl
set_option maxHeartbeats 4000000 in
set_option maxRecDepth 100000 in
theorem xb_X7_when_b100 {l : Launch} {κ : Kx} {ω : Om} {a1 : Int32} (C : CX κ ω cX7_when 5 8 yX7_when.cls) (hlau : κ.2.1 = l) (hret : κ.2.2.2.2.2.2.2.2.1.sig.returnType = (some .int)) (hn : 75 ≤ oN ω)  {K34 : Int32 → Int32 → Mem → Option (Int32 × Mem)} (hK34 : ∀ (x3 : Int32) (x2 : Int32) (J : Mem), EE κ ω 5 (Gi κ ω) (K34 x3 x2 J) J 34 [(3, .int x3), (2, .int x2), (0, .ref (oA ω 56)), (1, .int a1)] []) : ∀ (x3 : Int32) (s0 : Int32) (I : Mem), EE κ ω 5 (Gi κ ω) (f_X7_when_b100 a1 K34 x3 s0 I) I 100 [(3, .int x3), (0, .ref (oA ω 56)), (1, .int a1)] [.int s0] := by
  intro x3 s0 I
  unfold f_X7_when_b100
  refine e_istore_n C (lv1 := [(2, .int s0), (3, .int x3), (0, .ref (oA ω 56)), (1, .int a1)]) dX7_when_100 rfl (Nat.le_of_ble_eq_true rfl) rfl (q := 101) rfl ?_
  refine e_aload_n C dX7_when_101 rfl 2 rfl (q := 102) rfl ?_
  refine e_callVi C (l := l) (k := 56) (av := []) (st := []) hlau (x_X7_roundOf (l := l) (ω := ω) hn (I := I)) dX7_when_102 w_956 w_958 w_42 w_67 w_959 md_X7_roundOf (by decide) (by decide) rfl (ltL hn (Nat.le_of_ble_eq_true rfl)) rfl rfl (Nat.le_of_ble_eq_true rfl) (q := 105) rfl (fun v8 J7 => ?_)
  refine e_pop C dX7_when_105 rfl (q := 106) rfl ?_
  refine e_iinc C (v := x3 + (1 : Int32)) (lv1 := [(3, .int (x3 + (1 : Int32))), (2, .int s0), (0, .ref (oA ω 56)), (1, .int a1)]) dX7_when_106 1 rfl (Nat.le_of_ble_eq_true rfl) (by rw [ic_1]) rfl (q := 109) rfl ?_
  refine e_goto C (tgt := 34) dX7_when_109 rfl ?_
  exact hK34 (x3 + (1 : Int32)) s0 _
set_option maxHeartbeats 4000000 in
set_option maxRecDepth 100000 in
theorem xb_X7_when_b88 {l : Launch} {κ : Kx} {ω : Om} {a1 : Int32} (C : CX κ ω cX7_when 5 8 yX7_when.cls) (hlau : κ.2.1 = l) (hret : κ.2.2.2.2.2.2.2.2.1.sig.returnType = (some .int)) (hn : 75 ≤ oN ω)  {K34 : Int32 → Int32 → Mem → Option (Int32 × Mem)} (hK34 : ∀ (x3 : Int32) (x2 : Int32) (J : Mem), EE κ ω 5 (Gi κ ω) (K34 x3 x2 J) J 34 [(3, .int x3), (2, .int x2), (0, .ref (oA ω 56)), (1, .int a1)] []) : ∀ (x3 : Int32) (s0 : Int32) (I : Mem), EE κ ω 5 (Gi κ ω) (f_X7_when_b88 a1 K34 x3 s0 I) I 88 [(3, .int x3), (0, .ref (oA ω 56)), (1, .int a1)] [.int s0] := by
  intro x3 s0 I
  unfold f_X7_when_b88
  refine e_istore C (lv1 := [(4, .int s0), (3, .int x3), (0, .ref (oA ω 56)), (1, .int a1)]) dX7_when_88 (Nat.le_of_ble_eq_true rfl) rfl (q := 90) rfl ?_
  refine e_iload C dX7_when_90 0 rfl (q := 92) rfl ?_
  refine e_ifeq C (tgt := 99) (q := 95) dX7_when_92 rfl rfl ?_ ?_
  · refine e_iconst C dX7_when_99 ic_m1 (q := 100) rfl ?_
    exact e_lv [1, 2, 3] (lv1 := [(3, .int x3), (0, .ref (oA ω 56)), (1, .int a1)]) rfl (xb_X7_when_b100 C hlau hret hn hK34 x3 (-1 : Int32) _)
  · refine e_iload_n C dX7_when_95 rfl 1 rfl (q := 96) rfl ?_
    refine e_goto C (tgt := 100) dX7_when_96 rfl ?_
    exact e_lv [1, 2, 3] (lv1 := [(3, .int x3), (0, .ref (oA ω 56)), (1, .int a1)]) rfl (xb_X7_when_b100 C hlau hret hn hK34 x3 x3 _)
set_option maxHeartbeats 4000000 in
set_option maxRecDepth 100000 in
theorem xb_X7_when_b34 {l : Launch} {κ : Kx} {ω : Om} {a1 : Int32} (C : CX κ ω cX7_when 5 8 yX7_when.cls) (hlau : κ.2.1 = l) (hret : κ.2.2.2.2.2.2.2.2.1.sig.returnType = (some .int)) (hn : 75 ≤ oN ω)  : ∀ (n : Nat) (x3 : Int32) (x2 : Int32) (I : Mem), EE κ ω 5 (Gi κ ω) (f_X7_when_b34 a1 n x3 x2 I) I 34 [(3, .int x3), (2, .int x2), (0, .ref (oA ω 56)), (1, .int a1)] [] := by
  intro n
  induction n with
  | zero => intro x3 x2 I; exact e_none
  | succ n ih =>
    intro x3 x2 I
    rw [f_X7_when_b34]
    refine e_iload_n C dX7_when_34 rfl 0 rfl (q := 35) rfl ?_
    refine e_bipush C dX7_when_35 b8_60 (q := 37) rfl ?_
    refine e_icmpgt C (tgt := 112) (q := 40) dX7_when_37 rfl rfl ?_ ?_
    · exact e_lv [1, 2] (lv1 := [(2, .int x2), (0, .ref (oA ω 56))]) rfl (xb_X7_when_b112 C hlau hret hn x2 _)
    · refine e_iload_n C dX7_when_40 rfl 1 rfl (q := 41) rfl ?_
      refine e_iconst C dX7_when_41 ic_m1 (q := 42) rfl ?_
      refine e_icmpne C (tgt := 112) (q := 45) dX7_when_42 rfl rfl ?_ ?_
      · exact e_lv [1, 2] (lv1 := [(2, .int x2), (0, .ref (oA ω 56))]) rfl (xb_X7_when_b112 C hlau hret hn x2 _)
      · refine e_iload_n C dX7_when_45 rfl 3 rfl (q := 46) rfl ?_
        refine e_bipush C dX7_when_46 b8_6 (q := 48) rfl ?_
        refine e_icmpne C (tgt := 70) (q := 51) dX7_when_48 rfl rfl ?_ ?_
        · refine e_aload_n C dX7_when_70 rfl 2 rfl (q := 71) rfl ?_
          refine e_iload_n C dX7_when_71 rfl 3 rfl (q := 72) rfl ?_
          refine e_iconst C dX7_when_72 ic_0 (q := 73) rfl ?_
          refine e_iconst C dX7_when_73 ic_5 (q := 74) rfl ?_
          refine e_callSi C (l := l) (av := [.int a1, .int (0 : Int32), .int (5 : Int32)]) (st := [.ref (oA ω 56)]) hlau (x_X7_within (l := l) (ω := ω) (a0 := a1) (a1 := (0 : Int32)) (a2 := (5 : Int32)) hn (I := I)) dX7_when_74 w_905 w_906 w_67 w_907 md_X7_within (by decide) (by decide) rfl (Nat.le_of_ble_eq_true rfl) (q := 77) rfl (fun v4 J3 => ?_)
          refine e_callVi C (l := l) (k := 56) (av := [.int v4]) (st := []) hlau (x_X7_isUp (l := l) (ω := ω) (a1 := v4) hn (I := J3)) dX7_when_77 w_867 w_869 w_31 w_67 w_870 md_X7_isUp (by decide) (by decide) rfl (ltL hn (Nat.le_of_ble_eq_true rfl)) rfl rfl (Nat.le_of_ble_eq_true rfl) (q := 80) rfl (fun v6 J5 => ?_)
          refine e_ifne C (tgt := 87) (q := 83) dX7_when_80 rfl rfl ?_ ?_
          · refine e_iconst C dX7_when_87 ic_0 (q := 88) rfl ?_
            exact e_lv [0, 2, 3] (lv1 := [(3, .int x3), (0, .ref (oA ω 56)), (1, .int a1)]) rfl (xb_X7_when_b88 C hlau hret hn ih x3 (0 : Int32) _)
          · refine e_iconst C dX7_when_83 ic_1 (q := 84) rfl ?_
            refine e_goto C (tgt := 88) dX7_when_84 rfl ?_
            exact e_lv [0, 2, 3] (lv1 := [(3, .int x3), (0, .ref (oA ω 56)), (1, .int a1)]) rfl (xb_X7_when_b88 C hlau hret hn ih x3 (1 : Int32) _)
        · refine e_aload_n C dX7_when_51 rfl 2 rfl (q := 52) rfl ?_
          refine e_callVi C (l := l) (k := 56) (av := []) (st := []) hlau (x_X7_upSet (l := l) (ω := ω) hn (I := I)) dX7_when_52 w_863 w_865 w_30 w_67 w_866 md_X7_upSet (by decide) (by decide) rfl (ltL hn (Nat.le_of_ble_eq_true rfl)) rfl rfl (Nat.le_of_ble_eq_true rfl) (q := 55) rfl (fun v10 J9 => ?_)
          refine e_callSi C (l := l) (av := [.int v10]) (st := []) hlau (x_X7_onesOf (l := l) (ω := ω) (a0 := v10) hn (I := J9)) dX7_when_55 w_871 w_872 w_67 w_873 md_X7_onesOf (by decide) (by decide) rfl (Nat.le_of_ble_eq_true rfl) (q := 58) rfl (fun v12 J11 => ?_)
          refine e_iconst C dX7_when_58 ic_2 (q := 59) rfl ?_
          refine e_icmpge C (tgt := 66) (q := 62) dX7_when_59 rfl rfl ?_ ?_
          · refine e_iconst C dX7_when_66 ic_0 (q := 67) rfl ?_
            refine e_goto C (tgt := 88) dX7_when_67 rfl ?_
            exact e_lv [0, 2, 3] (lv1 := [(3, .int x3), (0, .ref (oA ω 56)), (1, .int a1)]) rfl (xb_X7_when_b88 C hlau hret hn ih x3 (0 : Int32) _)
          · refine e_iconst C dX7_when_62 ic_1 (q := 63) rfl ?_
            refine e_goto C (tgt := 88) dX7_when_63 rfl ?_
            exact e_lv [0, 2, 3] (lv1 := [(3, .int x3), (0, .ref (oA ω 56)), (1, .int a1)]) rfl (xb_X7_when_b88 C hlau hret hn ih x3 (1 : Int32) _)
set_option maxHeartbeats 4000000 in
set_option maxRecDepth 100000 in
theorem xb_X7_when_b26 {l : Launch} {κ : Kx} {ω : Om} {a1 : Int32} (C : CX κ ω cX7_when 5 8 yX7_when.cls) (hlau : κ.2.1 = l) (hret : κ.2.2.2.2.2.2.2.2.1.sig.returnType = (some .int)) (hn : 75 ≤ oN ω)  : ∀  (I : Mem), EE κ ω 5 (Gi κ ω) (f_X7_when_b26 a1  I) I 26 [(0, .ref (oA ω 56)), (1, .int a1)] [] := by
  intro  I
  unfold f_X7_when_b26
  refine e_iconst C dX7_when_26 ic_m1 (q := 27) rfl ?_
  refine e_istore_n C (lv1 := [(2, .int (-1 : Int32)), (0, .ref (oA ω 56)), (1, .int a1)]) dX7_when_27 rfl (Nat.le_of_ble_eq_true rfl) rfl (q := 28) rfl ?_
  refine e_aload_n C dX7_when_28 rfl 1 rfl (q := 29) rfl ?_
  refine e_callVv C (l := l) (k := 56) (av := []) (st := []) hlau (x_X7_keeps (l := l) (ω := ω) hn (I := I)) dX7_when_29 w_976 w_978 w_45 w_67 w_979 md_X7_keeps (by decide) (by decide) rfl (ltL hn (Nat.le_of_ble_eq_true rfl)) rfl rfl (Nat.le_of_ble_eq_true rfl) (q := 32) rfl (fun _ J1 => ?_)
  refine e_iconst C dX7_when_32 ic_0 (q := 33) rfl ?_
  refine e_istore_n C (lv1 := [(3, .int (0 : Int32)), (2, .int (-1 : Int32)), (0, .ref (oA ω 56)), (1, .int a1)]) dX7_when_33 rfl (Nat.le_of_ble_eq_true rfl) rfl (q := 34) rfl ?_
  exact xb_X7_when_b34 C hlau hret hn FU (0 : Int32) (-1 : Int32) _
set_option maxHeartbeats 4000000 in
set_option maxRecDepth 100000 in
theorem x_X7_when {l : Launch} {ω : Om} {a1 : Int32} (hn : 75 ≤ oN ω)  {I : Mem} : CTi l ω yX7_when cX7_when 5 (some .int) 8 [.ref (oA ω 56), .int a1] (f_X7_when a1 I) I := by
  refine ct_i (by decide) (Nat.le_of_ble_eq_true rfl) ?_
  intro κ hlau hret C
  refine e_lv [0, 1] (lv1 := [(0, .ref (oA ω 56)), (1, .int a1)]) rfl ?_
  unfold f_X7_when
  refine e_iload_n C dX7_when_0 rfl 1 rfl (q := 1) rfl ?_
  refine e_bipush C dX7_when_1 b8_6 (q := 3) rfl ?_
  refine e_icmpeq C (tgt := 26) (q := 6) dX7_when_3 rfl rfl ?_ ?_
  · exact xb_X7_when_b26 C hlau hret hn _
  · refine e_iload_n C dX7_when_6 rfl 1 rfl (q := 7) rfl ?_
    refine e_iconst C dX7_when_7 ic_0 (q := 8) rfl ?_
    refine e_iconst C dX7_when_8 ic_5 (q := 9) rfl ?_
    refine e_callSi C (l := l) (av := [.int a1, .int (0 : Int32), .int (5 : Int32)]) (st := []) hlau (x_X7_in (l := l) (ω := ω) (a0 := a1) (a1 := (0 : Int32)) (a2 := (5 : Int32)) hn (I := I)) dX7_when_9 w_723 w_724 w_67 w_725 md_X7_in (by decide) (by decide) rfl (Nat.le_of_ble_eq_true rfl) (q := 12) rfl (fun v14 J13 => ?_)
    refine e_ifeq C (tgt := 23) (q := 15) dX7_when_12 rfl rfl ?_ ?_
    · refine e_bipush C dX7_when_23 b8_m5 (q := 25) rfl ?_
      exact e_ireturn C dX7_when_25 hret rfl
    · refine e_aload_n C dX7_when_15 rfl 0 rfl (q := 16) rfl ?_
      refine e_iload_n C dX7_when_16 rfl 1 rfl (q := 17) rfl ?_
      refine e_callVi C (l := l) (k := 56) (av := [.int a1]) (st := []) hlau (x_X7_isOne (l := l) (ω := ω) (a1 := a1) hn (I := J13)) dX7_when_17 w_890 w_892 w_32 w_67 w_893 md_X7_isOne (by decide) (by decide) rfl (ltL hn (Nat.le_of_ble_eq_true rfl)) rfl rfl (Nat.le_of_ble_eq_true rfl) (q := 20) rfl (fun v16 J15 => ?_)
      refine e_ifne C (tgt := 26) (q := 23) dX7_when_20 rfl rfl ?_ ?_
      · exact xb_X7_when_b26 C hlau hret hn _
      · refine e_bipush C dX7_when_23 b8_m5 (q := 25) rfl ?_
        exact e_ireturn C dX7_when_25 hret rfl
set_option maxHeartbeats 4000000 in
set_option maxRecDepth 100000 in
theorem xb_X7_mostFelt_b73 {l : Launch} {κ : Kx} {ω : Om}  (C : CX κ ω cX7_mostFelt 4 2 yX7_mostFelt.cls) (hlau : κ.2.1 = l) (hret : κ.2.2.2.2.2.2.2.2.1.sig.returnType = (some .int)) (hn : 75 ≤ oN ω)  {K4 : Int32 → Int32 → Mem → Option (Int32 × Mem)} (hK4 : ∀ (x2 : Int32) (x1 : Int32) (J : Mem), EE κ ω 4 (Gi κ ω) (K4 x2 x1 J) J 4 [(2, .int x2), (1, .int x1), (0, .ref (oA ω 56))] []) : ∀ (x2 : Int32) (s0 : Int32) (I : Mem), EE κ ω 4 (Gi κ ω) (f_X7_mostFelt_b73 K4 x2 s0 I) I 73 [(2, .int x2), (0, .ref (oA ω 56))] [.int s0] := by
  intro x2 s0 I
  unfold f_X7_mostFelt_b73
  refine e_istore_n C (lv1 := [(1, .int s0), (2, .int x2), (0, .ref (oA ω 56))]) dX7_mostFelt_73 rfl (Nat.le_of_ble_eq_true rfl) rfl (q := 74) rfl ?_
  refine e_iinc C (v := x2 + (1 : Int32)) (lv1 := [(2, .int (x2 + (1 : Int32))), (1, .int s0), (0, .ref (oA ω 56))]) dX7_mostFelt_74 1 rfl (Nat.le_of_ble_eq_true rfl) (by rw [ic_1]) rfl (q := 77) rfl ?_
  refine e_goto C (tgt := 4) dX7_mostFelt_77 rfl ?_
  exact hK4 (x2 + (1 : Int32)) s0 _
set_option maxHeartbeats 4000000 in
set_option maxRecDepth 100000 in
theorem xb_X7_mostFelt_b64 {l : Launch} {κ : Kx} {ω : Om}  (C : CX κ ω cX7_mostFelt 4 2 yX7_mostFelt.cls) (hlau : κ.2.1 = l) (hret : κ.2.2.2.2.2.2.2.2.1.sig.returnType = (some .int)) (hn : 75 ≤ oN ω)  {K4 : Int32 → Int32 → Mem → Option (Int32 × Mem)} (hK4 : ∀ (x2 : Int32) (x1 : Int32) (J : Mem), EE κ ω 4 (Gi κ ω) (K4 x2 x1 J) J 4 [(2, .int x2), (1, .int x1), (0, .ref (oA ω 56))] []) : ∀ (x3 : Int32) (x2 : Int32) (x1 : Int32) (I : Mem), EE κ ω 4 (Gi κ ω) (f_X7_mostFelt_b64 K4 x3 x2 x1 I) I 64 [(3, .int x3), (2, .int x2), (1, .int x1), (0, .ref (oA ω 56))] [] := by
  intro x3 x2 x1 I
  unfold f_X7_mostFelt_b64
  refine e_iload_n C dX7_mostFelt_64 rfl 0 rfl (q := 65) rfl ?_
  refine e_ifeq C (tgt := 72) (q := 68) dX7_mostFelt_65 rfl rfl ?_ ?_
  · refine e_iload_n C dX7_mostFelt_72 rfl 2 rfl (q := 73) rfl ?_
    exact e_lv [1, 3] (lv1 := [(2, .int x2), (0, .ref (oA ω 56))]) rfl (xb_X7_mostFelt_b73 C hlau hret hn hK4 x2 x1 _)
  · refine e_iload_n C dX7_mostFelt_68 rfl 1 rfl (q := 69) rfl ?_
    refine e_goto C (tgt := 73) dX7_mostFelt_69 rfl ?_
    exact e_lv [1, 3] (lv1 := [(2, .int x2), (0, .ref (oA ω 56))]) rfl (xb_X7_mostFelt_b73 C hlau hret hn hK4 x2 x2 _)
set_option maxHeartbeats 4000000 in
set_option maxRecDepth 100000 in
theorem xb_X7_mostFelt_b63 {l : Launch} {κ : Kx} {ω : Om}  (C : CX κ ω cX7_mostFelt 4 2 yX7_mostFelt.cls) (hlau : κ.2.1 = l) (hret : κ.2.2.2.2.2.2.2.2.1.sig.returnType = (some .int)) (hn : 75 ≤ oN ω)  {K4 : Int32 → Int32 → Mem → Option (Int32 × Mem)} (hK4 : ∀ (x2 : Int32) (x1 : Int32) (J : Mem), EE κ ω 4 (Gi κ ω) (K4 x2 x1 J) J 4 [(2, .int x2), (1, .int x1), (0, .ref (oA ω 56))] []) : ∀ (x2 : Int32) (x1 : Int32) (s0 : Int32) (I : Mem), EE κ ω 4 (Gi κ ω) (f_X7_mostFelt_b63 K4 x2 x1 s0 I) I 63 [(2, .int x2), (1, .int x1), (0, .ref (oA ω 56))] [.int s0] := by
  intro x2 x1 s0 I
  unfold f_X7_mostFelt_b63
  refine e_istore_n C (lv1 := [(3, .int s0), (2, .int x2), (1, .int x1), (0, .ref (oA ω 56))]) dX7_mostFelt_63 rfl (Nat.le_of_ble_eq_true rfl) rfl (q := 64) rfl ?_
  exact xb_X7_mostFelt_b64 C hlau hret hn hK4 s0 x2 x1 _
set_option maxHeartbeats 4000000 in
set_option maxRecDepth 100000 in
theorem xb_X7_mostFelt_b30 {l : Launch} {κ : Kx} {ω : Om}  (C : CX κ ω cX7_mostFelt 4 2 yX7_mostFelt.cls) (hlau : κ.2.1 = l) (hret : κ.2.2.2.2.2.2.2.2.1.sig.returnType = (some .int)) (hn : 75 ≤ oN ω)  {K4 : Int32 → Int32 → Mem → Option (Int32 × Mem)} (hK4 : ∀ (x2 : Int32) (x1 : Int32) (J : Mem), EE κ ω 4 (Gi κ ω) (K4 x2 x1 J) J 4 [(2, .int x2), (1, .int x1), (0, .ref (oA ω 56))] []) : ∀ (x2 : Int32) (x1 : Int32) (s0 : Int32) (I : Mem), EE κ ω 4 (Gi κ ω) (f_X7_mostFelt_b30 K4 x2 x1 s0 I) I 30 [(2, .int x2), (1, .int x1), (0, .ref (oA ω 56))] [.int s0] := by
  intro x2 x1 s0 I
  unfold f_X7_mostFelt_b30
  refine e_istore_n C (lv1 := [(3, .int s0), (2, .int x2), (1, .int x1), (0, .ref (oA ω 56))]) dX7_mostFelt_30 rfl (Nat.le_of_ble_eq_true rfl) rfl (q := 31) rfl ?_
  refine e_iload_n C dX7_mostFelt_31 rfl 0 rfl (q := 32) rfl ?_
  refine e_ifne C (tgt := 64) (q := 35) dX7_mostFelt_32 rfl rfl ?_ ?_
  · exact xb_X7_mostFelt_b64 C hlau hret hn hK4 s0 x2 x1 _
  · refine e_aload_n C dX7_mostFelt_35 rfl 3 rfl (q := 36) rfl ?_
    refine e_getf C (k := 56) (j := 3) (T := TX7) (N := 32) (v := .ref (oA ω 59)) dX7_mostFelt_36 (ltL hn (Nat.le_of_ble_eq_true rfl)) rfl rfl (by decide) in_X7 w_765 rfl (q := 39) rfl ?_
    refine e_iconst C dX7_mostFelt_39 ic_4 (q := 40) rfl ?_
    refine e_iload_n C dX7_mostFelt_40 rfl 1 rfl (q := 41) rfl ?_
    refine e_imul C dX7_mostFelt_41 (q := 42) rfl ?_
    refine e_iconst C dX7_mostFelt_42 ic_1 (q := 43) rfl ?_
    refine e_iadd C dX7_mostFelt_43 (q := 44) rfl ?_
    refine e_nmi (fun v3 => ?_)
    refine e_iald C (k := 59) (n := 24) dX7_mostFelt_44 (ltL hn (Nat.le_of_ble_eq_true rfl)) rfl (q := 45) rfl ?_
    refine e_aload_n C dX7_mostFelt_45 rfl 3 rfl (q := 46) rfl ?_
    refine e_getf C (k := 56) (j := 3) (T := TX7) (N := 32) (v := .ref (oA ω 59)) dX7_mostFelt_46 (ltL hn (Nat.le_of_ble_eq_true rfl)) rfl rfl (by decide) in_X7 w_765 rfl (q := 49) rfl ?_
    refine e_iconst C dX7_mostFelt_49 ic_4 (q := 50) rfl ?_
    refine e_iload_n C dX7_mostFelt_50 rfl 2 rfl (q := 51) rfl ?_
    refine e_imul C dX7_mostFelt_51 (q := 52) rfl ?_
    refine e_iconst C dX7_mostFelt_52 ic_1 (q := 53) rfl ?_
    refine e_iadd C dX7_mostFelt_53 (q := 54) rfl ?_
    refine e_nmi (fun v4 => ?_)
    refine e_iald C (k := 59) (n := 24) dX7_mostFelt_54 (ltL hn (Nat.le_of_ble_eq_true rfl)) rfl (q := 55) rfl ?_
    refine e_icmple C (tgt := 62) (q := 58) dX7_mostFelt_55 rfl rfl ?_ ?_
    · refine e_iconst C dX7_mostFelt_62 ic_0 (q := 63) rfl ?_
      exact e_lv [1, 2, 3] (lv1 := [(2, .int x2), (1, .int x1), (0, .ref (oA ω 56))]) rfl (xb_X7_mostFelt_b63 C hlau hret hn hK4 x2 x1 (0 : Int32) _)
    · refine e_iconst C dX7_mostFelt_58 ic_1 (q := 59) rfl ?_
      refine e_goto C (tgt := 63) dX7_mostFelt_59 rfl ?_
      exact e_lv [1, 2, 3] (lv1 := [(2, .int x2), (1, .int x1), (0, .ref (oA ω 56))]) rfl (xb_X7_mostFelt_b63 C hlau hret hn hK4 x2 x1 (1 : Int32) _)
set_option maxHeartbeats 4000000 in
set_option maxRecDepth 100000 in
theorem xb_X7_mostFelt_b4 {l : Launch} {κ : Kx} {ω : Om}  (C : CX κ ω cX7_mostFelt 4 2 yX7_mostFelt.cls) (hlau : κ.2.1 = l) (hret : κ.2.2.2.2.2.2.2.2.1.sig.returnType = (some .int)) (hn : 75 ≤ oN ω)  : ∀ (n : Nat) (x2 : Int32) (x1 : Int32) (I : Mem), EE κ ω 4 (Gi κ ω) (f_X7_mostFelt_b4 n x2 x1 I) I 4 [(2, .int x2), (1, .int x1), (0, .ref (oA ω 56))] [] := by
  intro n
  induction n with
  | zero => intro x2 x1 I; exact e_none
  | succ n ih =>
    intro x2 x1 I
    rw [f_X7_mostFelt_b4]
    refine e_iload_n C dX7_mostFelt_4 rfl 0 rfl (q := 5) rfl ?_
    refine e_aload_n C dX7_mostFelt_5 rfl 2 rfl (q := 6) rfl ?_
    refine e_getf C (k := 56) (j := 0) (T := TX7) (N := 32) (v := .int (I 56 0)) dX7_mostFelt_6 (ltL hn (Nat.le_of_ble_eq_true rfl)) rfl rfl (by decide) in_X7 w_762 rfl (q := 9) rfl ?_
    refine e_icmpge C (tgt := 80) (q := 12) dX7_mostFelt_9 rfl rfl ?_ ?_
    · refine e_iload_n C dX7_mostFelt_80 rfl 1 rfl (q := 81) rfl ?_
      exact e_ireturn C dX7_mostFelt_81 hret rfl
    · refine e_aload_n C dX7_mostFelt_12 rfl 2 rfl (q := 13) rfl ?_
      refine e_iload_n C dX7_mostFelt_13 rfl 0 rfl (q := 14) rfl ?_
      refine e_callVi C (l := l) (k := 56) (av := [.int x2]) (st := []) hlau (x_X7_isUp (l := l) (ω := ω) (a1 := x2) hn (I := I)) dX7_mostFelt_14 w_867 w_869 w_31 w_67 w_870 md_X7_isUp (by decide) (by decide) rfl (ltL hn (Nat.le_of_ble_eq_true rfl)) rfl rfl (Nat.le_of_ble_eq_true rfl) (q := 17) rfl (fun v2 J1 => ?_)
      refine e_ifeq C (tgt := 74) (q := 20) dX7_mostFelt_17 rfl rfl ?_ ?_
      · refine e_iinc C (v := x2 + (1 : Int32)) (lv1 := [(2, .int (x2 + (1 : Int32))), (1, .int x1), (0, .ref (oA ω 56))]) dX7_mostFelt_74 0 rfl (Nat.le_of_ble_eq_true rfl) (by rw [ic_1]) rfl (q := 77) rfl ?_
        refine e_goto C (tgt := 4) dX7_mostFelt_77 rfl ?_
        exact ih (x2 + (1 : Int32)) x1 _
      · refine e_iload_n C dX7_mostFelt_20 rfl 1 rfl (q := 21) rfl ?_
        refine e_iconst C dX7_mostFelt_21 ic_m1 (q := 22) rfl ?_
        refine e_icmpne C (tgt := 29) (q := 25) dX7_mostFelt_22 rfl rfl ?_ ?_
        · refine e_iconst C dX7_mostFelt_29 ic_0 (q := 30) rfl ?_
          exact xb_X7_mostFelt_b30 C hlau hret hn ih x2 x1 (0 : Int32) _
        · refine e_iconst C dX7_mostFelt_25 ic_1 (q := 26) rfl ?_
          refine e_goto C (tgt := 30) dX7_mostFelt_26 rfl ?_
          exact xb_X7_mostFelt_b30 C hlau hret hn ih x2 x1 (1 : Int32) _
set_option maxHeartbeats 4000000 in
set_option maxRecDepth 100000 in
theorem x_X7_mostFelt {l : Launch} {ω : Om}  (hn : 75 ≤ oN ω)  {I : Mem} : CTi l ω yX7_mostFelt cX7_mostFelt 4 (some .int) 2 [.ref (oA ω 56)] (f_X7_mostFelt  I) I := by
  refine ct_i (by decide) (Nat.le_of_ble_eq_true rfl) ?_
  intro κ hlau hret C
  refine e_lv [0] (lv1 := [(0, .ref (oA ω 56))]) rfl ?_
  unfold f_X7_mostFelt
  refine e_iconst C dX7_mostFelt_0 ic_m1 (q := 1) rfl ?_
  refine e_istore_n C (lv1 := [(1, .int (-1 : Int32)), (0, .ref (oA ω 56))]) dX7_mostFelt_1 rfl (Nat.le_of_ble_eq_true rfl) rfl (q := 2) rfl ?_
  refine e_iconst C dX7_mostFelt_2 ic_0 (q := 3) rfl ?_
  refine e_istore_n C (lv1 := [(2, .int (0 : Int32)), (1, .int (-1 : Int32)), (0, .ref (oA ω 56))]) dX7_mostFelt_3 rfl (Nat.le_of_ble_eq_true rfl) rfl (q := 4) rfl ?_
  exact xb_X7_mostFelt_b4 C hlau hret hn FU (0 : Int32) (-1 : Int32) _
set_option maxHeartbeats 4000000 in
set_option maxRecDepth 100000 in
theorem xb_X7_end_b115 {l : Launch} {κ : Kx} {ω : Om} {a1 : Int32} (C : CX κ ω cX7_end 7 8 yX7_end.cls) (hlau : κ.2.1 = l) (hret : κ.2.2.2.2.2.2.2.2.1.sig.returnType = (some .int)) (hn : 75 ≤ oN ω)  : ∀ (x5 : Int32) (x4 : Int32) (x3 : Int32) (x2 : Int32) (I : Mem), EE κ ω 7 (Gi κ ω) (f_X7_end_b115 a1 x5 x4 x3 x2 I) I 115 [(5, .int x5), (4, .int x4), (3, .int x3), (2, .int x2), (0, .ref (oA ω 56)), (1, .int a1)] [] := by
  intro x5 x4 x3 x2 I
  unfold f_X7_end_b115
  refine e_aload_n C dX7_end_115 rfl 4 rfl (q := 116) rfl ?_
  refine e_callVv C (l := l) (k := 56) (av := []) (st := []) hlau (x_X7_lays (l := l) (ω := ω) hn (I := I)) dX7_end_116 w_988 w_990 w_48 w_67 w_991 md_X7_lays (by decide) (by decide) rfl (ltL hn (Nat.le_of_ble_eq_true rfl)) rfl rfl (Nat.le_of_ble_eq_true rfl) (q := 119) rfl (fun _ J6 => ?_)
  refine e_iload_n C dX7_end_119 rfl 5 rfl (q := 120) rfl ?_
  refine e_ifne C (tgt := 128) (q := 123) dX7_end_120 rfl rfl ?_ ?_
  · refine e_iload_n C dX7_end_128 rfl 5 rfl (q := 129) rfl ?_
    refine e_iconst C dX7_end_129 ic_1 (q := 130) rfl ?_
    refine e_icmpne C (tgt := 138) (q := 133) dX7_end_130 rfl rfl ?_ ?_
    · refine e_iload_n C dX7_end_138 rfl 5 rfl (q := 139) rfl ?_
      refine e_iconst C dX7_end_139 ic_2 (q := 140) rfl ?_
      refine e_icmpne C (tgt := 147) (q := 143) dX7_end_140 rfl rfl ?_ ?_
      · refine e_iload_n C dX7_end_147 rfl 2 rfl (q := 148) rfl ?_
        exact e_ireturn C dX7_end_148 hret rfl
      · refine e_iload_n C dX7_end_143 rfl 3 rfl (q := 144) rfl ?_
        refine e_goto C (tgt := 148) dX7_end_144 rfl ?_
        exact e_ireturn C dX7_end_148 hret rfl
    · refine e_iload C dX7_end_133 0 rfl (q := 135) rfl ?_
      refine e_goto C (tgt := 148) dX7_end_135 rfl ?_
      exact e_ireturn C dX7_end_148 hret rfl
  · refine e_iload C dX7_end_123 1 rfl (q := 125) rfl ?_
    refine e_goto C (tgt := 148) dX7_end_125 rfl ?_
    exact e_ireturn C dX7_end_148 hret rfl
set_option maxHeartbeats 4000000 in
set_option maxRecDepth 100000 in
theorem xb_X7_end_b74 {l : Launch} {κ : Kx} {ω : Om} {a1 : Int32} (C : CX κ ω cX7_end 7 8 yX7_end.cls) (hlau : κ.2.1 = l) (hret : κ.2.2.2.2.2.2.2.2.1.sig.returnType = (some .int)) (hn : 75 ≤ oN ω)  {K23 : Int32 → Int32 → Int32 → Mem → Option (Int32 × Mem)} (hK23 : ∀ (x4 : Int32) (x3 : Int32) (x2 : Int32) (J : Mem), EE κ ω 7 (Gi κ ω) (K23 x4 x3 x2 J) J 23 [(4, .int x4), (3, .int x3), (2, .int x2), (0, .ref (oA ω 56)), (1, .int a1)] []) {K52 : Int32 → Int32 → Int32 → Int32 → Int32 → Mem → Option (Int32 × Mem)} (hK52 : ∀ (x6 : Int32) (x3 : Int32) (x5 : Int32) (x4 : Int32) (x2 : Int32) (J : Mem), EE κ ω 7 (Gi κ ω) (K52 x6 x3 x5 x4 x2 J) J 52 [(6, .int x6), (3, .int x3), (5, .int x5), (4, .int x4), (2, .int x2), (0, .ref (oA ω 56)), (1, .int a1)] []) : ∀ (x6 : Int32) (x3 : Int32) (x5 : Int32) (x4 : Int32) (s0 : Int32) (I : Mem), EE κ ω 7 (Gi κ ω) (f_X7_end_b74 a1 K23 K52 x6 x3 x5 x4 s0 I) I 74 [(6, .int x6), (3, .int x3), (5, .int x5), (4, .int x4), (0, .ref (oA ω 56)), (1, .int a1)] [.int s0] := by
  intro x6 x3 x5 x4 s0 I
  unfold f_X7_end_b74
  refine e_istore_n C (lv1 := [(2, .int s0), (6, .int x6), (3, .int x3), (5, .int x5), (4, .int x4), (0, .ref (oA ω 56)), (1, .int a1)]) dX7_end_74 rfl (Nat.le_of_ble_eq_true rfl) rfl (q := 75) rfl ?_
  refine e_iinc C (v := x6 + (-1 : Int32)) (lv1 := [(6, .int (x6 + (-1 : Int32))), (2, .int s0), (3, .int x3), (5, .int x5), (4, .int x4), (0, .ref (oA ω 56)), (1, .int a1)]) dX7_end_75 1 rfl (Nat.le_of_ble_eq_true rfl) (by rw [ic_m1]) rfl (q := 78) rfl ?_
  refine e_goto C (tgt := 52) dX7_end_78 rfl ?_
  exact e_lv [0, 2, 3, 4, 1, 5, 6] (lv1 := [(6, .int (x6 + (-1 : Int32))), (3, .int x3), (5, .int x5), (4, .int x4), (2, .int s0), (0, .ref (oA ω 56)), (1, .int a1)]) rfl (hK52 (x6 + (-1 : Int32)) x3 x5 x4 s0 _)
set_option maxHeartbeats 4000000 in
set_option maxRecDepth 100000 in
theorem xb_X7_end_b52 {l : Launch} {κ : Kx} {ω : Om} {a1 : Int32} (C : CX κ ω cX7_end 7 8 yX7_end.cls) (hlau : κ.2.1 = l) (hret : κ.2.2.2.2.2.2.2.2.1.sig.returnType = (some .int)) (hn : 75 ≤ oN ω)  {K23 : Int32 → Int32 → Int32 → Mem → Option (Int32 × Mem)} (hK23 : ∀ (x4 : Int32) (x3 : Int32) (x2 : Int32) (J : Mem), EE κ ω 7 (Gi κ ω) (K23 x4 x3 x2 J) J 23 [(4, .int x4), (3, .int x3), (2, .int x2), (0, .ref (oA ω 56)), (1, .int a1)] []) : ∀ (n : Nat) (x6 : Int32) (x3 : Int32) (x5 : Int32) (x4 : Int32) (x2 : Int32) (I : Mem), EE κ ω 7 (Gi κ ω) (f_X7_end_b52 a1 K23 n x6 x3 x5 x4 x2 I) I 52 [(6, .int x6), (3, .int x3), (5, .int x5), (4, .int x4), (2, .int x2), (0, .ref (oA ω 56)), (1, .int a1)] [] := by
  intro n
  induction n with
  | zero => intro x6 x3 x5 x4 x2 I; exact e_none
  | succ n ih =>
    intro x6 x3 x5 x4 x2 I
    rw [f_X7_end_b52]
    refine e_iload C dX7_end_52 0 rfl (q := 54) rfl ?_
    refine e_iflt C (tgt := 81) (q := 57) dX7_end_54 rfl rfl ?_ ?_
    · refine e_iinc C (v := x4 + (1 : Int32)) (lv1 := [(4, .int (x4 + (1 : Int32))), (6, .int x6), (3, .int x3), (5, .int x5), (2, .int x2), (0, .ref (oA ω 56)), (1, .int a1)]) dX7_end_81 3 rfl (Nat.le_of_ble_eq_true rfl) (by rw [ic_1]) rfl (q := 84) rfl ?_
      refine e_goto C (tgt := 23) dX7_end_84 rfl ?_
      exact e_lv [0, 2, 4, 5, 6] (lv1 := [(4, .int (x4 + (1 : Int32))), (3, .int x3), (2, .int x2), (0, .ref (oA ω 56)), (1, .int a1)]) rfl (hK23 (x4 + (1 : Int32)) x3 x2 _)
    · refine e_iload C dX7_end_57 2 rfl (q := 59) rfl ?_
      refine e_iload C dX7_end_59 0 rfl (q := 61) rfl ?_
      refine e_ishr C dX7_end_61 (q := 62) rfl ?_
      refine e_iconst C dX7_end_62 ic_1 (q := 63) rfl ?_
      refine e_iand C dX7_end_63 (q := 64) rfl ?_
      refine e_iconst C dX7_end_64 ic_1 (q := 65) rfl ?_
      refine e_icmpne C (tgt := 73) (q := 68) dX7_end_65 rfl rfl ?_ ?_
      · refine e_iload_n C dX7_end_73 rfl 4 rfl (q := 74) rfl ?_
        exact e_lv [0, 1, 2, 3, 5, 6] (lv1 := [(6, .int x6), (3, .int x3), (5, .int x5), (4, .int x4), (0, .ref (oA ω 56)), (1, .int a1)]) rfl (xb_X7_end_b74 C hlau hret hn hK23 ih x6 x3 x5 x4 x2 _)
      · refine e_iload C dX7_end_68 0 rfl (q := 70) rfl ?_
        refine e_goto C (tgt := 74) dX7_end_70 rfl ?_
        exact e_lv [0, 1, 2, 3, 5, 6] (lv1 := [(6, .int x6), (3, .int x3), (5, .int x5), (4, .int x4), (0, .ref (oA ω 56)), (1, .int a1)]) rfl (xb_X7_end_b74 C hlau hret hn hK23 ih x6 x3 x5 x4 x6 _)
set_option maxHeartbeats 4000000 in
set_option maxRecDepth 100000 in
theorem xb_X7_end_b23 {l : Launch} {κ : Kx} {ω : Om} {a1 : Int32} (C : CX κ ω cX7_end 7 8 yX7_end.cls) (hlau : κ.2.1 = l) (hret : κ.2.2.2.2.2.2.2.2.1.sig.returnType = (some .int)) (hn : 75 ≤ oN ω)  : ∀ (n : Nat) (x4 : Int32) (x3 : Int32) (x2 : Int32) (I : Mem), EE κ ω 7 (Gi κ ω) (f_X7_end_b23 a1 n x4 x3 x2 I) I 23 [(4, .int x4), (3, .int x3), (2, .int x2), (0, .ref (oA ω 56)), (1, .int a1)] [] := by
  intro n
  induction n with
  | zero => intro x4 x3 x2 I; exact e_none
  | succ n ih =>
    intro x4 x3 x2 I
    rw [f_X7_end_b23]
    refine e_iload C dX7_end_23 0 rfl (q := 25) rfl ?_
    refine e_bipush C dX7_end_25 b8_60 (q := 27) rfl ?_
    refine e_icmpge C (tgt := 87) (q := 30) dX7_end_27 rfl rfl ?_ ?_
    · refine e_aload_n C dX7_end_87 rfl 3 rfl (q := 88) rfl ?_
      refine e_callVi C (l := l) (k := 56) (av := []) (st := []) hlau (x_X7_mostFelt (l := l) (ω := ω) hn (I := I)) dX7_end_88 w_1000 w_1002 w_49 w_67 w_1003 md_X7_mostFelt (by decide) (by decide) rfl (ltL hn (Nat.le_of_ble_eq_true rfl)) rfl rfl (Nat.le_of_ble_eq_true rfl) (q := 91) rfl (fun v5 J4 => ?_)
      refine e_istore C (lv1 := [(4, .int v5), (3, .int x3), (2, .int x2), (0, .ref (oA ω 56)), (1, .int a1)]) dX7_end_91 (Nat.le_of_ble_eq_true rfl) rfl (q := 93) rfl ?_
      refine e_iconst C dX7_end_93 ic_0 (q := 94) rfl ?_
      refine e_istore C (lv1 := [(5, .int (0 : Int32)), (4, .int v5), (3, .int x3), (2, .int x2), (0, .ref (oA ω 56)), (1, .int a1)]) dX7_end_94 (Nat.le_of_ble_eq_true rfl) rfl (q := 96) rfl ?_
      refine e_iload C dX7_end_96 1 rfl (q := 98) rfl ?_
      refine e_iconst C dX7_end_98 ic_m1 (q := 99) rfl ?_
      refine e_icmpeq C (tgt := 115) (q := 102) dX7_end_99 rfl rfl ?_ ?_
      · exact xb_X7_end_b115 C hlau hret hn (0 : Int32) v5 x3 x2 _
      · refine e_aload_n C dX7_end_102 rfl 4 rfl (q := 103) rfl ?_
        refine e_getf C (k := 56) (j := 3) (T := TX7) (N := 32) (v := .ref (oA ω 59)) dX7_end_103 (ltL hn (Nat.le_of_ble_eq_true rfl)) rfl rfl (by decide) in_X7 w_765 rfl (q := 106) rfl ?_
        refine e_iconst C dX7_end_106 ic_4 (q := 107) rfl ?_
        refine e_iload C dX7_end_107 1 rfl (q := 109) rfl ?_
        refine e_imul C dX7_end_109 (q := 110) rfl ?_
        refine e_iconst C dX7_end_110 ic_1 (q := 111) rfl ?_
        refine e_iadd C dX7_end_111 (q := 112) rfl ?_
        refine e_nmi (fun v7 => ?_)
        refine e_iald C (k := 59) (n := 24) dX7_end_112 (ltL hn (Nat.le_of_ble_eq_true rfl)) rfl (q := 113) rfl ?_
        refine e_nmi (fun v8 => ?_)
        refine e_istore C (lv1 := [(5, .int v8), (4, .int v5), (3, .int x3), (2, .int x2), (0, .ref (oA ω 56)), (1, .int a1)]) dX7_end_113 (Nat.le_of_ble_eq_true rfl) rfl (q := 115) rfl ?_
        exact xb_X7_end_b115 C hlau hret hn v8 v5 x3 x2 _
    · refine e_aload_n C dX7_end_30 rfl 3 rfl (q := 31) rfl ?_
      refine e_callVi C (l := l) (k := 56) (av := []) (st := []) hlau (x_X7_roundOf (l := l) (ω := ω) hn (I := I)) dX7_end_31 w_956 w_958 w_42 w_67 w_959 md_X7_roundOf (by decide) (by decide) rfl (ltL hn (Nat.le_of_ble_eq_true rfl)) rfl rfl (Nat.le_of_ble_eq_true rfl) (q := 34) rfl (fun v10 J9 => ?_)
      refine e_istore C (lv1 := [(5, .int v10), (4, .int x4), (3, .int x3), (2, .int x2), (0, .ref (oA ω 56)), (1, .int a1)]) dX7_end_34 (Nat.le_of_ble_eq_true rfl) rfl (q := 36) rfl ?_
      refine e_iload C dX7_end_36 0 rfl (q := 38) rfl ?_
      refine e_ifeq C (tgt := 81) (q := 41) dX7_end_38 rfl rfl ?_ ?_
      · refine e_iinc C (v := x4 + (1 : Int32)) (lv1 := [(4, .int (x4 + (1 : Int32))), (5, .int v10), (3, .int x3), (2, .int x2), (0, .ref (oA ω 56)), (1, .int a1)]) dX7_end_81 1 rfl (Nat.le_of_ble_eq_true rfl) (by rw [ic_1]) rfl (q := 84) rfl ?_
        refine e_goto C (tgt := 23) dX7_end_84 rfl ?_
        exact e_lv [0, 2, 3, 4, 5] (lv1 := [(4, .int (x4 + (1 : Int32))), (3, .int x3), (2, .int x2), (0, .ref (oA ω 56)), (1, .int a1)]) rfl (ih (x4 + (1 : Int32)) x3 x2 _)
      · refine e_iload_n C dX7_end_41 rfl 3 rfl (q := 42) rfl ?_
        refine e_iconst C dX7_end_42 ic_m1 (q := 43) rfl ?_
        refine e_icmpne C (tgt := 81) (q := 46) dX7_end_43 rfl rfl ?_ ?_
        · refine e_iinc C (v := x4 + (1 : Int32)) (lv1 := [(4, .int (x4 + (1 : Int32))), (5, .int v10), (3, .int x3), (2, .int x2), (0, .ref (oA ω 56)), (1, .int a1)]) dX7_end_81 1 rfl (Nat.le_of_ble_eq_true rfl) (by rw [ic_1]) rfl (q := 84) rfl ?_
          refine e_goto C (tgt := 23) dX7_end_84 rfl ?_
          exact e_lv [0, 2, 3, 4, 5] (lv1 := [(4, .int (x4 + (1 : Int32))), (3, .int x3), (2, .int x2), (0, .ref (oA ω 56)), (1, .int a1)]) rfl (ih (x4 + (1 : Int32)) x3 x2 _)
        · refine e_iload C dX7_end_46 1 rfl (q := 48) rfl ?_
          refine e_istore_n C (lv1 := [(3, .int x4), (5, .int v10), (4, .int x4), (2, .int x2), (0, .ref (oA ω 56)), (1, .int a1)]) dX7_end_48 rfl (Nat.le_of_ble_eq_true rfl) rfl (q := 49) rfl ?_
          refine e_iconst C dX7_end_49 ic_5 (q := 50) rfl ?_
          refine e_istore C (lv1 := [(6, .int (5 : Int32)), (3, .int x4), (5, .int v10), (4, .int x4), (2, .int x2), (0, .ref (oA ω 56)), (1, .int a1)]) dX7_end_50 (Nat.le_of_ble_eq_true rfl) rfl (q := 52) rfl ?_
          exact xb_X7_end_b52 C hlau hret hn ih FU (5 : Int32) x4 v10 x4 x2 _
set_option maxHeartbeats 4000000 in
set_option maxRecDepth 100000 in
theorem x_X7_end {l : Launch} {ω : Om} {a1 : Int32} (hn : 75 ≤ oN ω)  {I : Mem} : CTi l ω yX7_end cX7_end 7 (some .int) 8 [.ref (oA ω 56), .int a1] (f_X7_end a1 I) I := by
  refine ct_i (by decide) (Nat.le_of_ble_eq_true rfl) ?_
  intro κ hlau hret C
  refine e_lv [0, 1] (lv1 := [(0, .ref (oA ω 56)), (1, .int a1)]) rfl ?_
  unfold f_X7_end
  refine e_iload_n C dX7_end_0 rfl 1 rfl (q := 1) rfl ?_
  refine e_iconst C dX7_end_1 ic_0 (q := 2) rfl ?_
  refine e_iconst C dX7_end_2 ic_3 (q := 3) rfl ?_
  refine e_callSi C (l := l) (av := [.int a1, .int (0 : Int32), .int (3 : Int32)]) (st := []) hlau (x_X7_in (l := l) (ω := ω) (a0 := a1) (a1 := (0 : Int32)) (a2 := (3 : Int32)) hn (I := I)) dX7_end_3 w_723 w_724 w_67 w_725 md_X7_in (by decide) (by decide) rfl (Nat.le_of_ble_eq_true rfl) (q := 6) rfl (fun v2 J1 => ?_)
  refine e_ifne C (tgt := 12) (q := 9) dX7_end_6 rfl rfl ?_ ?_
  · refine e_iconst C dX7_end_12 ic_m1 (q := 13) rfl ?_
    refine e_istore_n C (lv1 := [(2, .int (-1 : Int32)), (0, .ref (oA ω 56)), (1, .int a1)]) dX7_end_13 rfl (Nat.le_of_ble_eq_true rfl) rfl (q := 14) rfl ?_
    refine e_iconst C dX7_end_14 ic_m1 (q := 15) rfl ?_
    refine e_istore_n C (lv1 := [(3, .int (-1 : Int32)), (2, .int (-1 : Int32)), (0, .ref (oA ω 56)), (1, .int a1)]) dX7_end_15 rfl (Nat.le_of_ble_eq_true rfl) rfl (q := 16) rfl ?_
    refine e_aload_n C dX7_end_16 rfl 2 rfl (q := 17) rfl ?_
    refine e_callVv C (l := l) (k := 56) (av := []) (st := []) hlau (x_X7_keeps (l := l) (ω := ω) hn (I := J1)) dX7_end_17 w_976 w_978 w_45 w_67 w_979 md_X7_keeps (by decide) (by decide) rfl (ltL hn (Nat.le_of_ble_eq_true rfl)) rfl rfl (Nat.le_of_ble_eq_true rfl) (q := 20) rfl (fun _ J3 => ?_)
    refine e_iconst C dX7_end_20 ic_0 (q := 21) rfl ?_
    refine e_istore C (lv1 := [(4, .int (0 : Int32)), (3, .int (-1 : Int32)), (2, .int (-1 : Int32)), (0, .ref (oA ω 56)), (1, .int a1)]) dX7_end_21 (Nat.le_of_ble_eq_true rfl) rfl (q := 23) rfl ?_
    exact xb_X7_end_b23 C hlau hret hn FU (0 : Int32) (-1 : Int32) (-1 : Int32) _
  · refine e_bipush C dX7_end_9 b8_m2 (q := 11) rfl ?_
    exact e_ireturn C dX7_end_11 hret rfl
set_option maxHeartbeats 4000000 in
set_option maxRecDepth 100000 in
theorem xb_X7_beaten_b136 {l : Launch} {κ : Kx} {ω : Om} {a1 : Int32} {a2 : Int32} (C : CX κ ω cX7_beaten 6 9 yX7_beaten.cls) (hlau : κ.2.1 = l) (hret : κ.2.2.2.2.2.2.2.2.1.sig.returnType = (some .int)) (hn : 75 ≤ oN ω)  {K32 : Int32 → Int32 → Mem → Option (Int32 × Mem)} (hK32 : ∀ (x4 : Int32) (x3 : Int32) (J : Mem), EE κ ω 6 (Gi κ ω) (K32 x4 x3 J) J 32 [(4, .int x4), (3, .int x3), (0, .ref (oA ω 56)), (1, .int a1), (2, .int a2)] []) : ∀ (x4 : Int32) (s0 : Int32) (s1 : Int32) (I : Mem), EE κ ω 6 (Gi κ ω) (f_X7_beaten_b136 a1 a2 K32 x4 s0 s1 I) I 136 [(4, .int x4), (0, .ref (oA ω 56)), (1, .int a1), (2, .int a2)] [.int s0, .int s1] := by
  intro x4 s0 s1 I
  unfold f_X7_beaten_b136
  refine e_ior C dX7_beaten_136 (q := 137) rfl ?_
  refine e_nmi (fun v11 => ?_)
  refine e_istore_n C (lv1 := [(3, .int v11), (4, .int x4), (0, .ref (oA ω 56)), (1, .int a1), (2, .int a2)]) dX7_beaten_137 rfl (Nat.le_of_ble_eq_true rfl) rfl (q := 138) rfl ?_
  refine e_aload_n C dX7_beaten_138 rfl 2 rfl (q := 139) rfl ?_
  refine e_callVv C (l := l) (k := 56) (av := []) (st := []) hlau (x_X7_lays (l := l) (ω := ω) hn (I := I)) dX7_beaten_139 w_988 w_990 w_48 w_67 w_991 md_X7_lays (by decide) (by decide) rfl (ltL hn (Nat.le_of_ble_eq_true rfl)) rfl rfl (Nat.le_of_ble_eq_true rfl) (q := 142) rfl (fun _ J12 => ?_)
  refine e_iinc C (v := x4 + (1 : Int32)) (lv1 := [(4, .int (x4 + (1 : Int32))), (3, .int v11), (0, .ref (oA ω 56)), (1, .int a1), (2, .int a2)]) dX7_beaten_142 1 rfl (Nat.le_of_ble_eq_true rfl) (by rw [ic_1]) rfl (q := 145) rfl ?_
  refine e_goto C (tgt := 32) dX7_beaten_145 rfl ?_
  exact hK32 (x4 + (1 : Int32)) v11 _
set_option maxHeartbeats 4000000 in
set_option maxRecDepth 100000 in
theorem xb_X7_beaten_b135 {l : Launch} {κ : Kx} {ω : Om} {a1 : Int32} {a2 : Int32} (C : CX κ ω cX7_beaten 6 9 yX7_beaten.cls) (hlau : κ.2.1 = l) (hret : κ.2.2.2.2.2.2.2.2.1.sig.returnType = (some .int)) (hn : 75 ≤ oN ω)  {K32 : Int32 → Int32 → Mem → Option (Int32 × Mem)} (hK32 : ∀ (x4 : Int32) (x3 : Int32) (J : Mem), EE κ ω 6 (Gi κ ω) (K32 x4 x3 J) J 32 [(4, .int x4), (3, .int x3), (0, .ref (oA ω 56)), (1, .int a1), (2, .int a2)] []) : ∀ (x4 : Int32) (s0 : Int32) (I : Mem), EE κ ω 6 (Gi κ ω) (f_X7_beaten_b135 a1 a2 K32 x4 s0 I) I 135 [(4, .int x4), (0, .ref (oA ω 56)), (1, .int a1), (2, .int a2)] [.int s0] := by
  intro x4 s0 I
  unfold f_X7_beaten_b135
  refine e_iconst C dX7_beaten_135 ic_0 (q := 136) rfl ?_
  exact xb_X7_beaten_b136 C hlau hret hn hK32 x4 (0 : Int32) s0 _
set_option maxHeartbeats 4000000 in
set_option maxRecDepth 100000 in
theorem xb_X7_beaten_b97 {l : Launch} {κ : Kx} {ω : Om} {a1 : Int32} {a2 : Int32} (C : CX κ ω cX7_beaten 6 9 yX7_beaten.cls) (hlau : κ.2.1 = l) (hret : κ.2.2.2.2.2.2.2.2.1.sig.returnType = (some .int)) (hn : 75 ≤ oN ω)  {K32 : Int32 → Int32 → Mem → Option (Int32 × Mem)} (hK32 : ∀ (x4 : Int32) (x3 : Int32) (J : Mem), EE κ ω 6 (Gi κ ω) (K32 x4 x3 J) J 32 [(4, .int x4), (3, .int x3), (0, .ref (oA ω 56)), (1, .int a1), (2, .int a2)] []) {K50 : Int32 → Int32 → Int32 → Mem → Option (Int32 × Mem)} (hK50 : ∀ (x5 : Int32) (x4 : Int32) (x3 : Int32) (J : Mem), EE κ ω 6 (Gi κ ω) (K50 x5 x4 x3 J) J 50 [(5, .int x5), (4, .int x4), (3, .int x3), (0, .ref (oA ω 56)), (1, .int a1), (2, .int a2)] []) : ∀ (x5 : Int32) (x4 : Int32) (x3 : Int32) (s0 : Int32) (s1 : Int32) (I : Mem), EE κ ω 6 (Gi κ ω) (f_X7_beaten_b97 a1 a2 K32 K50 x5 x4 x3 s0 s1 I) I 97 [(5, .int x5), (4, .int x4), (3, .int x3), (0, .ref (oA ω 56)), (1, .int a1), (2, .int a2)] [.int s0, .int s1, .ref (oA ω 59)] := by
  intro x5 x4 x3 s0 s1 I
  unfold f_X7_beaten_b97
  refine e_iast C (k := 59) (n := 24) dX7_beaten_97 (ltL hn (Nat.le_of_ble_eq_true rfl)) (fun _ => rfl) (q := 98) rfl ?_
  refine e_nmM (fun J16 => ?_)
  refine e_iinc C (v := x5 + (1 : Int32)) (lv1 := [(5, .int (x5 + (1 : Int32))), (4, .int x4), (3, .int x3), (0, .ref (oA ω 56)), (1, .int a1), (2, .int a2)]) dX7_beaten_98 0 rfl (Nat.le_of_ble_eq_true rfl) (by rw [ic_1]) rfl (q := 101) rfl ?_
  refine e_goto C (tgt := 50) dX7_beaten_101 rfl ?_
  exact hK50 (x5 + (1 : Int32)) x4 x3 _
set_option maxHeartbeats 4000000 in
set_option maxRecDepth 100000 in
theorem xb_X7_beaten_b82 {l : Launch} {κ : Kx} {ω : Om} {a1 : Int32} {a2 : Int32} (C : CX κ ω cX7_beaten 6 9 yX7_beaten.cls) (hlau : κ.2.1 = l) (hret : κ.2.2.2.2.2.2.2.2.1.sig.returnType = (some .int)) (hn : 75 ≤ oN ω)  {K32 : Int32 → Int32 → Mem → Option (Int32 × Mem)} (hK32 : ∀ (x4 : Int32) (x3 : Int32) (J : Mem), EE κ ω 6 (Gi κ ω) (K32 x4 x3 J) J 32 [(4, .int x4), (3, .int x3), (0, .ref (oA ω 56)), (1, .int a1), (2, .int a2)] []) {K50 : Int32 → Int32 → Int32 → Mem → Option (Int32 × Mem)} (hK50 : ∀ (x5 : Int32) (x4 : Int32) (x3 : Int32) (J : Mem), EE κ ω 6 (Gi κ ω) (K50 x5 x4 x3 J) J 50 [(5, .int x5), (4, .int x4), (3, .int x3), (0, .ref (oA ω 56)), (1, .int a1), (2, .int a2)] []) : ∀ (x5 : Int32) (x4 : Int32) (x3 : Int32) (s0 : Int32) (I : Mem), EE κ ω 6 (Gi κ ω) (f_X7_beaten_b82 a1 a2 K32 K50 x5 x4 x3 s0 I) I 82 [(5, .int x5), (4, .int x4), (3, .int x3), (0, .ref (oA ω 56)), (1, .int a1), (2, .int a2)] [.int s0, .ref (oA ω 59)] := by
  intro x5 x4 x3 s0 I
  unfold f_X7_beaten_b82
  refine e_aload_n C dX7_beaten_82 rfl 3 rfl (q := 83) rfl ?_
  refine e_getf C (k := 56) (j := 3) (T := TX7) (N := 32) (v := .ref (oA ω 59)) dX7_beaten_83 (ltL hn (Nat.le_of_ble_eq_true rfl)) rfl rfl (by decide) in_X7 w_765 rfl (q := 86) rfl ?_
  refine e_iconst C dX7_beaten_86 ic_4 (q := 87) rfl ?_
  refine e_iload C dX7_beaten_87 0 rfl (q := 89) rfl ?_
  refine e_imul C dX7_beaten_89 (q := 90) rfl ?_
  refine e_iconst C dX7_beaten_90 ic_1 (q := 91) rfl ?_
  refine e_iadd C dX7_beaten_91 (q := 92) rfl ?_
  refine e_nmi (fun v15 => ?_)
  refine e_iald C (k := 59) (n := 24) dX7_beaten_92 (ltL hn (Nat.le_of_ble_eq_true rfl)) rfl (q := 93) rfl ?_
  refine e_goto C (tgt := 97) dX7_beaten_93 rfl ?_
  exact xb_X7_beaten_b97 C hlau hret hn hK32 hK50 x5 x4 x3 (I 59 (v15).toNatClampNeg) s0 _
set_option maxHeartbeats 4000000 in
set_option maxRecDepth 100000 in
theorem xb_X7_beaten_b50 {l : Launch} {κ : Kx} {ω : Om} {a1 : Int32} {a2 : Int32} (C : CX κ ω cX7_beaten 6 9 yX7_beaten.cls) (hlau : κ.2.1 = l) (hret : κ.2.2.2.2.2.2.2.2.1.sig.returnType = (some .int)) (hn : 75 ≤ oN ω)  {K32 : Int32 → Int32 → Mem → Option (Int32 × Mem)} (hK32 : ∀ (x4 : Int32) (x3 : Int32) (J : Mem), EE κ ω 6 (Gi κ ω) (K32 x4 x3 J) J 32 [(4, .int x4), (3, .int x3), (0, .ref (oA ω 56)), (1, .int a1), (2, .int a2)] []) : ∀ (n : Nat) (x5 : Int32) (x4 : Int32) (x3 : Int32) (I : Mem), EE κ ω 6 (Gi κ ω) (f_X7_beaten_b50 a1 a2 K32 n x5 x4 x3 I) I 50 [(5, .int x5), (4, .int x4), (3, .int x3), (0, .ref (oA ω 56)), (1, .int a1), (2, .int a2)] [] := by
  intro n
  induction n with
  | zero => intro x5 x4 x3 I; exact e_none
  | succ n ih =>
    intro x5 x4 x3 I
    rw [f_X7_beaten_b50]
    refine e_iload C dX7_beaten_50 0 rfl (q := 52) rfl ?_
    refine e_aload_n C dX7_beaten_52 rfl 3 rfl (q := 53) rfl ?_
    refine e_getf C (k := 56) (j := 0) (T := TX7) (N := 32) (v := .int (I 56 0)) dX7_beaten_53 (ltL hn (Nat.le_of_ble_eq_true rfl)) rfl rfl (by decide) in_X7 w_762 rfl (q := 56) rfl ?_
    refine e_icmpge C (tgt := 104) (q := 59) dX7_beaten_56 rfl rfl ?_ ?_
    · refine e_aload_n C dX7_beaten_104 rfl 3 rfl (q := 105) rfl ?_
      refine e_bipush C dX7_beaten_105 b8_60 (q := 107) rfl ?_
      refine e_callVv C (l := l) (k := 56) (av := [.int (60 : Int32)]) (st := []) hlau (x_X7_passes (l := l) (ω := ω) (a1 := (60 : Int32)) hn (I := I)) dX7_beaten_107 w_980 w_982 w_46 w_67 w_983 md_X7_passes (by decide) (by decide) rfl (ltL hn (Nat.le_of_ble_eq_true rfl)) rfl rfl (Nat.le_of_ble_eq_true rfl) (q := 110) rfl (fun _ J8 => ?_)
      refine e_iload_n C dX7_beaten_110 rfl 2 rfl (q := 111) rfl ?_
      refine e_aload_n C dX7_beaten_111 rfl 3 rfl (q := 112) rfl ?_
      refine e_iload_n C dX7_beaten_112 rfl 4 rfl (q := 113) rfl ?_
      refine e_callVi C (l := l) (k := 56) (av := [.int a1]) (st := [.int x3]) hlau (x_X7_isUp (l := l) (ω := ω) (a1 := a1) hn (I := J8)) dX7_beaten_113 w_867 w_869 w_31 w_67 w_870 md_X7_isUp (by decide) (by decide) rfl (ltL hn (Nat.le_of_ble_eq_true rfl)) rfl rfl (Nat.le_of_ble_eq_true rfl) (q := 116) rfl (fun v10 J9 => ?_)
      refine e_ifeq C (tgt := 135) (q := 119) dX7_beaten_116 rfl rfl ?_ ?_
      · exact e_lv [1, 3, 4, 5] (lv1 := [(4, .int x4), (0, .ref (oA ω 56)), (1, .int a1), (2, .int a2)]) rfl (xb_X7_beaten_b135 C hlau hret hn hK32 x4 x3 _)
      · refine e_aload_n C dX7_beaten_119 rfl 3 rfl (q := 120) rfl ?_
        refine e_iload C dX7_beaten_120 1 rfl (q := 122) rfl ?_
        refine e_callVi C (l := l) (k := 56) (av := [.int x4]) (st := [.int x3]) hlau (x_X7_isUp (l := l) (ω := ω) (a1 := x4) hn (I := J9)) dX7_beaten_122 w_867 w_869 w_31 w_67 w_870 md_X7_isUp (by decide) (by decide) rfl (ltL hn (Nat.le_of_ble_eq_true rfl)) rfl rfl (Nat.le_of_ble_eq_true rfl) (q := 125) rfl (fun v14 J13 => ?_)
        refine e_ifne C (tgt := 135) (q := 128) dX7_beaten_125 rfl rfl ?_ ?_
        · exact e_lv [1, 3, 4, 5] (lv1 := [(4, .int x4), (0, .ref (oA ω 56)), (1, .int a1), (2, .int a2)]) rfl (xb_X7_beaten_b135 C hlau hret hn hK32 x4 x3 _)
        · refine e_iconst C dX7_beaten_128 ic_1 (q := 129) rfl ?_
          refine e_iload C dX7_beaten_129 1 rfl (q := 131) rfl ?_
          refine e_ishl C dX7_beaten_131 (q := 132) rfl ?_
          refine e_goto C (tgt := 136) dX7_beaten_132 rfl ?_
          exact e_lv [1, 3, 4, 5] (lv1 := [(4, .int x4), (0, .ref (oA ω 56)), (1, .int a1), (2, .int a2)]) rfl (xb_X7_beaten_b136 C hlau hret hn hK32 x4 ((1 : Int32) <<< (x4 &&& 31)) x3 _)
    · refine e_aload_n C dX7_beaten_59 rfl 3 rfl (q := 60) rfl ?_
      refine e_getf C (k := 56) (j := 3) (T := TX7) (N := 32) (v := .ref (oA ω 59)) dX7_beaten_60 (ltL hn (Nat.le_of_ble_eq_true rfl)) rfl rfl (by decide) in_X7 w_765 rfl (q := 63) rfl ?_
      refine e_iconst C dX7_beaten_63 ic_4 (q := 64) rfl ?_
      refine e_iload C dX7_beaten_64 0 rfl (q := 66) rfl ?_
      refine e_imul C dX7_beaten_66 (q := 67) rfl ?_
      refine e_iconst C dX7_beaten_67 ic_1 (q := 68) rfl ?_
      refine e_iadd C dX7_beaten_68 (q := 69) rfl ?_
      refine e_iload C dX7_beaten_69 0 rfl (q := 71) rfl ?_
      refine e_iload_n C dX7_beaten_71 rfl 4 rfl (q := 72) rfl ?_
      refine e_icmpeq C (tgt := 82) (q := 75) dX7_beaten_72 rfl rfl ?_ ?_
      · exact xb_X7_beaten_b82 C hlau hret hn hK32 ih x5 x4 x3 (((4 : Int32) * x5) + (1 : Int32)) _
      · refine e_iload C dX7_beaten_75 0 rfl (q := 77) rfl ?_
        refine e_iload C dX7_beaten_77 1 rfl (q := 79) rfl ?_
        refine e_icmpne C (tgt := 96) (q := 82) dX7_beaten_79 rfl rfl ?_ ?_
        · refine e_iconst C dX7_beaten_96 ic_0 (q := 97) rfl ?_
          exact xb_X7_beaten_b97 C hlau hret hn hK32 ih x5 x4 x3 (0 : Int32) (((4 : Int32) * x5) + (1 : Int32)) _
        · exact xb_X7_beaten_b82 C hlau hret hn hK32 ih x5 x4 x3 (((4 : Int32) * x5) + (1 : Int32)) _
set_option maxHeartbeats 4000000 in
set_option maxRecDepth 100000 in
theorem xb_X7_beaten_b32 {l : Launch} {κ : Kx} {ω : Om} {a1 : Int32} {a2 : Int32} (C : CX κ ω cX7_beaten 6 9 yX7_beaten.cls) (hlau : κ.2.1 = l) (hret : κ.2.2.2.2.2.2.2.2.1.sig.returnType = (some .int)) (hn : 75 ≤ oN ω)  : ∀ (n : Nat) (x4 : Int32) (x3 : Int32) (I : Mem), EE κ ω 6 (Gi κ ω) (f_X7_beaten_b32 a1 a2 n x4 x3 I) I 32 [(4, .int x4), (3, .int x3), (0, .ref (oA ω 56)), (1, .int a1), (2, .int a2)] [] := by
  intro n
  induction n with
  | zero => intro x4 x3 I; exact e_none
  | succ n ih =>
    intro x4 x3 I
    rw [f_X7_beaten_b32]
    refine e_iload C dX7_beaten_32 0 rfl (q := 34) rfl ?_
    refine e_aload_n C dX7_beaten_34 rfl 2 rfl (q := 35) rfl ?_
    refine e_getf C (k := 56) (j := 0) (T := TX7) (N := 32) (v := .int (I 56 0)) dX7_beaten_35 (ltL hn (Nat.le_of_ble_eq_true rfl)) rfl rfl (by decide) in_X7 w_762 rfl (q := 38) rfl ?_
    refine e_icmpge C (tgt := 148) (q := 41) dX7_beaten_38 rfl rfl ?_ ?_
    · refine e_iload_n C dX7_beaten_148 rfl 4 rfl (q := 149) rfl ?_
      refine e_ifne C (tgt := 156) (q := 152) dX7_beaten_149 rfl rfl ?_ ?_
      · refine e_iload_n C dX7_beaten_156 rfl 1 rfl (q := 157) rfl ?_
        refine e_callSi C (l := l) (av := [.int x3]) (st := []) hlau (x_X7_onesOf (l := l) (ω := ω) (a0 := x3) hn (I := I)) dX7_beaten_157 w_871 w_872 w_67 w_873 md_X7_onesOf (by decide) (by decide) rfl (Nat.le_of_ble_eq_true rfl) (q := 160) rfl (fun v7 J6 => ?_)
        exact e_ireturn C dX7_beaten_160 hret rfl
      · refine e_iload_n C dX7_beaten_152 rfl 1 rfl (q := 153) rfl ?_
        refine e_goto C (tgt := 160) dX7_beaten_153 rfl ?_
        exact e_ireturn C dX7_beaten_160 hret rfl
    · refine e_iload C dX7_beaten_41 0 rfl (q := 43) rfl ?_
      refine e_iload_n C dX7_beaten_43 rfl 3 rfl (q := 44) rfl ?_
      refine e_icmpeq C (tgt := 142) (q := 47) dX7_beaten_44 rfl rfl ?_ ?_
      · refine e_iinc C (v := x4 + (1 : Int32)) (lv1 := [(4, .int (x4 + (1 : Int32))), (3, .int x3), (0, .ref (oA ω 56)), (1, .int a1), (2, .int a2)]) dX7_beaten_142 0 rfl (Nat.le_of_ble_eq_true rfl) (by rw [ic_1]) rfl (q := 145) rfl ?_
        refine e_goto C (tgt := 32) dX7_beaten_145 rfl ?_
        exact ih (x4 + (1 : Int32)) x3 _
      · refine e_iconst C dX7_beaten_47 ic_0 (q := 48) rfl ?_
        refine e_istore C (lv1 := [(5, .int (0 : Int32)), (4, .int x4), (3, .int x3), (0, .ref (oA ω 56)), (1, .int a1), (2, .int a2)]) dX7_beaten_48 (Nat.le_of_ble_eq_true rfl) rfl (q := 50) rfl ?_
        exact xb_X7_beaten_b50 C hlau hret hn ih FU (0 : Int32) x4 x3 _
set_option maxHeartbeats 4000000 in
set_option maxRecDepth 100000 in
theorem x_X7_beaten {l : Launch} {ω : Om} {a1 : Int32} {a2 : Int32} (hn : 75 ≤ oN ω)  {I : Mem} : CTi l ω yX7_beaten cX7_beaten 6 (some .int) 9 [.ref (oA ω 56), .int a1, .int a2] (f_X7_beaten a1 a2 I) I := by
  refine ct_i (by decide) (Nat.le_of_ble_eq_true rfl) ?_
  intro κ hlau hret C
  refine e_lv [0, 1, 2] (lv1 := [(0, .ref (oA ω 56)), (1, .int a1), (2, .int a2)]) rfl ?_
  unfold f_X7_beaten
  refine e_aload_n C dX7_beaten_0 rfl 0 rfl (q := 1) rfl ?_
  refine e_iload_n C dX7_beaten_1 rfl 1 rfl (q := 2) rfl ?_
  refine e_callVi C (l := l) (k := 56) (av := [.int a1]) (st := []) hlau (x_X7_isOne (l := l) (ω := ω) (a1 := a1) hn (I := I)) dX7_beaten_2 w_890 w_892 w_32 w_67 w_893 md_X7_isOne (by decide) (by decide) rfl (ltL hn (Nat.le_of_ble_eq_true rfl)) rfl rfl (Nat.le_of_ble_eq_true rfl) (q := 5) rfl (fun v2 J1 => ?_)
  refine e_ifne C (tgt := 11) (q := 8) dX7_beaten_5 rfl rfl ?_ ?_
  · refine e_iload_n C dX7_beaten_11 rfl 2 rfl (q := 12) rfl ?_
    refine e_iconst C dX7_beaten_12 ic_0 (q := 13) rfl ?_
    refine e_iconst C dX7_beaten_13 ic_1 (q := 14) rfl ?_
    refine e_callSi C (l := l) (av := [.int a2, .int (0 : Int32), .int (1 : Int32)]) (st := []) hlau (x_X7_in (l := l) (ω := ω) (a0 := a2) (a1 := (0 : Int32)) (a2 := (1 : Int32)) hn (I := J1)) dX7_beaten_14 w_723 w_724 w_67 w_725 md_X7_in (by decide) (by decide) rfl (Nat.le_of_ble_eq_true rfl) (q := 17) rfl (fun v4 J3 => ?_)
    refine e_ifne C (tgt := 23) (q := 20) dX7_beaten_17 rfl rfl ?_ ?_
    · refine e_iconst C dX7_beaten_23 ic_0 (q := 24) rfl ?_
      refine e_istore_n C (lv1 := [(3, .int (0 : Int32)), (0, .ref (oA ω 56)), (1, .int a1), (2, .int a2)]) dX7_beaten_24 rfl (Nat.le_of_ble_eq_true rfl) rfl (q := 25) rfl ?_
      refine e_aload_n C dX7_beaten_25 rfl 1 rfl (q := 26) rfl ?_
      refine e_callVv C (l := l) (k := 56) (av := []) (st := []) hlau (x_X7_keeps (l := l) (ω := ω) hn (I := J3)) dX7_beaten_26 w_976 w_978 w_45 w_67 w_979 md_X7_keeps (by decide) (by decide) rfl (ltL hn (Nat.le_of_ble_eq_true rfl)) rfl rfl (Nat.le_of_ble_eq_true rfl) (q := 29) rfl (fun _ J5 => ?_)
      refine e_iconst C dX7_beaten_29 ic_0 (q := 30) rfl ?_
      refine e_istore C (lv1 := [(4, .int (0 : Int32)), (3, .int (0 : Int32)), (0, .ref (oA ω 56)), (1, .int a1), (2, .int a2)]) dX7_beaten_30 (Nat.le_of_ble_eq_true rfl) rfl (q := 32) rfl ?_
      exact xb_X7_beaten_b32 C hlau hret hn FU (0 : Int32) (0 : Int32) _
    · refine e_bipush C dX7_beaten_20 b8_m7 (q := 22) rfl ?_
      exact e_ireturn C dX7_beaten_22 hret rfl
  · refine e_bipush C dX7_beaten_8 b8_m5 (q := 10) rfl ?_
    exact e_ireturn C dX7_beaten_10 hret rfl
set_option maxHeartbeats 4000000 in
set_option maxRecDepth 100000 in
theorem x_X7_feltBehind {l : Launch} {ω : Om} {a1 : Int32} {a2 : Int32} (hn : 75 ≤ oN ω)  {I : Mem} : CTi l ω yX7_feltBehind cX7_feltBehind 4 (some .int) 9 [.ref (oA ω 56), .int a1, .int a2] (f_X7_feltBehind a1 a2 I) I := by
  refine ct_i (by decide) (Nat.le_of_ble_eq_true rfl) ?_
  intro κ hlau hret C
  refine e_lv [0, 1, 2] (lv1 := [(0, .ref (oA ω 56)), (1, .int a1), (2, .int a2)]) rfl ?_
  unfold f_X7_feltBehind
  refine e_aload_n C dX7_feltBehind_0 rfl 0 rfl (q := 1) rfl ?_
  refine e_iload_n C dX7_feltBehind_1 rfl 2 rfl (q := 2) rfl ?_
  refine e_callVv C (l := l) (k := 56) (av := [.int a2]) (st := []) hlau (x_X7_passes (l := l) (ω := ω) (a1 := a2) hn (I := I)) dX7_feltBehind_2 w_980 w_982 w_46 w_67 w_983 md_X7_passes (by decide) (by decide) rfl (ltL hn (Nat.le_of_ble_eq_true rfl)) rfl rfl (Nat.le_of_ble_eq_true rfl) (q := 5) rfl (fun _ J1 => ?_)
  refine e_aload_n C dX7_feltBehind_5 rfl 0 rfl (q := 6) rfl ?_
  refine e_getf C (k := 56) (j := 3) (T := TX7) (N := 32) (v := .ref (oA ω 59)) dX7_feltBehind_6 (ltL hn (Nat.le_of_ble_eq_true rfl)) rfl rfl (by decide) in_X7 w_765 rfl (q := 9) rfl ?_
  refine e_iconst C dX7_feltBehind_9 ic_4 (q := 10) rfl ?_
  refine e_iload_n C dX7_feltBehind_10 rfl 1 rfl (q := 11) rfl ?_
  refine e_imul C dX7_feltBehind_11 (q := 12) rfl ?_
  refine e_iconst C dX7_feltBehind_12 ic_1 (q := 13) rfl ?_
  refine e_iadd C dX7_feltBehind_13 (q := 14) rfl ?_
  refine e_nmi (fun v2 => ?_)
  refine e_iald C (k := 59) (n := 24) dX7_feltBehind_14 (ltL hn (Nat.le_of_ble_eq_true rfl)) rfl (q := 15) rfl ?_
  refine e_nmi (fun v3 => ?_)
  refine e_istore_n C (lv1 := [(3, .int v3), (0, .ref (oA ω 56)), (1, .int a1), (2, .int a2)]) dX7_feltBehind_15 rfl (Nat.le_of_ble_eq_true rfl) rfl (q := 16) rfl ?_
  refine e_aload_n C dX7_feltBehind_16 rfl 1 rfl (q := 17) rfl ?_
  refine e_callVv C (l := l) (k := 56) (av := []) (st := []) hlau (x_X7_lays (l := l) (ω := ω) hn (I := J1)) dX7_feltBehind_17 w_988 w_990 w_48 w_67 w_991 md_X7_lays (by decide) (by decide) rfl (ltL hn (Nat.le_of_ble_eq_true rfl)) rfl rfl (Nat.le_of_ble_eq_true rfl) (q := 20) rfl (fun _ J4 => ?_)
  refine e_iload_n C dX7_feltBehind_20 rfl 0 rfl (q := 21) rfl ?_
  exact e_ireturn C dX7_feltBehind_21 hret rfl
set_option maxHeartbeats 4000000 in
set_option maxRecDepth 100000 in
theorem xb_X7_toss_b101 {l : Launch} {κ : Kx} {ω : Om} {a1 : Int32} {a2 : Int32} {a3 : Int32} (C : CX κ ω cX7_toss 8 10 yX7_toss.cls) (hlau : κ.2.1 = l) (hret : κ.2.2.2.2.2.2.2.2.1.sig.returnType = (some .int)) (hn : 75 ≤ oN ω)  {K46 : Int32 → Int32 → Int32 → Mem → Option (Int32 × Mem)} (hK46 : ∀ (x6 : Int32) (x5 : Int32) (x4 : Int32) (J : Mem), EE κ ω 8 (Gi κ ω) (K46 x6 x5 x4 J) J 46 [(6, .int x6), (5, .int x5), (4, .int x4), (0, .ref (oA ω 56)), (1, .int a1), (2, .int a2), (3, .int a3)] []) : ∀ (x4 : Int32) (x6 : Int32) (s0 : Int32) (I : Mem), EE κ ω 8 (Gi κ ω) (f_X7_toss_b101 a1 a2 a3 K46 x4 x6 s0 I) I 101 [(4, .int x4), (6, .int x6), (0, .ref (oA ω 56)), (1, .int a1), (2, .int a2), (3, .int a3)] [.int s0] := by
  intro x4 x6 s0 I
  unfold f_X7_toss_b101
  refine e_istore C (lv1 := [(5, .int s0), (4, .int x4), (6, .int x6), (0, .ref (oA ω 56)), (1, .int a1), (2, .int a2), (3, .int a3)]) dX7_toss_101 (Nat.le_of_ble_eq_true rfl) rfl (q := 103) rfl ?_
  refine e_iinc C (v := x6 + (1 : Int32)) (lv1 := [(6, .int (x6 + (1 : Int32))), (5, .int s0), (4, .int x4), (0, .ref (oA ω 56)), (1, .int a1), (2, .int a2), (3, .int a3)]) dX7_toss_103 2 rfl (Nat.le_of_ble_eq_true rfl) (by rw [ic_1]) rfl (q := 106) rfl ?_
  refine e_goto C (tgt := 46) dX7_toss_106 rfl ?_
  exact hK46 (x6 + (1 : Int32)) s0 x4 _
set_option maxHeartbeats 4000000 in
set_option maxRecDepth 100000 in
theorem xb_X7_toss_b85 {l : Launch} {κ : Kx} {ω : Om} {a1 : Int32} {a2 : Int32} {a3 : Int32} (C : CX κ ω cX7_toss 8 10 yX7_toss.cls) (hlau : κ.2.1 = l) (hret : κ.2.2.2.2.2.2.2.2.1.sig.returnType = (some .int)) (hn : 75 ≤ oN ω)  {K46 : Int32 → Int32 → Int32 → Mem → Option (Int32 × Mem)} (hK46 : ∀ (x6 : Int32) (x5 : Int32) (x4 : Int32) (J : Mem), EE κ ω 8 (Gi κ ω) (K46 x6 x5 x4 J) J 46 [(6, .int x6), (5, .int x5), (4, .int x4), (0, .ref (oA ω 56)), (1, .int a1), (2, .int a2), (3, .int a3)] []) : ∀ (x7 : Int32) (x6 : Int32) (x5 : Int32) (s0 : Int32) (I : Mem), EE κ ω 8 (Gi κ ω) (f_X7_toss_b85 a1 a2 a3 K46 x7 x6 x5 s0 I) I 85 [(7, .int x7), (6, .int x6), (5, .int x5), (0, .ref (oA ω 56)), (1, .int a1), (2, .int a2), (3, .int a3)] [.int s0] := by
  intro x7 x6 x5 s0 I
  unfold f_X7_toss_b85
  refine e_istore C (lv1 := [(4, .int s0), (7, .int x7), (6, .int x6), (5, .int x5), (0, .ref (oA ω 56)), (1, .int a1), (2, .int a2), (3, .int a3)]) dX7_toss_85 (Nat.le_of_ble_eq_true rfl) rfl (q := 87) rfl ?_
  refine e_iload C dX7_toss_87 1 rfl (q := 89) rfl ?_
  refine e_iload C dX7_toss_89 3 rfl (q := 91) rfl ?_
  refine e_icmple C (tgt := 99) (q := 94) dX7_toss_91 rfl rfl ?_ ?_
  · refine e_iload C dX7_toss_99 3 rfl (q := 101) rfl ?_
    exact e_lv [0, 2, 4, 5, 6, 7] (lv1 := [(4, .int s0), (6, .int x6), (0, .ref (oA ω 56)), (1, .int a1), (2, .int a2), (3, .int a3)]) rfl (xb_X7_toss_b101 C hlau hret hn hK46 s0 x6 x5 _)
  · refine e_iload C dX7_toss_94 1 rfl (q := 96) rfl ?_
    refine e_goto C (tgt := 101) dX7_toss_96 rfl ?_
    exact e_lv [0, 2, 4, 5, 6, 7] (lv1 := [(4, .int s0), (6, .int x6), (0, .ref (oA ω 56)), (1, .int a1), (2, .int a2), (3, .int a3)]) rfl (xb_X7_toss_b101 C hlau hret hn hK46 s0 x6 x7 _)
set_option maxHeartbeats 4000000 in
set_option maxRecDepth 100000 in
theorem xb_X7_toss_b46 {l : Launch} {κ : Kx} {ω : Om} {a1 : Int32} {a2 : Int32} {a3 : Int32} (C : CX κ ω cX7_toss 8 10 yX7_toss.cls) (hlau : κ.2.1 = l) (hret : κ.2.2.2.2.2.2.2.2.1.sig.returnType = (some .int)) (hn : 75 ≤ oN ω)  : ∀ (n : Nat) (x6 : Int32) (x5 : Int32) (x4 : Int32) (I : Mem), EE κ ω 8 (Gi κ ω) (f_X7_toss_b46 a1 a2 a3 n x6 x5 x4 I) I 46 [(6, .int x6), (5, .int x5), (4, .int x4), (0, .ref (oA ω 56)), (1, .int a1), (2, .int a2), (3, .int a3)] [] := by
  intro n
  induction n with
  | zero => intro x6 x5 x4 I; exact e_none
  | succ n ih =>
    intro x6 x5 x4 I
    rw [f_X7_toss_b46]
    refine e_iload C dX7_toss_46 0 rfl (q := 48) rfl ?_
    refine e_bipush C dX7_toss_48 b8_64 (q := 50) rfl ?_
    refine e_icmpge C (tgt := 109) (q := 53) dX7_toss_50 rfl rfl ?_ ?_
    · refine e_iload_n C dX7_toss_109 rfl 6 rfl (q := 110) rfl ?_
      refine e_ifne C (tgt := 118) (q := 113) dX7_toss_110 rfl rfl ?_ ?_
      · refine e_iload C dX7_toss_118 1 rfl (q := 120) rfl ?_
        exact e_ireturn C dX7_toss_120 hret rfl
      · refine e_iload C dX7_toss_113 2 rfl (q := 115) rfl ?_
        refine e_goto C (tgt := 120) dX7_toss_115 rfl ?_
        exact e_ireturn C dX7_toss_120 hret rfl
    · refine e_aload_n C dX7_toss_53 rfl 3 rfl (q := 54) rfl ?_
      refine e_getf C (k := 56) (j := 3) (T := TX7) (N := 32) (v := .ref (oA ω 59)) dX7_toss_54 (ltL hn (Nat.le_of_ble_eq_true rfl)) rfl rfl (by decide) in_X7 w_765 rfl (q := 57) rfl ?_
      refine e_iconst C dX7_toss_57 ic_4 (q := 58) rfl ?_
      refine e_iload_n C dX7_toss_58 rfl 4 rfl (q := 59) rfl ?_
      refine e_imul C dX7_toss_59 (q := 60) rfl ?_
      refine e_iload C dX7_toss_60 0 rfl (q := 62) rfl ?_
      refine e_iast C (k := 59) (n := 24) dX7_toss_62 (ltL hn (Nat.le_of_ble_eq_true rfl)) (fun _ => rfl) (q := 63) rfl ?_
      refine e_nmM (fun J8 => ?_)
      refine e_aload_n C dX7_toss_63 rfl 3 rfl (q := 64) rfl ?_
      refine e_iload_n C dX7_toss_64 rfl 4 rfl (q := 65) rfl ?_
      refine e_iload_n C dX7_toss_65 rfl 5 rfl (q := 66) rfl ?_
      refine e_callVi C (l := l) (k := 56) (av := [.int a1, .int a2]) (st := []) hlau (x_X7_feltBehind (l := l) (ω := ω) (a1 := a1) (a2 := a2) hn (I := J8)) dX7_toss_66 w_1012 w_1014 w_50 w_67 w_1015 md_X7_feltBehind (by decide) (by decide) rfl (ltL hn (Nat.le_of_ble_eq_true rfl)) rfl rfl (Nat.le_of_ble_eq_true rfl) (q := 69) rfl (fun v10 J9 => ?_)
      refine e_istore C (lv1 := [(7, .int v10), (6, .int x6), (5, .int x5), (4, .int x4), (0, .ref (oA ω 56)), (1, .int a1), (2, .int a2), (3, .int a3)]) dX7_toss_69 (Nat.le_of_ble_eq_true rfl) rfl (q := 71) rfl ?_
      refine e_iload C dX7_toss_71 0 rfl (q := 73) rfl ?_
      refine e_iload C dX7_toss_73 2 rfl (q := 75) rfl ?_
      refine e_icmple C (tgt := 83) (q := 78) dX7_toss_75 rfl rfl ?_ ?_
      · refine e_iload C dX7_toss_83 3 rfl (q := 85) rfl ?_
        exact e_lv [0, 1, 2, 4, 5, 6, 7] (lv1 := [(7, .int v10), (6, .int x6), (5, .int x5), (0, .ref (oA ω 56)), (1, .int a1), (2, .int a2), (3, .int a3)]) rfl (xb_X7_toss_b85 C hlau hret hn ih v10 x6 x5 x4 _)
      · refine e_iload C dX7_toss_78 1 rfl (q := 80) rfl ?_
        refine e_goto C (tgt := 85) dX7_toss_80 rfl ?_
        exact e_lv [0, 1, 2, 4, 5, 6, 7] (lv1 := [(7, .int v10), (6, .int x6), (5, .int x5), (0, .ref (oA ω 56)), (1, .int a1), (2, .int a2), (3, .int a3)]) rfl (xb_X7_toss_b85 C hlau hret hn ih v10 x6 x5 x6 _)
set_option maxHeartbeats 4000000 in
set_option maxRecDepth 100000 in
theorem x_X7_toss {l : Launch} {ω : Om} {a1 : Int32} {a2 : Int32} {a3 : Int32} (hn : 75 ≤ oN ω)  {I : Mem} : CTi l ω yX7_toss cX7_toss 8 (some .int) 10 [.ref (oA ω 56), .int a1, .int a2, .int a3] (f_X7_toss a1 a2 a3 I) I := by
  refine ct_i (by decide) (Nat.le_of_ble_eq_true rfl) ?_
  intro κ hlau hret C
  refine e_lv [0, 1, 2, 3] (lv1 := [(0, .ref (oA ω 56)), (1, .int a1), (2, .int a2), (3, .int a3)]) rfl ?_
  unfold f_X7_toss
  refine e_aload_n C dX7_toss_0 rfl 0 rfl (q := 1) rfl ?_
  refine e_iload_n C dX7_toss_1 rfl 1 rfl (q := 2) rfl ?_
  refine e_callVi C (l := l) (k := 56) (av := [.int a1]) (st := []) hlau (x_X7_isOne (l := l) (ω := ω) (a1 := a1) hn (I := I)) dX7_toss_2 w_890 w_892 w_32 w_67 w_893 md_X7_isOne (by decide) (by decide) rfl (ltL hn (Nat.le_of_ble_eq_true rfl)) rfl rfl (Nat.le_of_ble_eq_true rfl) (q := 5) rfl (fun v2 J1 => ?_)
  refine e_ifne C (tgt := 11) (q := 8) dX7_toss_5 rfl rfl ?_ ?_
  · refine e_iload_n C dX7_toss_11 rfl 2 rfl (q := 12) rfl ?_
    refine e_iconst C dX7_toss_12 ic_0 (q := 13) rfl ?_
    refine e_bipush C dX7_toss_13 b8_40 (q := 15) rfl ?_
    refine e_callSi C (l := l) (av := [.int a2, .int (0 : Int32), .int (40 : Int32)]) (st := []) hlau (x_X7_in (l := l) (ω := ω) (a0 := a2) (a1 := (0 : Int32)) (a2 := (40 : Int32)) hn (I := J1)) dX7_toss_15 w_723 w_724 w_67 w_725 md_X7_in (by decide) (by decide) rfl (Nat.le_of_ble_eq_true rfl) (q := 18) rfl (fun v4 J3 => ?_)
    refine e_ifeq C (tgt := 30) (q := 21) dX7_toss_18 rfl rfl ?_ ?_
    · refine e_bipush C dX7_toss_30 b8_m7 (q := 32) rfl ?_
      exact e_ireturn C dX7_toss_32 hret rfl
    · refine e_iload_n C dX7_toss_21 rfl 3 rfl (q := 22) rfl ?_
      refine e_iconst C dX7_toss_22 ic_0 (q := 23) rfl ?_
      refine e_iconst C dX7_toss_23 ic_1 (q := 24) rfl ?_
      refine e_callSi C (l := l) (av := [.int a3, .int (0 : Int32), .int (1 : Int32)]) (st := []) hlau (x_X7_in (l := l) (ω := ω) (a0 := a3) (a1 := (0 : Int32)) (a2 := (1 : Int32)) hn (I := J3)) dX7_toss_24 w_723 w_724 w_67 w_725 md_X7_in (by decide) (by decide) rfl (Nat.le_of_ble_eq_true rfl) (q := 27) rfl (fun v6 J5 => ?_)
      refine e_ifne C (tgt := 33) (q := 30) dX7_toss_27 rfl rfl ?_ ?_
      · refine e_iconst C dX7_toss_33 ic_m1 (q := 34) rfl ?_
        refine e_istore C (lv1 := [(4, .int (-1 : Int32)), (0, .ref (oA ω 56)), (1, .int a1), (2, .int a2), (3, .int a3)]) dX7_toss_34 (Nat.le_of_ble_eq_true rfl) rfl (q := 36) rfl ?_
        refine e_iconst C dX7_toss_36 ic_m1 (q := 37) rfl ?_
        refine e_istore C (lv1 := [(5, .int (-1 : Int32)), (4, .int (-1 : Int32)), (0, .ref (oA ω 56)), (1, .int a1), (2, .int a2), (3, .int a3)]) dX7_toss_37 (Nat.le_of_ble_eq_true rfl) rfl (q := 39) rfl ?_
        refine e_aload_n C dX7_toss_39 rfl 2 rfl (q := 40) rfl ?_
        refine e_callVv C (l := l) (k := 56) (av := []) (st := []) hlau (x_X7_keeps (l := l) (ω := ω) hn (I := J5)) dX7_toss_40 w_976 w_978 w_45 w_67 w_979 md_X7_keeps (by decide) (by decide) rfl (ltL hn (Nat.le_of_ble_eq_true rfl)) rfl rfl (Nat.le_of_ble_eq_true rfl) (q := 43) rfl (fun _ J7 => ?_)
        refine e_iconst C dX7_toss_43 ic_0 (q := 44) rfl ?_
        refine e_istore C (lv1 := [(6, .int (0 : Int32)), (5, .int (-1 : Int32)), (4, .int (-1 : Int32)), (0, .ref (oA ω 56)), (1, .int a1), (2, .int a2), (3, .int a3)]) dX7_toss_44 (Nat.le_of_ble_eq_true rfl) rfl (q := 46) rfl ?_
        exact xb_X7_toss_b46 C hlau hret hn FU (0 : Int32) (-1 : Int32) (-1 : Int32) _
      · refine e_bipush C dX7_toss_30 b8_m7 (q := 32) rfl ?_
        exact e_ireturn C dX7_toss_32 hret rfl
  · refine e_bipush C dX7_toss_8 b8_m5 (q := 10) rfl ?_
    exact e_ireturn C dX7_toss_10 hret rfl
set_option maxHeartbeats 4000000 in
set_option maxRecDepth 100000 in
theorem xb_X7_rid_b125 {l : Launch} {κ : Kx} {ω : Om} {a1 : Int32} {a2 : Int32} {a3 : Int32} (C : CX κ ω cX7_rid 8 10 yX7_rid.cls) (hlau : κ.2.1 = l) (hret : κ.2.2.2.2.2.2.2.2.1.sig.returnType = (some .int)) (hn : 75 ≤ oN ω)  {K51 : Int32 → Int32 → Int32 → Mem → Option (Int32 × Mem)} (hK51 : ∀ (x6 : Int32) (x5 : Int32) (x4 : Int32) (J : Mem), EE κ ω 8 (Gi κ ω) (K51 x6 x5 x4 J) J 51 [(6, .int x6), (5, .int x5), (4, .int x4), (0, .ref (oA ω 56)), (1, .int a1), (2, .int a2), (3, .int a3)] []) : ∀ (x4 : Int32) (x6 : Int32) (s0 : Int32) (I : Mem), EE κ ω 8 (Gi κ ω) (f_X7_rid_b125 a1 a2 a3 K51 x4 x6 s0 I) I 125 [(4, .int x4), (6, .int x6), (0, .ref (oA ω 56)), (1, .int a1), (2, .int a2), (3, .int a3)] [.int s0] := by
  intro x4 x6 s0 I
  unfold f_X7_rid_b125
  refine e_istore C (lv1 := [(5, .int s0), (4, .int x4), (6, .int x6), (0, .ref (oA ω 56)), (1, .int a1), (2, .int a2), (3, .int a3)]) dX7_rid_125 (Nat.le_of_ble_eq_true rfl) rfl (q := 127) rfl ?_
  refine e_iinc C (v := x6 + (1 : Int32)) (lv1 := [(6, .int (x6 + (1 : Int32))), (5, .int s0), (4, .int x4), (0, .ref (oA ω 56)), (1, .int a1), (2, .int a2), (3, .int a3)]) dX7_rid_127 2 rfl (Nat.le_of_ble_eq_true rfl) (by rw [ic_1]) rfl (q := 130) rfl ?_
  refine e_goto C (tgt := 51) dX7_rid_130 rfl ?_
  exact hK51 (x6 + (1 : Int32)) s0 x4 _
set_option maxHeartbeats 4000000 in
set_option maxRecDepth 100000 in
theorem xb_X7_rid_b109 {l : Launch} {κ : Kx} {ω : Om} {a1 : Int32} {a2 : Int32} {a3 : Int32} (C : CX κ ω cX7_rid 8 10 yX7_rid.cls) (hlau : κ.2.1 = l) (hret : κ.2.2.2.2.2.2.2.2.1.sig.returnType = (some .int)) (hn : 75 ≤ oN ω)  {K51 : Int32 → Int32 → Int32 → Mem → Option (Int32 × Mem)} (hK51 : ∀ (x6 : Int32) (x5 : Int32) (x4 : Int32) (J : Mem), EE κ ω 8 (Gi κ ω) (K51 x6 x5 x4 J) J 51 [(6, .int x6), (5, .int x5), (4, .int x4), (0, .ref (oA ω 56)), (1, .int a1), (2, .int a2), (3, .int a3)] []) : ∀ (x7 : Int32) (x6 : Int32) (x5 : Int32) (s0 : Int32) (I : Mem), EE κ ω 8 (Gi κ ω) (f_X7_rid_b109 a1 a2 a3 K51 x7 x6 x5 s0 I) I 109 [(7, .int x7), (6, .int x6), (5, .int x5), (0, .ref (oA ω 56)), (1, .int a1), (2, .int a2), (3, .int a3)] [.int s0] := by
  intro x7 x6 x5 s0 I
  unfold f_X7_rid_b109
  refine e_istore C (lv1 := [(4, .int s0), (7, .int x7), (6, .int x6), (5, .int x5), (0, .ref (oA ω 56)), (1, .int a1), (2, .int a2), (3, .int a3)]) dX7_rid_109 (Nat.le_of_ble_eq_true rfl) rfl (q := 111) rfl ?_
  refine e_iload C dX7_rid_111 1 rfl (q := 113) rfl ?_
  refine e_iload C dX7_rid_113 3 rfl (q := 115) rfl ?_
  refine e_icmple C (tgt := 123) (q := 118) dX7_rid_115 rfl rfl ?_ ?_
  · refine e_iload C dX7_rid_123 3 rfl (q := 125) rfl ?_
    exact e_lv [0, 2, 4, 5, 6, 7] (lv1 := [(4, .int s0), (6, .int x6), (0, .ref (oA ω 56)), (1, .int a1), (2, .int a2), (3, .int a3)]) rfl (xb_X7_rid_b125 C hlau hret hn hK51 s0 x6 x5 _)
  · refine e_iload C dX7_rid_118 1 rfl (q := 120) rfl ?_
    refine e_goto C (tgt := 125) dX7_rid_120 rfl ?_
    exact e_lv [0, 2, 4, 5, 6, 7] (lv1 := [(4, .int s0), (6, .int x6), (0, .ref (oA ω 56)), (1, .int a1), (2, .int a2), (3, .int a3)]) rfl (xb_X7_rid_b125 C hlau hret hn hK51 s0 x6 x7 _)
set_option maxHeartbeats 4000000 in
set_option maxRecDepth 100000 in
theorem xb_X7_rid_b51 {l : Launch} {κ : Kx} {ω : Om} {a1 : Int32} {a2 : Int32} {a3 : Int32} (C : CX κ ω cX7_rid 8 10 yX7_rid.cls) (hlau : κ.2.1 = l) (hret : κ.2.2.2.2.2.2.2.2.1.sig.returnType = (some .int)) (hn : 75 ≤ oN ω)  : ∀ (n : Nat) (x6 : Int32) (x5 : Int32) (x4 : Int32) (I : Mem), EE κ ω 8 (Gi κ ω) (f_X7_rid_b51 a1 a2 a3 n x6 x5 x4 I) I 51 [(6, .int x6), (5, .int x5), (4, .int x4), (0, .ref (oA ω 56)), (1, .int a1), (2, .int a2), (3, .int a3)] [] := by
  intro n
  induction n with
  | zero => intro x6 x5 x4 I; exact e_none
  | succ n ih =>
    intro x6 x5 x4 I
    rw [f_X7_rid_b51]
    refine e_iload C dX7_rid_51 0 rfl (q := 53) rfl ?_
    refine e_aload_n C dX7_rid_53 rfl 3 rfl (q := 54) rfl ?_
    refine e_getf C (k := 56) (j := 0) (T := TX7) (N := 32) (v := .int (I 56 0)) dX7_rid_54 (ltL hn (Nat.le_of_ble_eq_true rfl)) rfl rfl (by decide) in_X7 w_762 rfl (q := 57) rfl ?_
    refine e_icmpge C (tgt := 133) (q := 60) dX7_rid_57 rfl rfl ?_ ?_
    · refine e_iload_n C dX7_rid_133 rfl 6 rfl (q := 134) rfl ?_
      refine e_ifne C (tgt := 142) (q := 137) dX7_rid_134 rfl rfl ?_ ?_
      · refine e_iload C dX7_rid_142 1 rfl (q := 144) rfl ?_
        exact e_ireturn C dX7_rid_144 hret rfl
      · refine e_iload C dX7_rid_137 2 rfl (q := 139) rfl ?_
        refine e_goto C (tgt := 144) dX7_rid_139 rfl ?_
        exact e_ireturn C dX7_rid_144 hret rfl
    · refine e_iload C dX7_rid_60 0 rfl (q := 62) rfl ?_
      refine e_iload_n C dX7_rid_62 rfl 4 rfl (q := 63) rfl ?_
      refine e_icmpeq C (tgt := 127) (q := 66) dX7_rid_63 rfl rfl ?_ ?_
      · refine e_iinc C (v := x6 + (1 : Int32)) (lv1 := [(6, .int (x6 + (1 : Int32))), (5, .int x5), (4, .int x4), (0, .ref (oA ω 56)), (1, .int a1), (2, .int a2), (3, .int a3)]) dX7_rid_127 0 rfl (Nat.le_of_ble_eq_true rfl) (by rw [ic_1]) rfl (q := 130) rfl ?_
        refine e_goto C (tgt := 51) dX7_rid_130 rfl ?_
        exact ih (x6 + (1 : Int32)) x5 x4 _
      · refine e_aload_n C dX7_rid_66 rfl 3 rfl (q := 67) rfl ?_
        refine e_iload C dX7_rid_67 0 rfl (q := 69) rfl ?_
        refine e_callVi C (l := l) (k := 56) (av := [.int x6]) (st := []) hlau (x_X7_isUp (l := l) (ω := ω) (a1 := x6) hn (I := I)) dX7_rid_69 w_867 w_869 w_31 w_67 w_870 md_X7_isUp (by decide) (by decide) rfl (ltL hn (Nat.le_of_ble_eq_true rfl)) rfl rfl (Nat.le_of_ble_eq_true rfl) (q := 72) rfl (fun v11 J10 => ?_)
        refine e_ifeq C (tgt := 127) (q := 75) dX7_rid_72 rfl rfl ?_ ?_
        · refine e_iinc C (v := x6 + (1 : Int32)) (lv1 := [(6, .int (x6 + (1 : Int32))), (5, .int x5), (4, .int x4), (0, .ref (oA ω 56)), (1, .int a1), (2, .int a2), (3, .int a3)]) dX7_rid_127 0 rfl (Nat.le_of_ble_eq_true rfl) (by rw [ic_1]) rfl (q := 130) rfl ?_
          refine e_goto C (tgt := 51) dX7_rid_130 rfl ?_
          exact ih (x6 + (1 : Int32)) x5 x4 _
        · refine e_aload_n C dX7_rid_75 rfl 3 rfl (q := 76) rfl ?_
          refine e_getf C (k := 56) (j := 3) (T := TX7) (N := 32) (v := .ref (oA ω 59)) dX7_rid_76 (ltL hn (Nat.le_of_ble_eq_true rfl)) rfl rfl (by decide) in_X7 w_765 rfl (q := 79) rfl ?_
          refine e_iconst C dX7_rid_79 ic_4 (q := 80) rfl ?_
          refine e_iload C dX7_rid_80 0 rfl (q := 82) rfl ?_
          refine e_imul C dX7_rid_82 (q := 83) rfl ?_
          refine e_iconst C dX7_rid_83 ic_1 (q := 84) rfl ?_
          refine e_iadd C dX7_rid_84 (q := 85) rfl ?_
          refine e_iconst C dX7_rid_85 ic_0 (q := 86) rfl ?_
          refine e_iast C (k := 59) (n := 24) dX7_rid_86 (ltL hn (Nat.le_of_ble_eq_true rfl)) (fun _ => rfl) (q := 87) rfl ?_
          refine e_nmM (fun J12 => ?_)
          refine e_aload_n C dX7_rid_87 rfl 3 rfl (q := 88) rfl ?_
          refine e_iload_n C dX7_rid_88 rfl 4 rfl (q := 89) rfl ?_
          refine e_iload_n C dX7_rid_89 rfl 5 rfl (q := 90) rfl ?_
          refine e_callVi C (l := l) (k := 56) (av := [.int a1, .int a2]) (st := []) hlau (x_X7_feltBehind (l := l) (ω := ω) (a1 := a1) (a2 := a2) hn (I := J12)) dX7_rid_90 w_1012 w_1014 w_50 w_67 w_1015 md_X7_feltBehind (by decide) (by decide) rfl (ltL hn (Nat.le_of_ble_eq_true rfl)) rfl rfl (Nat.le_of_ble_eq_true rfl) (q := 93) rfl (fun v14 J13 => ?_)
          refine e_istore C (lv1 := [(7, .int v14), (6, .int x6), (5, .int x5), (4, .int x4), (0, .ref (oA ω 56)), (1, .int a1), (2, .int a2), (3, .int a3)]) dX7_rid_93 (Nat.le_of_ble_eq_true rfl) rfl (q := 95) rfl ?_
          refine e_iload C dX7_rid_95 0 rfl (q := 97) rfl ?_
          refine e_iload C dX7_rid_97 2 rfl (q := 99) rfl ?_
          refine e_icmple C (tgt := 107) (q := 102) dX7_rid_99 rfl rfl ?_ ?_
          · refine e_iload C dX7_rid_107 3 rfl (q := 109) rfl ?_
            exact e_lv [0, 1, 2, 4, 5, 6, 7] (lv1 := [(7, .int v14), (6, .int x6), (5, .int x5), (0, .ref (oA ω 56)), (1, .int a1), (2, .int a2), (3, .int a3)]) rfl (xb_X7_rid_b109 C hlau hret hn ih v14 x6 x5 x4 _)
          · refine e_iload C dX7_rid_102 1 rfl (q := 104) rfl ?_
            refine e_goto C (tgt := 109) dX7_rid_104 rfl ?_
            exact e_lv [0, 1, 2, 4, 5, 6, 7] (lv1 := [(7, .int v14), (6, .int x6), (5, .int x5), (0, .ref (oA ω 56)), (1, .int a1), (2, .int a2), (3, .int a3)]) rfl (xb_X7_rid_b109 C hlau hret hn ih v14 x6 x5 x6 _)
set_option maxHeartbeats 4000000 in
set_option maxRecDepth 100000 in
theorem x_X7_rid {l : Launch} {ω : Om} {a1 : Int32} {a2 : Int32} {a3 : Int32} (hn : 75 ≤ oN ω)  {I : Mem} : CTi l ω yX7_rid cX7_rid 8 (some .int) 10 [.ref (oA ω 56), .int a1, .int a2, .int a3] (f_X7_rid a1 a2 a3 I) I := by
  refine ct_i (by decide) (Nat.le_of_ble_eq_true rfl) ?_
  intro κ hlau hret C
  refine e_lv [0, 1, 2, 3] (lv1 := [(0, .ref (oA ω 56)), (1, .int a1), (2, .int a2), (3, .int a3)]) rfl ?_
  unfold f_X7_rid
  refine e_aload_n C dX7_rid_0 rfl 0 rfl (q := 1) rfl ?_
  refine e_iload_n C dX7_rid_1 rfl 1 rfl (q := 2) rfl ?_
  refine e_callVi C (l := l) (k := 56) (av := [.int a1]) (st := []) hlau (x_X7_isOne (l := l) (ω := ω) (a1 := a1) hn (I := I)) dX7_rid_2 w_890 w_892 w_32 w_67 w_893 md_X7_isOne (by decide) (by decide) rfl (ltL hn (Nat.le_of_ble_eq_true rfl)) rfl rfl (Nat.le_of_ble_eq_true rfl) (q := 5) rfl (fun v2 J1 => ?_)
  refine e_ifne C (tgt := 11) (q := 8) dX7_rid_5 rfl rfl ?_ ?_
  · refine e_iload_n C dX7_rid_11 rfl 2 rfl (q := 12) rfl ?_
    refine e_iconst C dX7_rid_12 ic_0 (q := 13) rfl ?_
    refine e_bipush C dX7_rid_13 b8_40 (q := 15) rfl ?_
    refine e_callSi C (l := l) (av := [.int a2, .int (0 : Int32), .int (40 : Int32)]) (st := []) hlau (x_X7_in (l := l) (ω := ω) (a0 := a2) (a1 := (0 : Int32)) (a2 := (40 : Int32)) hn (I := J1)) dX7_rid_15 w_723 w_724 w_67 w_725 md_X7_in (by decide) (by decide) rfl (Nat.le_of_ble_eq_true rfl) (q := 18) rfl (fun v4 J3 => ?_)
    refine e_ifeq C (tgt := 30) (q := 21) dX7_rid_18 rfl rfl ?_ ?_
    · refine e_bipush C dX7_rid_30 b8_m7 (q := 32) rfl ?_
      exact e_ireturn C dX7_rid_32 hret rfl
    · refine e_iload_n C dX7_rid_21 rfl 3 rfl (q := 22) rfl ?_
      refine e_iconst C dX7_rid_22 ic_0 (q := 23) rfl ?_
      refine e_iconst C dX7_rid_23 ic_1 (q := 24) rfl ?_
      refine e_callSi C (l := l) (av := [.int a3, .int (0 : Int32), .int (1 : Int32)]) (st := []) hlau (x_X7_in (l := l) (ω := ω) (a0 := a3) (a1 := (0 : Int32)) (a2 := (1 : Int32)) hn (I := J3)) dX7_rid_24 w_723 w_724 w_67 w_725 md_X7_in (by decide) (by decide) rfl (Nat.le_of_ble_eq_true rfl) (q := 27) rfl (fun v6 J5 => ?_)
      refine e_ifne C (tgt := 33) (q := 30) dX7_rid_27 rfl rfl ?_ ?_
      · refine e_aload_n C dX7_rid_33 rfl 0 rfl (q := 34) rfl ?_
        refine e_callVv C (l := l) (k := 56) (av := []) (st := []) hlau (x_X7_keeps (l := l) (ω := ω) hn (I := J5)) dX7_rid_34 w_976 w_978 w_45 w_67 w_979 md_X7_keeps (by decide) (by decide) rfl (ltL hn (Nat.le_of_ble_eq_true rfl)) rfl rfl (Nat.le_of_ble_eq_true rfl) (q := 37) rfl (fun _ J7 => ?_)
        refine e_iconst C dX7_rid_37 ic_m1 (q := 38) rfl ?_
        refine e_istore C (lv1 := [(4, .int (-1 : Int32)), (0, .ref (oA ω 56)), (1, .int a1), (2, .int a2), (3, .int a3)]) dX7_rid_38 (Nat.le_of_ble_eq_true rfl) rfl (q := 40) rfl ?_
        refine e_aload_n C dX7_rid_40 rfl 1 rfl (q := 41) rfl ?_
        refine e_iload_n C dX7_rid_41 rfl 2 rfl (q := 42) rfl ?_
        refine e_iload_n C dX7_rid_42 rfl 3 rfl (q := 43) rfl ?_
        refine e_callVi C (l := l) (k := 56) (av := [.int a1, .int a2]) (st := []) hlau (x_X7_feltBehind (l := l) (ω := ω) (a1 := a1) (a2 := a2) hn (I := J7)) dX7_rid_43 w_1012 w_1014 w_50 w_67 w_1015 md_X7_feltBehind (by decide) (by decide) rfl (ltL hn (Nat.le_of_ble_eq_true rfl)) rfl rfl (Nat.le_of_ble_eq_true rfl) (q := 46) rfl (fun v9 J8 => ?_)
        refine e_istore C (lv1 := [(5, .int v9), (4, .int (-1 : Int32)), (0, .ref (oA ω 56)), (1, .int a1), (2, .int a2), (3, .int a3)]) dX7_rid_46 (Nat.le_of_ble_eq_true rfl) rfl (q := 48) rfl ?_
        refine e_iconst C dX7_rid_48 ic_0 (q := 49) rfl ?_
        refine e_istore C (lv1 := [(6, .int (0 : Int32)), (5, .int v9), (4, .int (-1 : Int32)), (0, .ref (oA ω 56)), (1, .int a1), (2, .int a2), (3, .int a3)]) dX7_rid_49 (Nat.le_of_ble_eq_true rfl) rfl (q := 51) rfl ?_
        exact xb_X7_rid_b51 C hlau hret hn FU (0 : Int32) v9 (-1 : Int32) _
      · refine e_bipush C dX7_rid_30 b8_m7 (q := 32) rfl ?_
        exact e_ireturn C dX7_rid_32 hret rfl
  · refine e_bipush C dX7_rid_8 b8_m5 (q := 10) rfl ?_
    exact e_ireturn C dX7_rid_10 hret rfl
set_option maxHeartbeats 4000000 in
set_option maxRecDepth 100000 in
theorem xb_X7_lasts_b72 {l : Launch} {κ : Kx} {ω : Om} {a1 : Int32} {a2 : Int32} (C : CX κ ω cX7_lasts 5 10 yX7_lasts.cls) (hlau : κ.2.1 = l) (hret : κ.2.2.2.2.2.2.2.2.1.sig.returnType = (some .int)) (hn : 75 ≤ oN ω)  {K33 : Int32 → Int32 → Mem → Option (Int32 × Mem)} (hK33 : ∀ (x4 : Int32) (x3 : Int32) (J : Mem), EE κ ω 5 (Gi κ ω) (K33 x4 x3 J) J 33 [(4, .int x4), (3, .int x3), (0, .ref (oA ω 56)), (1, .int a1), (2, .int a2)] []) : ∀ (x4 : Int32) (s0 : Int32) (I : Mem), EE κ ω 5 (Gi κ ω) (f_X7_lasts_b72 a1 a2 K33 x4 s0 I) I 72 [(4, .int x4), (0, .ref (oA ω 56)), (1, .int a1), (2, .int a2)] [.int s0] := by
  intro x4 s0 I
  unfold f_X7_lasts_b72
  refine e_istore_n C (lv1 := [(3, .int s0), (4, .int x4), (0, .ref (oA ω 56)), (1, .int a1), (2, .int a2)]) dX7_lasts_72 rfl (Nat.le_of_ble_eq_true rfl) rfl (q := 73) rfl ?_
  refine e_iinc C (v := x4 + (1 : Int32)) (lv1 := [(4, .int (x4 + (1 : Int32))), (3, .int s0), (0, .ref (oA ω 56)), (1, .int a1), (2, .int a2)]) dX7_lasts_73 1 rfl (Nat.le_of_ble_eq_true rfl) (by rw [ic_1]) rfl (q := 76) rfl ?_
  refine e_goto C (tgt := 33) dX7_lasts_76 rfl ?_
  exact hK33 (x4 + (1 : Int32)) s0 _
set_option maxHeartbeats 4000000 in
set_option maxRecDepth 100000 in
theorem xb_X7_lasts_b33 {l : Launch} {κ : Kx} {ω : Om} {a1 : Int32} {a2 : Int32} (C : CX κ ω cX7_lasts 5 10 yX7_lasts.cls) (hlau : κ.2.1 = l) (hret : κ.2.2.2.2.2.2.2.2.1.sig.returnType = (some .int)) (hn : 75 ≤ oN ω)  : ∀ (n : Nat) (x4 : Int32) (x3 : Int32) (I : Mem), EE κ ω 5 (Gi κ ω) (f_X7_lasts_b33 a1 a2 n x4 x3 I) I 33 [(4, .int x4), (3, .int x3), (0, .ref (oA ω 56)), (1, .int a1), (2, .int a2)] [] := by
  intro n
  induction n with
  | zero => intro x4 x3 I; exact e_none
  | succ n ih =>
    intro x4 x3 I
    rw [f_X7_lasts_b33]
    refine e_iload C dX7_lasts_33 0 rfl (q := 35) rfl ?_
    refine e_bipush C dX7_lasts_35 b8_99 (q := 37) rfl ?_
    refine e_icmpgt C (tgt := 79) (q := 40) dX7_lasts_37 rfl rfl ?_ ?_
    · refine e_iload_n C dX7_lasts_79 rfl 1 rfl (q := 80) rfl ?_
      exact e_ireturn C dX7_lasts_80 hret rfl
    · refine e_iload_n C dX7_lasts_40 rfl 1 rfl (q := 41) rfl ?_
      refine e_iconst C dX7_lasts_41 ic_m1 (q := 42) rfl ?_
      refine e_icmpne C (tgt := 79) (q := 45) dX7_lasts_42 rfl rfl ?_ ?_
      · refine e_iload_n C dX7_lasts_79 rfl 1 rfl (q := 80) rfl ?_
        exact e_ireturn C dX7_lasts_80 hret rfl
      · refine e_aload_n C dX7_lasts_45 rfl 2 rfl (q := 46) rfl ?_
        refine e_getf C (k := 56) (j := 3) (T := TX7) (N := 32) (v := .ref (oA ω 59)) dX7_lasts_46 (ltL hn (Nat.le_of_ble_eq_true rfl)) rfl rfl (by decide) in_X7 w_765 rfl (q := 49) rfl ?_
        refine e_iconst C dX7_lasts_49 ic_4 (q := 50) rfl ?_
        refine e_iload_n C dX7_lasts_50 rfl 3 rfl (q := 51) rfl ?_
        refine e_imul C dX7_lasts_51 (q := 52) rfl ?_
        refine e_iconst C dX7_lasts_52 ic_1 (q := 53) rfl ?_
        refine e_iadd C dX7_lasts_53 (q := 54) rfl ?_
        refine e_iload C dX7_lasts_54 0 rfl (q := 56) rfl ?_
        refine e_iast C (k := 59) (n := 24) dX7_lasts_56 (ltL hn (Nat.le_of_ble_eq_true rfl)) (fun _ => rfl) (q := 57) rfl ?_
        refine e_nmM (fun J6 => ?_)
        refine e_aload_n C dX7_lasts_57 rfl 2 rfl (q := 58) rfl ?_
        refine e_iload_n C dX7_lasts_58 rfl 3 rfl (q := 59) rfl ?_
        refine e_iload_n C dX7_lasts_59 rfl 4 rfl (q := 60) rfl ?_
        refine e_callVi C (l := l) (k := 56) (av := [.int a1, .int a2]) (st := []) hlau (x_X7_feltBehind (l := l) (ω := ω) (a1 := a1) (a2 := a2) hn (I := J6)) dX7_lasts_60 w_1012 w_1014 w_50 w_67 w_1015 md_X7_feltBehind (by decide) (by decide) rfl (ltL hn (Nat.le_of_ble_eq_true rfl)) rfl rfl (Nat.le_of_ble_eq_true rfl) (q := 63) rfl (fun v8 J7 => ?_)
        refine e_ifle C (tgt := 71) (q := 66) dX7_lasts_63 rfl rfl ?_ ?_
        · refine e_iconst C dX7_lasts_71 ic_m1 (q := 72) rfl ?_
          exact e_lv [0, 2, 3, 4] (lv1 := [(4, .int x4), (0, .ref (oA ω 56)), (1, .int a1), (2, .int a2)]) rfl (xb_X7_lasts_b72 C hlau hret hn ih x4 (-1 : Int32) _)
        · refine e_iload C dX7_lasts_66 0 rfl (q := 68) rfl ?_
          refine e_goto C (tgt := 72) dX7_lasts_68 rfl ?_
          exact e_lv [0, 2, 3, 4] (lv1 := [(4, .int x4), (0, .ref (oA ω 56)), (1, .int a1), (2, .int a2)]) rfl (xb_X7_lasts_b72 C hlau hret hn ih x4 x4 _)
set_option maxHeartbeats 4000000 in
set_option maxRecDepth 100000 in
theorem x_X7_lasts {l : Launch} {ω : Om} {a1 : Int32} {a2 : Int32} (hn : 75 ≤ oN ω)  {I : Mem} : CTi l ω yX7_lasts cX7_lasts 5 (some .int) 10 [.ref (oA ω 56), .int a1, .int a2] (f_X7_lasts a1 a2 I) I := by
  refine ct_i (by decide) (Nat.le_of_ble_eq_true rfl) ?_
  intro κ hlau hret C
  refine e_lv [0, 1, 2] (lv1 := [(0, .ref (oA ω 56)), (1, .int a1), (2, .int a2)]) rfl ?_
  unfold f_X7_lasts
  refine e_aload_n C dX7_lasts_0 rfl 0 rfl (q := 1) rfl ?_
  refine e_iload_n C dX7_lasts_1 rfl 1 rfl (q := 2) rfl ?_
  refine e_callVi C (l := l) (k := 56) (av := [.int a1]) (st := []) hlau (x_X7_isOne (l := l) (ω := ω) (a1 := a1) hn (I := I)) dX7_lasts_2 w_890 w_892 w_32 w_67 w_893 md_X7_isOne (by decide) (by decide) rfl (ltL hn (Nat.le_of_ble_eq_true rfl)) rfl rfl (Nat.le_of_ble_eq_true rfl) (q := 5) rfl (fun v2 J1 => ?_)
  refine e_ifne C (tgt := 11) (q := 8) dX7_lasts_5 rfl rfl ?_ ?_
  · refine e_iload_n C dX7_lasts_11 rfl 2 rfl (q := 12) rfl ?_
    refine e_iconst C dX7_lasts_12 ic_0 (q := 13) rfl ?_
    refine e_bipush C dX7_lasts_13 b8_40 (q := 15) rfl ?_
    refine e_callSi C (l := l) (av := [.int a2, .int (0 : Int32), .int (40 : Int32)]) (st := []) hlau (x_X7_in (l := l) (ω := ω) (a0 := a2) (a1 := (0 : Int32)) (a2 := (40 : Int32)) hn (I := J1)) dX7_lasts_15 w_723 w_724 w_67 w_725 md_X7_in (by decide) (by decide) rfl (Nat.le_of_ble_eq_true rfl) (q := 18) rfl (fun v4 J3 => ?_)
    refine e_ifne C (tgt := 24) (q := 21) dX7_lasts_18 rfl rfl ?_ ?_
    · refine e_iconst C dX7_lasts_24 ic_m1 (q := 25) rfl ?_
      refine e_istore_n C (lv1 := [(3, .int (-1 : Int32)), (0, .ref (oA ω 56)), (1, .int a1), (2, .int a2)]) dX7_lasts_25 rfl (Nat.le_of_ble_eq_true rfl) rfl (q := 26) rfl ?_
      refine e_aload_n C dX7_lasts_26 rfl 1 rfl (q := 27) rfl ?_
      refine e_callVv C (l := l) (k := 56) (av := []) (st := []) hlau (x_X7_keeps (l := l) (ω := ω) hn (I := J3)) dX7_lasts_27 w_976 w_978 w_45 w_67 w_979 md_X7_keeps (by decide) (by decide) rfl (ltL hn (Nat.le_of_ble_eq_true rfl)) rfl rfl (Nat.le_of_ble_eq_true rfl) (q := 30) rfl (fun _ J5 => ?_)
      refine e_iconst C dX7_lasts_30 ic_0 (q := 31) rfl ?_
      refine e_istore C (lv1 := [(4, .int (0 : Int32)), (3, .int (-1 : Int32)), (0, .ref (oA ω 56)), (1, .int a1), (2, .int a2)]) dX7_lasts_31 (Nat.le_of_ble_eq_true rfl) rfl (q := 33) rfl ?_
      exact xb_X7_lasts_b33 C hlau hret hn FU (0 : Int32) (-1 : Int32) _
    · refine e_bipush C dX7_lasts_21 b8_m7 (q := 23) rfl ?_
      exact e_ireturn C dX7_lasts_23 hret rfl
  · refine e_bipush C dX7_lasts_8 b8_m5 (q := 10) rfl ?_
    exact e_ireturn C dX7_lasts_10 hret rfl
set_option maxHeartbeats 4000000 in
set_option maxRecDepth 100000 in
theorem xb_X7_lowest_b51 {l : Launch} {κ : Kx} {ω : Om} {a0 : Int64} {a2 : Int64} {a4 : Int32} (C : CX κ ω cX7_lowest 11 1 yX7_lowest.cls) (hlau : κ.2.1 = l) (hret : κ.2.2.2.2.2.2.2.2.1.sig.returnType = (some .long)) (hn : 75 ≤ oN ω)  : ∀ (x5 : Int64) (s0 : Int64) (I : Mem), EE κ ω 11 (Gl κ ω) (f_X7_lowest_b51 a0 a2 a4 x5 s0 I) I 51 [(5, .long x5)] [.long s0] := by
  intro x5 s0 I
  unfold f_X7_lowest_b51
  refine e_lload C dX7_lowest_51 0 rfl (q := 53) rfl ?_
  refine e_grdn (fun h1 => ?_)
  refine e_ldiv C dX7_lowest_53 h1 (q := 54) rfl ?_
  exact e_lreturn C dX7_lowest_54 hret
set_option maxHeartbeats 4000000 in
set_option maxRecDepth 100000 in
theorem xb_X7_lowest_b16 {l : Launch} {κ : Kx} {ω : Om} {a0 : Int64} {a2 : Int64} {a4 : Int32} (C : CX κ ω cX7_lowest 11 1 yX7_lowest.cls) (hlau : κ.2.1 = l) (hret : κ.2.2.2.2.2.2.2.2.1.sig.returnType = (some .long)) (hn : 75 ≤ oN ω)  : ∀ (n : Nat) (x7 : Int64) (x5 : Int64) (I : Mem), EE κ ω 11 (Gl κ ω) (f_X7_lowest_b16 a0 a2 a4 n x7 x5 I) I 16 [(7, .long x7), (5, .long x5), (0, .long a0), (2, .long a2), (4, .int a4)] [] := by
  intro n
  induction n with
  | zero => intro x7 x5 I; exact e_none
  | succ n ih =>
    intro x7 x5 I
    rw [f_X7_lowest_b16]
    refine e_lload C dX7_lowest_16 0 rfl (q := 18) rfl ?_
    refine e_lconst C (v := (0 : Int64)) dX7_lowest_18 (by decide) (q := 19) rfl ?_
    refine e_lcmp C dX7_lowest_19 (q := 20) rfl ?_
    refine e_ifeq C (tgt := 41) (q := 23) dX7_lowest_20 rfl rfl ?_ ?_
    · refine e_iload C dX7_lowest_41 4 rfl (q := 43) rfl ?_
      refine e_ifne C (tgt := 50) (q := 46) dX7_lowest_43 rfl rfl ?_ ?_
      · refine e_lload_n C dX7_lowest_50 rfl 3 rfl (q := 51) rfl ?_
        exact e_lv [1] (lv1 := [(5, .long x5)]) rfl (xb_X7_lowest_b51 C hlau hret hn x5 a2 _)
      · refine e_lload_n C dX7_lowest_46 rfl 2 rfl (q := 47) rfl ?_
        refine e_goto C (tgt := 51) dX7_lowest_47 rfl ?_
        exact e_lv [1] (lv1 := [(5, .long x5)]) rfl (xb_X7_lowest_b51 C hlau hret hn x5 a0 _)
    · refine e_lload C dX7_lowest_23 1 rfl (q := 25) rfl ?_
      refine e_lload C dX7_lowest_25 0 rfl (q := 27) rfl ?_
      refine e_grdn (fun h2 => ?_)
      refine e_lrem C dX7_lowest_27 h2 (q := 28) rfl ?_
      refine e_nml (fun v3 => ?_)
      refine e_lstore C (lv1 := [(9, .long v3), (7, .long x7), (5, .long x5), (0, .long a0), (2, .long a2), (4, .int a4)]) dX7_lowest_28 (Nat.le_of_ble_eq_true rfl) rfl (q := 30) rfl ?_
      refine e_lload C dX7_lowest_30 1 rfl (q := 32) rfl ?_
      refine e_lstore C (lv1 := [(5, .long x7), (9, .long v3), (7, .long x7), (0, .long a0), (2, .long a2), (4, .int a4)]) dX7_lowest_32 (Nat.le_of_ble_eq_true rfl) rfl (q := 34) rfl ?_
      refine e_lload C dX7_lowest_34 1 rfl (q := 36) rfl ?_
      refine e_lstore C (lv1 := [(7, .long v3), (5, .long x7), (9, .long v3), (0, .long a0), (2, .long a2), (4, .int a4)]) dX7_lowest_36 (Nat.le_of_ble_eq_true rfl) rfl (q := 38) rfl ?_
      refine e_goto C (tgt := 16) dX7_lowest_38 rfl ?_
      exact e_lv [0, 1, 3, 4, 5] (lv1 := [(7, .long v3), (5, .long x7), (0, .long a0), (2, .long a2), (4, .int a4)]) rfl (ih v3 x7 _)
set_option maxHeartbeats 4000000 in
set_option maxRecDepth 100000 in
theorem x_X7_lowest {l : Launch} {ω : Om} {a0 : Int64} {a2 : Int64} {a4 : Int32} (hn : 75 ≤ oN ω)  {I : Mem} : CTl l ω yX7_lowest cX7_lowest 11 (some .long) 1 [.long a0, .long a2, .int a4] (f_X7_lowest a0 a2 a4 I) I := by
  refine ct_l (by decide) (Nat.le_of_ble_eq_true rfl) ?_
  intro κ hlau hret C
  refine e_lv [0, 1, 2] (lv1 := [(0, .long a0), (2, .long a2), (4, .int a4)]) rfl ?_
  unfold f_X7_lowest
  refine e_lload_n C dX7_lowest_0 rfl 0 rfl (q := 1) rfl ?_
  refine e_lconst C (v := (0 : Int64)) dX7_lowest_1 (by decide) (q := 2) rfl ?_
  refine e_lcmp C dX7_lowest_2 (q := 3) rfl ?_
  refine e_ifne C (tgt := 10) (q := 6) dX7_lowest_3 rfl rfl ?_ ?_
  · refine e_lload_n C dX7_lowest_10 rfl 0 rfl (q := 11) rfl ?_
    refine e_lstore C (lv1 := [(5, .long a0), (0, .long a0), (2, .long a2), (4, .int a4)]) dX7_lowest_11 (Nat.le_of_ble_eq_true rfl) rfl (q := 13) rfl ?_
    refine e_lload_n C dX7_lowest_13 rfl 2 rfl (q := 14) rfl ?_
    refine e_lstore C (lv1 := [(7, .long a2), (5, .long a0), (0, .long a0), (2, .long a2), (4, .int a4)]) dX7_lowest_14 (Nat.le_of_ble_eq_true rfl) rfl (q := 16) rfl ?_
    exact xb_X7_lowest_b16 C hlau hret hn FU a2 a0 _
  · refine e_iload C dX7_lowest_6 2 rfl (q := 8) rfl ?_
    refine e_i2l C dX7_lowest_8 (q := 9) rfl ?_
    exact e_lreturn C dX7_lowest_9 hret
