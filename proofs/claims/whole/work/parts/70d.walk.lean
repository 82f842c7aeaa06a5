/-! WALKS, written by program (wip/gen) -/
set_option maxHeartbeats 4000000 in
set_option maxRecDepth 100000 in
theorem xb_X6_states_b110 {l : Launch} {κ : Kx} {ω : Om} {a1 : Int32} {a2 : Int32} {a3 : Int32} {a4 : Int32} (C : CX κ ω cX6_states 10 7 yX6_states.cls) (hlau : κ.2.1 = l) (hret : κ.2.2.2.2.2.2.2.2.1.sig.returnType = (some .int)) (hn : 56 ≤ oN ω)  {K71 : Int32 → Int32 → Int32 → Nat → Mem → Option (Int32 × Mem)} (hK71 : ∀ (x9 : Int32) (x8 : Int32) (x7 : Int32) (x6 : Nat) (J : Mem) (hx6 : okA x6 = true), EE κ ω 10 (Gi κ ω) (K71 x9 x8 x7 x6 J) J 71 [(9, .int x9), (8, .int x8), (7, .int x7), (6, .ref (oA ω x6)), (0, .ref (oA ω 0)), (1, .int a1), (2, .int a2), (4, .int a4)] []) : ∀ (x9 : Int32) (x7 : Int32) (x6 : Nat) (s0 : Int32) (I : Mem) (hx6 : okA x6 = true), EE κ ω 10 (Gi κ ω) (f_X6_states_b110 a1 a2 a3 a4 K71 x9 x7 x6 s0 I) I 110 [(9, .int x9), (7, .int x7), (6, .ref (oA ω x6)), (0, .ref (oA ω 0)), (1, .int a1), (2, .int a2), (4, .int a4)] [.int s0] := by
  intro x9 x7 x6 s0 I hx6
  unfold f_X6_states_b110
  refine e_istore C (lv1 := [(8, .int s0), (9, .int x9), (7, .int x7), (6, .ref (oA ω x6)), (0, .ref (oA ω 0)), (1, .int a1), (2, .int a2), (4, .int a4)]) dX6_states_110 (Nat.le_of_ble_eq_true rfl) rfl (q := 112) rfl ?_
  refine e_iinc C (v := x7 + (1 : Int32)) (lv1 := [(7, .int (x7 + (1 : Int32))), (8, .int s0), (9, .int x9), (6, .ref (oA ω x6)), (0, .ref (oA ω 0)), (1, .int a1), (2, .int a2), (4, .int a4)]) dX6_states_112 2 rfl (Nat.le_of_ble_eq_true rfl) (by rw [ic_1]) rfl (q := 115) rfl ?_
  refine e_iinc C (v := x9 + (1 : Int32)) (lv1 := [(9, .int (x9 + (1 : Int32))), (7, .int (x7 + (1 : Int32))), (8, .int s0), (6, .ref (oA ω x6)), (0, .ref (oA ω 0)), (1, .int a1), (2, .int a2), (4, .int a4)]) dX6_states_115 2 rfl (Nat.le_of_ble_eq_true rfl) (by rw [ic_1]) rfl (q := 118) rfl ?_
  refine e_goto C (tgt := 71) dX6_states_118 rfl ?_
  exact e_lv [0, 2, 1, 3, 4, 5, 6, 7] (lv1 := [(9, .int (x9 + (1 : Int32))), (8, .int s0), (7, .int (x7 + (1 : Int32))), (6, .ref (oA ω x6)), (0, .ref (oA ω 0)), (1, .int a1), (2, .int a2), (4, .int a4)]) rfl (hK71 (x9 + (1 : Int32)) s0 (x7 + (1 : Int32)) x6 _ hx6)
set_option maxHeartbeats 4000000 in
set_option maxRecDepth 100000 in
theorem xb_X6_states_b71 {l : Launch} {κ : Kx} {ω : Om} {a1 : Int32} {a2 : Int32} {a3 : Int32} {a4 : Int32} (C : CX κ ω cX6_states 10 7 yX6_states.cls) (hlau : κ.2.1 = l) (hret : κ.2.2.2.2.2.2.2.2.1.sig.returnType = (some .int)) (hn : 56 ≤ oN ω)  : ∀ (n : Nat) (x9 : Int32) (x8 : Int32) (x7 : Int32) (x6 : Nat) (I : Mem) (hx6 : okA x6 = true), EE κ ω 10 (Gi κ ω) (f_X6_states_b71 a1 a2 a3 a4 n x9 x8 x7 x6 I) I 71 [(9, .int x9), (8, .int x8), (7, .int x7), (6, .ref (oA ω x6)), (0, .ref (oA ω 0)), (1, .int a1), (2, .int a2), (4, .int a4)] [] := by
  intro n
  induction n with
  | zero => intro x9 x8 x7 x6 I hx6; exact e_none
  | succ n ih =>
    intro x9 x8 x7 x6 I hx6
    rw [f_X6_states_b71]
    refine e_iload C dX6_states_71 0 rfl (q := 73) rfl ?_
    refine e_bipush C dX6_states_73 b8_99 (q := 75) rfl ?_
    refine e_icmpgt C (tgt := 121) (q := 78) dX6_states_75 rfl rfl ?_ ?_
    · refine e_iload C dX6_states_121 7 rfl (q := 123) rfl ?_
      refine e_ifne C (tgt := 131) (q := 126) dX6_states_123 rfl rfl ?_ ?_
      · refine e_iload C dX6_states_131 1 rfl (q := 133) rfl ?_
        exact e_ireturn C dX6_states_133 hret rfl
      · refine e_iload C dX6_states_126 2 rfl (q := 128) rfl ?_
        refine e_goto C (tgt := 133) dX6_states_128 rfl ?_
        exact e_ireturn C dX6_states_133 hret rfl
    · refine e_aload_n C dX6_states_78 rfl 4 rfl (q := 79) rfl ?_
      refine e_callVv C (l := l) (k := 0) (av := []) (st := []) hlau (x_X6_imagine (l := l) (ω := ω) hn (I := I)) dX6_states_79 w_520 w_522 w_15 w_56 w_523 md_X6_imagine (by decide) (by decide) rfl (ltL hn (Nat.le_of_ble_eq_true rfl)) rfl rfl (Nat.le_of_ble_eq_true rfl) (q := 82) rfl (fun _ J7 => ?_)
      refine e_aload C dX6_states_82 3 rfl (q := 84) rfl ?_
      refine e_iload_n C dX6_states_84 rfl 6 rfl (q := 85) rfl ?_
      refine e_iload C dX6_states_85 0 rfl (q := 87) rfl ?_
      refine e_iast C (k := x6) (n := 6) dX6_states_87 (isArr_okA hn hx6).1 (isArr_okA hn hx6).2 (q := 88) rfl ?_
      refine e_nmM (fun J8 => ?_)
      refine e_aload_n C dX6_states_88 rfl 4 rfl (q := 89) rfl ?_
      refine e_iload_n C dX6_states_89 rfl 5 rfl (q := 90) rfl ?_
      refine e_iload_n C dX6_states_90 rfl 6 rfl (q := 91) rfl ?_
      refine e_callVi C (l := l) (k := 0) (av := [.int a1, .int a2]) (st := []) hlau (x_X6_firstOtherwise (l := l) (ω := ω) (a1 := a1) (a2 := a2) hn (I := J8)) dX6_states_91 w_615 w_617 w_19 w_56 w_618 md_X6_firstOtherwise (by decide) (by decide) rfl (ltL hn (Nat.le_of_ble_eq_true rfl)) rfl rfl (Nat.le_of_ble_eq_true rfl) (q := 94) rfl (fun v10 J9 => ?_)
      refine e_iconst C dX6_states_94 ic_m1 (q := 95) rfl ?_
      refine e_icmpne C (tgt := 115) (q := 98) dX6_states_95 rfl rfl ?_ ?_
      · refine e_iinc C (v := x9 + (1 : Int32)) (lv1 := [(9, .int (x9 + (1 : Int32))), (8, .int x8), (7, .int x7), (6, .ref (oA ω x6)), (0, .ref (oA ω 0)), (1, .int a1), (2, .int a2), (4, .int a4)]) dX6_states_115 0 rfl (Nat.le_of_ble_eq_true rfl) (by rw [ic_1]) rfl (q := 118) rfl ?_
        refine e_goto C (tgt := 71) dX6_states_118 rfl ?_
        exact ih (x9 + (1 : Int32)) x8 x7 x6 _ hx6
      · refine e_iload C dX6_states_98 2 rfl (q := 100) rfl ?_
        refine e_ifne C (tgt := 108) (q := 103) dX6_states_100 rfl rfl ?_ ?_
        · refine e_iload C dX6_states_108 1 rfl (q := 110) rfl ?_
          exact e_lv [0, 2, 3, 4, 5, 6, 7] (lv1 := [(9, .int x9), (7, .int x7), (6, .ref (oA ω x6)), (0, .ref (oA ω 0)), (1, .int a1), (2, .int a2), (4, .int a4)]) rfl (xb_X6_states_b110 C hlau hret hn ih x9 x7 x6 x8 _ hx6)
        · refine e_iload C dX6_states_103 0 rfl (q := 105) rfl ?_
          refine e_goto C (tgt := 110) dX6_states_105 rfl ?_
          exact e_lv [0, 2, 3, 4, 5, 6, 7] (lv1 := [(9, .int x9), (7, .int x7), (6, .ref (oA ω x6)), (0, .ref (oA ω 0)), (1, .int a1), (2, .int a2), (4, .int a4)]) rfl (xb_X6_states_b110 C hlau hret hn ih x9 x7 x6 x9 _ hx6)
set_option maxHeartbeats 4000000 in
set_option maxRecDepth 100000 in
theorem xb_X6_states_b60 {l : Launch} {κ : Kx} {ω : Om} {a1 : Int32} {a2 : Int32} {a3 : Int32} {a4 : Int32} (C : CX κ ω cX6_states 10 7 yX6_states.cls) (hlau : κ.2.1 = l) (hret : κ.2.2.2.2.2.2.2.2.1.sig.returnType = (some .int)) (hn : 56 ≤ oN ω)  : ∀ (s0 : Nat) (I : Mem) (hs0 : okA s0 = true), EE κ ω 10 (Gi κ ω) (f_X6_states_b60 a1 a2 a3 a4 s0 I) I 60 [(0, .ref (oA ω 0)), (1, .int a1), (2, .int a2), (4, .int a4)] [.ref (oA ω s0)] := by
  intro s0 I hs0
  unfold f_X6_states_b60
  refine e_astore C (lv1 := [(6, .ref (oA ω s0)), (0, .ref (oA ω 0)), (1, .int a1), (2, .int a2), (4, .int a4)]) dX6_states_60 (Nat.le_of_ble_eq_true rfl) rfl (q := 62) rfl ?_
  refine e_iconst C dX6_states_62 ic_0 (q := 63) rfl ?_
  refine e_istore C (lv1 := [(7, .int (0 : Int32)), (6, .ref (oA ω s0)), (0, .ref (oA ω 0)), (1, .int a1), (2, .int a2), (4, .int a4)]) dX6_states_63 (Nat.le_of_ble_eq_true rfl) rfl (q := 65) rfl ?_
  refine e_iconst C dX6_states_65 ic_m1 (q := 66) rfl ?_
  refine e_istore C (lv1 := [(8, .int (-1 : Int32)), (7, .int (0 : Int32)), (6, .ref (oA ω s0)), (0, .ref (oA ω 0)), (1, .int a1), (2, .int a2), (4, .int a4)]) dX6_states_66 (Nat.le_of_ble_eq_true rfl) rfl (q := 68) rfl ?_
  refine e_iconst C dX6_states_68 ic_0 (q := 69) rfl ?_
  refine e_istore C (lv1 := [(9, .int (0 : Int32)), (8, .int (-1 : Int32)), (7, .int (0 : Int32)), (6, .ref (oA ω s0)), (0, .ref (oA ω 0)), (1, .int a1), (2, .int a2), (4, .int a4)]) dX6_states_69 (Nat.le_of_ble_eq_true rfl) rfl (q := 71) rfl ?_
  exact xb_X6_states_b71 C hlau hret hn FU (0 : Int32) (-1 : Int32) (0 : Int32) s0 _ hs0
set_option maxHeartbeats 4000000 in
set_option maxRecDepth 100000 in
theorem x_X6_states {l : Launch} {ω : Om} {a1 : Int32} {a2 : Int32} {a3 : Int32} {a4 : Int32} (hn : 56 ≤ oN ω)  {I : Mem} : CTi l ω yX6_states cX6_states 10 (some .int) 7 [.ref (oA ω 0), .int a1, .int a2, .int a3, .int a4] (f_X6_states a1 a2 a3 a4 I) I := by
  refine ct_i (by decide) (Nat.le_of_ble_eq_true rfl) ?_
  intro κ hlau hret C
  refine e_lv [0, 1, 2, 3, 4] (lv1 := [(0, .ref (oA ω 0)), (1, .int a1), (2, .int a2), (3, .int a3), (4, .int a4)]) rfl ?_
  unfold f_X6_states
  refine e_aload_n C dX6_states_0 rfl 0 rfl (q := 1) rfl ?_
  refine e_iload_n C dX6_states_1 rfl 1 rfl (q := 2) rfl ?_
  refine e_iload_n C dX6_states_2 rfl 2 rfl (q := 3) rfl ?_
  refine e_callVi C (l := l) (k := 0) (av := [.int a1, .int a2]) (st := []) hlau (x_X6_refusalOf_ (l := l) (ω := ω) (a1 := a1) (a2 := a2) hn (I := I)) dX6_states_3 w_600 w_602 w_17 w_56 w_603 md_X6_refusalOf_ (by decide) (by decide) rfl (ltL hn (Nat.le_of_ble_eq_true rfl)) rfl rfl (Nat.le_of_ble_eq_true rfl) (q := 6) rfl (fun v2 J1 => ?_)
  refine e_istore C (lv1 := [(5, .int v2), (0, .ref (oA ω 0)), (1, .int a1), (2, .int a2), (3, .int a3), (4, .int a4)]) dX6_states_6 (Nat.le_of_ble_eq_true rfl) rfl (q := 8) rfl ?_
  refine e_iload C dX6_states_8 0 rfl (q := 10) rfl ?_
  refine e_ifeq C (tgt := 16) (q := 13) dX6_states_10 rfl rfl ?_ ?_
  · refine e_iload_n C dX6_states_16 rfl 4 rfl (q := 17) rfl ?_
    refine e_iconst C dX6_states_17 ic_1 (q := 18) rfl ?_
    refine e_iconst C dX6_states_18 ic_2 (q := 19) rfl ?_
    refine e_callSi C (l := l) (av := [.int a3, .int (1 : Int32), .int (2 : Int32)]) (st := []) hlau (x_X6_within (l := l) (ω := ω) (a0 := a3) (a1 := (1 : Int32)) (a2 := (2 : Int32)) hn (I := J1)) dX6_states_19 w_390 w_391 w_56 w_392 md_X6_within (by decide) (by decide) rfl (Nat.le_of_ble_eq_true rfl) (q := 22) rfl (fun v4 J3 => ?_)
    refine e_ifeq C (tgt := 35) (q := 25) dX6_states_22 rfl rfl ?_ ?_
    · refine e_bipush C dX6_states_35 b8_m7 (q := 37) rfl ?_
      exact e_ireturn C dX6_states_37 hret rfl
    · refine e_iload C dX6_states_25 5 rfl (q := 27) rfl ?_
      refine e_iconst C dX6_states_27 ic_0 (q := 28) rfl ?_
      refine e_iconst C dX6_states_28 ic_1 (q := 29) rfl ?_
      refine e_callSi C (l := l) (av := [.int a4, .int (0 : Int32), .int (1 : Int32)]) (st := []) hlau (x_X6_within (l := l) (ω := ω) (a0 := a4) (a1 := (0 : Int32)) (a2 := (1 : Int32)) hn (I := J3)) dX6_states_29 w_390 w_391 w_56 w_392 md_X6_within (by decide) (by decide) rfl (Nat.le_of_ble_eq_true rfl) (q := 32) rfl (fun v6 J5 => ?_)
      refine e_ifne C (tgt := 38) (q := 35) dX6_states_32 rfl rfl ?_ ?_
      · refine e_iload_n C dX6_states_38 rfl 4 rfl (q := 39) rfl ?_
        refine e_iconst C dX6_states_39 ic_1 (q := 40) rfl ?_
        refine e_icmpne C (tgt := 53) (q := 43) dX6_states_40 rfl rfl ?_ ?_
        · refine e_aload_n C dX6_states_53 rfl 1 rfl (q := 54) rfl ?_
          refine e_getf C (k := 0) (j := 2) (T := TX6) (N := 10) (v := .ref (oA ω 10)) dX6_states_54 (ltL hn (Nat.le_of_ble_eq_true rfl)) rfl rfl (by decide) in_X6 w_348 rfl (q := 57) rfl ?_
          refine e_getf C (k := 10) (j := 5) (T := TX2) (N := 11) (v := .ref (oA ω 15)) dX6_states_57 (ltL hn (Nat.le_of_ble_eq_true rfl)) (cOb_Rg (ρ := 1) (by decide) _) rfl (by decide) in_X2 w_101 rfl (q := 60) rfl ?_
          exact e_lv [1, 2, 3, 5] (lv1 := [(0, .ref (oA ω 0)), (1, .int a1), (2, .int a2), (4, .int a4)]) rfl (xb_X6_states_b60 C hlau hret hn 15 _ (by decide))
        · refine e_aload_n C dX6_states_43 rfl 1 rfl (q := 44) rfl ?_
          refine e_getf C (k := 0) (j := 2) (T := TX6) (N := 10) (v := .ref (oA ω 10)) dX6_states_44 (ltL hn (Nat.le_of_ble_eq_true rfl)) rfl rfl (by decide) in_X6 w_348 rfl (q := 47) rfl ?_
          refine e_getf C (k := 10) (j := 4) (T := TX2) (N := 11) (v := .ref (oA ω 14)) dX6_states_47 (ltL hn (Nat.le_of_ble_eq_true rfl)) (cOb_Rg (ρ := 1) (by decide) _) rfl (by decide) in_X2 w_98 rfl (q := 50) rfl ?_
          refine e_goto C (tgt := 60) dX6_states_50 rfl ?_
          exact e_lv [1, 2, 3, 5] (lv1 := [(0, .ref (oA ω 0)), (1, .int a1), (2, .int a2), (4, .int a4)]) rfl (xb_X6_states_b60 C hlau hret hn 14 _ (by decide))
      · refine e_bipush C dX6_states_35 b8_m7 (q := 37) rfl ?_
        exact e_ireturn C dX6_states_37 hret rfl
  · refine e_iload C dX6_states_13 0 rfl (q := 15) rfl ?_
    exact e_ireturn C dX6_states_15 hret rfl
set_option maxHeartbeats 4000000 in
set_option maxRecDepth 100000 in
theorem xb_X6_places_b18 {l : Launch} {κ : Kx} {ω : Om} {a1 : Int32} {a2 : Int32} (C : CX κ ω cX6_places 6 7 yX6_places.cls) (hlau : κ.2.1 = l) (hret : κ.2.2.2.2.2.2.2.2.1.sig.returnType = (some .long)) (hn : 56 ≤ oN ω)  : ∀ (n : Nat) (x5 : Int32) (x3 : Int64) (I : Mem), EE κ ω 6 (Gl κ ω) (f_X6_places_b18 a1 a2 n x5 x3 I) I 18 [(5, .int x5), (3, .long x3), (0, .ref (oA ω 0)), (1, .int a1), (2, .int a2)] [] := by
  intro n
  induction n with
  | zero => intro x5 x3 I; exact e_none
  | succ n ih =>
    intro x5 x3 I
    rw [f_X6_places_b18]
    refine e_iload C dX6_places_18 0 rfl (q := 20) rfl ?_
    refine e_bipush C dX6_places_20 b8_64 (q := 22) rfl ?_
    refine e_icmpge C (tgt := 63) (q := 25) dX6_places_22 rfl rfl ?_ ?_
    · refine e_lload_n C dX6_places_63 rfl 1 rfl (q := 64) rfl ?_
      exact e_lreturn C dX6_places_64 hret
    · refine e_aload_n C dX6_places_25 rfl 2 rfl (q := 26) rfl ?_
      refine e_callVv C (l := l) (k := 0) (av := []) (st := []) hlau (x_X6_imagine (l := l) (ω := ω) hn (I := I)) dX6_places_26 w_520 w_522 w_15 w_56 w_523 md_X6_imagine (by decide) (by decide) rfl (ltL hn (Nat.le_of_ble_eq_true rfl)) rfl rfl (Nat.le_of_ble_eq_true rfl) (q := 29) rfl (fun _ J3 => ?_)
      refine e_aload_n C dX6_places_29 rfl 2 rfl (q := 30) rfl ?_
      refine e_getf C (k := 0) (j := 2) (T := TX6) (N := 10) (v := .ref (oA ω 10)) dX6_places_30 (ltL hn (Nat.le_of_ble_eq_true rfl)) rfl rfl (by decide) in_X6 w_348 rfl (q := 33) rfl ?_
      refine e_getf C (k := 10) (j := 3) (T := TX2) (N := 11) (v := .ref (oA ω 13)) dX6_places_33 (ltL hn (Nat.le_of_ble_eq_true rfl)) (cOb_Rg (ρ := 1) (by decide) _) rfl (by decide) in_X2 w_95 rfl (q := 36) rfl ?_
      refine e_iload_n C dX6_places_36 rfl 4 rfl (q := 37) rfl ?_
      refine e_iload C dX6_places_37 0 rfl (q := 39) rfl ?_
      refine e_iast C (k := 13) (n := 6) dX6_places_39 (ltL hn (Nat.le_of_ble_eq_true rfl)) (fun _ => rfl) (q := 40) rfl ?_
      refine e_nmM (fun J4 => ?_)
      refine e_aload_n C dX6_places_40 rfl 2 rfl (q := 41) rfl ?_
      refine e_iload_n C dX6_places_41 rfl 3 rfl (q := 42) rfl ?_
      refine e_iload_n C dX6_places_42 rfl 4 rfl (q := 43) rfl ?_
      refine e_callVi C (l := l) (k := 0) (av := [.int a1, .int a2]) (st := []) hlau (x_X6_firstOtherwise (l := l) (ω := ω) (a1 := a1) (a2 := a2) hn (I := J4)) dX6_places_43 w_615 w_617 w_19 w_56 w_618 md_X6_firstOtherwise (by decide) (by decide) rfl (ltL hn (Nat.le_of_ble_eq_true rfl)) rfl rfl (Nat.le_of_ble_eq_true rfl) (q := 46) rfl (fun v6 J5 => ?_)
      refine e_iconst C dX6_places_46 ic_m1 (q := 47) rfl ?_
      refine e_icmpne C (tgt := 57) (q := 50) dX6_places_47 rfl rfl ?_ ?_
      · refine e_iinc C (v := x5 + (1 : Int32)) (lv1 := [(5, .int (x5 + (1 : Int32))), (3, .long x3), (0, .ref (oA ω 0)), (1, .int a1), (2, .int a2)]) dX6_places_57 0 rfl (Nat.le_of_ble_eq_true rfl) (by rw [ic_1]) rfl (q := 60) rfl ?_
        refine e_goto C (tgt := 18) dX6_places_60 rfl ?_
        exact ih (x5 + (1 : Int32)) x3 _
      · refine e_lload_n C dX6_places_50 rfl 1 rfl (q := 51) rfl ?_
        refine e_lconst C (v := (1 : Int64)) dX6_places_51 (by decide) (q := 52) rfl ?_
        refine e_iload C dX6_places_52 0 rfl (q := 54) rfl ?_
        refine e_lshl C dX6_places_54 (q := 55) rfl ?_
        refine e_lor C dX6_places_55 (q := 56) rfl ?_
        refine e_nml (fun v7 => ?_)
        refine e_lstore_n C (lv1 := [(3, .long v7), (5, .int x5), (0, .ref (oA ω 0)), (1, .int a1), (2, .int a2)]) dX6_places_56 rfl (Nat.le_of_ble_eq_true rfl) rfl (q := 57) rfl ?_
        refine e_iinc C (v := x5 + (1 : Int32)) (lv1 := [(5, .int (x5 + (1 : Int32))), (3, .long v7), (0, .ref (oA ω 0)), (1, .int a1), (2, .int a2)]) dX6_places_57 1 rfl (Nat.le_of_ble_eq_true rfl) (by rw [ic_1]) rfl (q := 60) rfl ?_
        refine e_goto C (tgt := 18) dX6_places_60 rfl ?_
        exact ih (x5 + (1 : Int32)) v7 _
set_option maxHeartbeats 4000000 in
set_option maxRecDepth 100000 in
theorem x_X6_places {l : Launch} {ω : Om} {a1 : Int32} {a2 : Int32} (hn : 56 ≤ oN ω)  {I : Mem} : CTl l ω yX6_places cX6_places 6 (some .long) 7 [.ref (oA ω 0), .int a1, .int a2] (f_X6_places a1 a2 I) I := by
  refine ct_l (by decide) (Nat.le_of_ble_eq_true rfl) ?_
  intro κ hlau hret C
  refine e_lv [0, 1, 2] (lv1 := [(0, .ref (oA ω 0)), (1, .int a1), (2, .int a2)]) rfl ?_
  unfold f_X6_places
  refine e_aload_n C dX6_places_0 rfl 0 rfl (q := 1) rfl ?_
  refine e_iload_n C dX6_places_1 rfl 1 rfl (q := 2) rfl ?_
  refine e_iload_n C dX6_places_2 rfl 2 rfl (q := 3) rfl ?_
  refine e_callVi C (l := l) (k := 0) (av := [.int a1, .int a2]) (st := []) hlau (x_X6_refusalOf_ (l := l) (ω := ω) (a1 := a1) (a2 := a2) hn (I := I)) dX6_places_3 w_600 w_602 w_17 w_56 w_603 md_X6_refusalOf_ (by decide) (by decide) rfl (ltL hn (Nat.le_of_ble_eq_true rfl)) rfl rfl (Nat.le_of_ble_eq_true rfl) (q := 6) rfl (fun v2 J1 => ?_)
  refine e_ifeq C (tgt := 13) (q := 9) dX6_places_6 rfl rfl ?_ ?_
  · refine e_lconst C (v := (0 : Int64)) dX6_places_13 (by decide) (q := 14) rfl ?_
    refine e_lstore_n C (lv1 := [(3, .long (0 : Int64)), (0, .ref (oA ω 0)), (1, .int a1), (2, .int a2)]) dX6_places_14 rfl (Nat.le_of_ble_eq_true rfl) rfl (q := 15) rfl ?_
    refine e_iconst C dX6_places_15 ic_0 (q := 16) rfl ?_
    refine e_istore C (lv1 := [(5, .int (0 : Int32)), (3, .long (0 : Int64)), (0, .ref (oA ω 0)), (1, .int a1), (2, .int a2)]) dX6_places_16 (Nat.le_of_ble_eq_true rfl) rfl (q := 18) rfl ?_
    exact xb_X6_places_b18 C hlau hret hn FU (0 : Int32) (0 : Int64) _
  · refine e_ldc2 C dX6_places_9 w_595 (q := 12) rfl ?_
    exact e_lreturn C dX6_places_12 hret
set_option maxHeartbeats 4000000 in
set_option maxRecDepth 100000 in
theorem xb_X6_whose_b17 {l : Launch} {κ : Kx} {ω : Om} {a1 : Int32} (C : CX κ ω cX6_whose 5 7 yX6_whose.cls) (hlau : κ.2.1 = l) (hret : κ.2.2.2.2.2.2.2.2.1.sig.returnType = (some .int)) (hn : 56 ≤ oN ω)  : ∀ (n : Nat) (x4 : Int32) (x3 : Int32) (I : Mem), EE κ ω 5 (Gi κ ω) (f_X6_whose_b17 a1 n x4 x3 I) I 17 [(4, .int x4), (3, .int x3), (0, .ref (oA ω 0)), (1, .int a1)] [] := by
  intro n
  induction n with
  | zero => intro x4 x3 I; exact e_none
  | succ n ih =>
    intro x4 x3 I
    rw [f_X6_whose_b17]
    refine e_iload C dX6_whose_17 0 rfl (q := 19) rfl ?_
    refine e_aload_n C dX6_whose_19 rfl 2 rfl (q := 20) rfl ?_
    refine e_getf C (k := 0) (j := 1) (T := TX6) (N := 10) (v := .ref (oA ω 2)) dX6_whose_20 (ltL hn (Nat.le_of_ble_eq_true rfl)) rfl rfl (by decide) in_X6 w_347 rfl (q := 23) rfl ?_
    refine e_getf C (k := 2) (j := 8) (T := TX2) (N := 11) (v := .int (I 2 8)) dX6_whose_23 (ltL hn (Nat.le_of_ble_eq_true rfl)) (cOb_Rg (ρ := 0) (by decide) _) rfl (by decide) in_X2 w_107 rfl (q := 26) rfl ?_
    refine e_icmpge C (tgt := 57) (q := 29) dX6_whose_26 rfl rfl ?_ ?_
    · refine e_iload_n C dX6_whose_57 rfl 1 rfl (q := 58) rfl ?_
      exact e_ireturn C dX6_whose_58 hret rfl
    · refine e_aload_n C dX6_whose_29 rfl 2 rfl (q := 30) rfl ?_
      refine e_callVv C (l := l) (k := 0) (av := []) (st := []) hlau (x_X6_imagine (l := l) (ω := ω) hn (I := I)) dX6_whose_30 w_520 w_522 w_15 w_56 w_523 md_X6_imagine (by decide) (by decide) rfl (ltL hn (Nat.le_of_ble_eq_true rfl)) rfl rfl (Nat.le_of_ble_eq_true rfl) (q := 33) rfl (fun _ J3 => ?_)
      refine e_aload_n C dX6_whose_33 rfl 2 rfl (q := 34) rfl ?_
      refine e_iload_n C dX6_whose_34 rfl 3 rfl (q := 35) rfl ?_
      refine e_iload C dX6_whose_35 0 rfl (q := 37) rfl ?_
      refine e_callVi C (l := l) (k := 0) (av := [.int a1, .int x4]) (st := []) hlau (x_X6_firstOtherwise (l := l) (ω := ω) (a1 := a1) (a2 := x4) hn (I := J3)) dX6_whose_37 w_615 w_617 w_19 w_56 w_618 md_X6_firstOtherwise (by decide) (by decide) rfl (ltL hn (Nat.le_of_ble_eq_true rfl)) rfl rfl (Nat.le_of_ble_eq_true rfl) (q := 40) rfl (fun v5 J4 => ?_)
      refine e_iconst C dX6_whose_40 ic_m1 (q := 41) rfl ?_
      refine e_icmpne C (tgt := 51) (q := 44) dX6_whose_41 rfl rfl ?_ ?_
      · refine e_iinc C (v := x4 + (1 : Int32)) (lv1 := [(4, .int (x4 + (1 : Int32))), (3, .int x3), (0, .ref (oA ω 0)), (1, .int a1)]) dX6_whose_51 0 rfl (Nat.le_of_ble_eq_true rfl) (by rw [ic_1]) rfl (q := 54) rfl ?_
        refine e_goto C (tgt := 17) dX6_whose_54 rfl ?_
        exact ih (x4 + (1 : Int32)) x3 _
      · refine e_iload_n C dX6_whose_44 rfl 1 rfl (q := 45) rfl ?_
        refine e_iconst C dX6_whose_45 ic_1 (q := 46) rfl ?_
        refine e_iload C dX6_whose_46 0 rfl (q := 48) rfl ?_
        refine e_ishl C dX6_whose_48 (q := 49) rfl ?_
        refine e_ior C dX6_whose_49 (q := 50) rfl ?_
        refine e_nmi (fun v6 => ?_)
        refine e_istore_n C (lv1 := [(3, .int v6), (4, .int x4), (0, .ref (oA ω 0)), (1, .int a1)]) dX6_whose_50 rfl (Nat.le_of_ble_eq_true rfl) rfl (q := 51) rfl ?_
        refine e_iinc C (v := x4 + (1 : Int32)) (lv1 := [(4, .int (x4 + (1 : Int32))), (3, .int v6), (0, .ref (oA ω 0)), (1, .int a1)]) dX6_whose_51 1 rfl (Nat.le_of_ble_eq_true rfl) (by rw [ic_1]) rfl (q := 54) rfl ?_
        refine e_goto C (tgt := 17) dX6_whose_54 rfl ?_
        exact ih (x4 + (1 : Int32)) v6 _
set_option maxHeartbeats 4000000 in
set_option maxRecDepth 100000 in
theorem x_X6_whose {l : Launch} {ω : Om} {a1 : Int32} (hn : 56 ≤ oN ω)  {I : Mem} : CTi l ω yX6_whose cX6_whose 5 (some .int) 7 [.ref (oA ω 0), .int a1] (f_X6_whose a1 I) I := by
  refine ct_i (by decide) (Nat.le_of_ble_eq_true rfl) ?_
  intro κ hlau hret C
  refine e_lv [0, 1] (lv1 := [(0, .ref (oA ω 0)), (1, .int a1)]) rfl ?_
  unfold f_X6_whose
  refine e_aload_n C dX6_whose_0 rfl 0 rfl (q := 1) rfl ?_
  refine e_iload_n C dX6_whose_1 rfl 1 rfl (q := 2) rfl ?_
  refine e_callVi C (l := l) (k := 0) (av := [.int a1]) (st := []) hlau (x_X6_refusalOf (l := l) (ω := ω) (a1 := a1) hn (I := I)) dX6_whose_2 w_604 w_606 w_18 w_56 w_607 md_X6_refusalOf (by decide) (by decide) rfl (ltL hn (Nat.le_of_ble_eq_true rfl)) rfl rfl (Nat.le_of_ble_eq_true rfl) (q := 5) rfl (fun v2 J1 => ?_)
  refine e_istore_n C (lv1 := [(2, .int v2), (0, .ref (oA ω 0)), (1, .int a1)]) dX6_whose_5 rfl (Nat.le_of_ble_eq_true rfl) rfl (q := 6) rfl ?_
  refine e_iload_n C dX6_whose_6 rfl 0 rfl (q := 7) rfl ?_
  refine e_ifeq C (tgt := 12) (q := 10) dX6_whose_7 rfl rfl ?_ ?_
  · refine e_iconst C dX6_whose_12 ic_0 (q := 13) rfl ?_
    refine e_istore_n C (lv1 := [(3, .int (0 : Int32)), (2, .int v2), (0, .ref (oA ω 0)), (1, .int a1)]) dX6_whose_13 rfl (Nat.le_of_ble_eq_true rfl) rfl (q := 14) rfl ?_
    refine e_iconst C dX6_whose_14 ic_0 (q := 15) rfl ?_
    refine e_istore C (lv1 := [(4, .int (0 : Int32)), (3, .int (0 : Int32)), (2, .int v2), (0, .ref (oA ω 0)), (1, .int a1)]) dX6_whose_15 (Nat.le_of_ble_eq_true rfl) rfl (q := 17) rfl ?_
    exact e_lv [0, 1, 3, 4] (lv1 := [(4, .int (0 : Int32)), (3, .int (0 : Int32)), (0, .ref (oA ω 0)), (1, .int a1)]) rfl (xb_X6_whose_b17 C hlau hret hn FU (0 : Int32) (0 : Int32) _)
  · refine e_iload_n C dX6_whose_10 rfl 0 rfl (q := 11) rfl ?_
    exact e_ireturn C dX6_whose_11 hret rfl
set_option maxHeartbeats 4000000 in
set_option maxRecDepth 100000 in
theorem xb_X6_laws_b19 {l : Launch} {κ : Kx} {ω : Om} {a1 : Int32} {a2 : Int32} (C : CX κ ω cX6_laws 6 7 yX6_laws.cls) (hlau : κ.2.1 = l) (hret : κ.2.2.2.2.2.2.2.2.1.sig.returnType = (some .int)) (hn : 56 ≤ oN ω)  : ∀ (n : Nat) (x5 : Int32) (x4 : Int32) (I : Mem), EE κ ω 6 (Gi κ ω) (f_X6_laws_b19 a1 a2 n x5 x4 I) I 19 [(5, .int x5), (4, .int x4), (0, .ref (oA ω 0)), (1, .int a1), (2, .int a2)] [] := by
  intro n
  induction n with
  | zero => intro x5 x4 I; exact e_none
  | succ n ih =>
    intro x5 x4 I
    rw [f_X6_laws_b19]
    refine e_iload C dX6_laws_19 0 rfl (q := 21) rfl ?_
    refine e_aload_n C dX6_laws_21 rfl 2 rfl (q := 22) rfl ?_
    refine e_getf C (k := 0) (j := 7) (T := TX6) (N := 10) (v := .int (I 0 7)) dX6_laws_22 (ltL hn (Nat.le_of_ble_eq_true rfl)) rfl rfl (by decide) in_X6 w_353 rfl (q := 25) rfl ?_
    refine e_icmpge C (tgt := 66) (q := 28) dX6_laws_25 rfl rfl ?_ ?_
    · refine e_iload C dX6_laws_66 1 rfl (q := 68) rfl ?_
      exact e_ireturn C dX6_laws_68 hret rfl
    · refine e_aload_n C dX6_laws_28 rfl 2 rfl (q := 29) rfl ?_
      refine e_callVv C (l := l) (k := 0) (av := []) (st := []) hlau (x_X6_imagine (l := l) (ω := ω) hn (I := I)) dX6_laws_29 w_520 w_522 w_15 w_56 w_523 md_X6_imagine (by decide) (by decide) rfl (ltL hn (Nat.le_of_ble_eq_true rfl)) rfl rfl (Nat.le_of_ble_eq_true rfl) (q := 32) rfl (fun _ J3 => ?_)
      refine e_aload_n C dX6_laws_32 rfl 2 rfl (q := 33) rfl ?_
      refine e_getf C (k := 0) (j := 2) (T := TX6) (N := 10) (v := .ref (oA ω 10)) dX6_laws_33 (ltL hn (Nat.le_of_ble_eq_true rfl)) rfl rfl (by decide) in_X6 w_348 rfl (q := 36) rfl ?_
      refine e_iload C dX6_laws_36 0 rfl (q := 38) rfl ?_
      refine e_putf C (k := 10) (j := 10) (T := TX2) (N := 11) dX6_laws_38 (ltL hn (Nat.le_of_ble_eq_true rfl)) (cOb_Rg (ρ := 1) (by decide) _) rfl (by decide) in_X2 w_112 tyX2_ok nmX2 rfl rfl rfl (show 10 < 11 by decide) (set_Rg_10_ (ρ := 1) (by decide) _) (q := 41) rfl ?_
      refine e_nmM (fun J4 => ?_)
      refine e_aload_n C dX6_laws_41 rfl 2 rfl (q := 42) rfl ?_
      refine e_iload_n C dX6_laws_42 rfl 3 rfl (q := 43) rfl ?_
      refine e_iload_n C dX6_laws_43 rfl 4 rfl (q := 44) rfl ?_
      refine e_callVi C (l := l) (k := 0) (av := [.int a1, .int a2]) (st := []) hlau (x_X6_firstOtherwise (l := l) (ω := ω) (a1 := a1) (a2 := a2) hn (I := J4)) dX6_laws_44 w_615 w_617 w_19 w_56 w_618 md_X6_firstOtherwise (by decide) (by decide) rfl (ltL hn (Nat.le_of_ble_eq_true rfl)) rfl rfl (Nat.le_of_ble_eq_true rfl) (q := 47) rfl (fun v6 J5 => ?_)
      refine e_iconst C dX6_laws_47 ic_m1 (q := 48) rfl ?_
      refine e_icmpne C (tgt := 60) (q := 51) dX6_laws_48 rfl rfl ?_ ?_
      · refine e_iinc C (v := x5 + (1 : Int32)) (lv1 := [(5, .int (x5 + (1 : Int32))), (4, .int x4), (0, .ref (oA ω 0)), (1, .int a1), (2, .int a2)]) dX6_laws_60 0 rfl (Nat.le_of_ble_eq_true rfl) (by rw [ic_1]) rfl (q := 63) rfl ?_
        refine e_goto C (tgt := 19) dX6_laws_63 rfl ?_
        exact ih (x5 + (1 : Int32)) x4 _
      · refine e_iload C dX6_laws_51 1 rfl (q := 53) rfl ?_
        refine e_iconst C dX6_laws_53 ic_1 (q := 54) rfl ?_
        refine e_iload C dX6_laws_54 0 rfl (q := 56) rfl ?_
        refine e_ishl C dX6_laws_56 (q := 57) rfl ?_
        refine e_ior C dX6_laws_57 (q := 58) rfl ?_
        refine e_nmi (fun v7 => ?_)
        refine e_istore C (lv1 := [(4, .int v7), (5, .int x5), (0, .ref (oA ω 0)), (1, .int a1), (2, .int a2)]) dX6_laws_58 (Nat.le_of_ble_eq_true rfl) rfl (q := 60) rfl ?_
        refine e_iinc C (v := x5 + (1 : Int32)) (lv1 := [(5, .int (x5 + (1 : Int32))), (4, .int v7), (0, .ref (oA ω 0)), (1, .int a1), (2, .int a2)]) dX6_laws_60 1 rfl (Nat.le_of_ble_eq_true rfl) (by rw [ic_1]) rfl (q := 63) rfl ?_
        refine e_goto C (tgt := 19) dX6_laws_63 rfl ?_
        exact ih (x5 + (1 : Int32)) v7 _
set_option maxHeartbeats 4000000 in
set_option maxRecDepth 100000 in
theorem x_X6_laws {l : Launch} {ω : Om} {a1 : Int32} {a2 : Int32} (hn : 56 ≤ oN ω)  {I : Mem} : CTi l ω yX6_laws cX6_laws 6 (some .int) 7 [.ref (oA ω 0), .int a1, .int a2] (f_X6_laws a1 a2 I) I := by
  refine ct_i (by decide) (Nat.le_of_ble_eq_true rfl) ?_
  intro κ hlau hret C
  refine e_lv [0, 1, 2] (lv1 := [(0, .ref (oA ω 0)), (1, .int a1), (2, .int a2)]) rfl ?_
  unfold f_X6_laws
  refine e_aload_n C dX6_laws_0 rfl 0 rfl (q := 1) rfl ?_
  refine e_iload_n C dX6_laws_1 rfl 1 rfl (q := 2) rfl ?_
  refine e_iload_n C dX6_laws_2 rfl 2 rfl (q := 3) rfl ?_
  refine e_callVi C (l := l) (k := 0) (av := [.int a1, .int a2]) (st := []) hlau (x_X6_refusalOf_ (l := l) (ω := ω) (a1 := a1) (a2 := a2) hn (I := I)) dX6_laws_3 w_600 w_602 w_17 w_56 w_603 md_X6_refusalOf_ (by decide) (by decide) rfl (ltL hn (Nat.le_of_ble_eq_true rfl)) rfl rfl (Nat.le_of_ble_eq_true rfl) (q := 6) rfl (fun v2 J1 => ?_)
  refine e_istore_n C (lv1 := [(3, .int v2), (0, .ref (oA ω 0)), (1, .int a1), (2, .int a2)]) dX6_laws_6 rfl (Nat.le_of_ble_eq_true rfl) rfl (q := 7) rfl ?_
  refine e_iload_n C dX6_laws_7 rfl 0 rfl (q := 8) rfl ?_
  refine e_ifeq C (tgt := 13) (q := 11) dX6_laws_8 rfl rfl ?_ ?_
  · refine e_iconst C dX6_laws_13 ic_0 (q := 14) rfl ?_
    refine e_istore C (lv1 := [(4, .int (0 : Int32)), (3, .int v2), (0, .ref (oA ω 0)), (1, .int a1), (2, .int a2)]) dX6_laws_14 (Nat.le_of_ble_eq_true rfl) rfl (q := 16) rfl ?_
    refine e_iconst C dX6_laws_16 ic_0 (q := 17) rfl ?_
    refine e_istore C (lv1 := [(5, .int (0 : Int32)), (4, .int (0 : Int32)), (3, .int v2), (0, .ref (oA ω 0)), (1, .int a1), (2, .int a2)]) dX6_laws_17 (Nat.le_of_ble_eq_true rfl) rfl (q := 19) rfl ?_
    exact e_lv [0, 1, 3, 4, 5] (lv1 := [(5, .int (0 : Int32)), (4, .int (0 : Int32)), (0, .ref (oA ω 0)), (1, .int a1), (2, .int a2)]) rfl (xb_X6_laws_b19 C hlau hret hn FU (0 : Int32) (0 : Int32) _)
  · refine e_iload_n C dX6_laws_11 rfl 0 rfl (q := 12) rfl ?_
    exact e_ireturn C dX6_laws_12 hret rfl
set_option maxHeartbeats 4000000 in
set_option maxRecDepth 100000 in
theorem xb_X6_film_b52 {l : Launch} {κ : Kx} {ω : Om} {a1 : Int32} {a2 : Int32} {a3 : Int32} (C : CX κ ω cX6_film 5 6 yX6_film.cls) (hlau : κ.2.1 = l) (hret : κ.2.2.2.2.2.2.2.2.1.sig.returnType = (some .int)) (hn : 56 ≤ oN ω)  : ∀ (n : Nat) (x4 : Int32) (I : Mem), EE κ ω 5 (Gi κ ω) (f_X6_film_b52 a1 a2 a3 n x4 I) I 52 [(4, .int x4), (0, .ref (oA ω 0)), (1, .int a1), (2, .int a2), (3, .int a3)] [] := by
  intro n
  induction n with
  | zero => intro x4 I; exact e_none
  | succ n ih =>
    intro x4 I
    rw [f_X6_film_b52]
    refine e_iload C dX6_film_52 0 rfl (q := 54) rfl ?_
    refine e_iload_n C dX6_film_54 rfl 4 rfl (q := 55) rfl ?_
    refine e_icmpge C (tgt := 93) (q := 58) dX6_film_55 rfl rfl ?_ ?_
    · refine e_iload_n C dX6_film_93 rfl 4 rfl (q := 94) rfl ?_
      exact e_ireturn C dX6_film_94 hret rfl
    · refine e_aload_n C dX6_film_58 rfl 1 rfl (q := 59) rfl ?_
      refine e_getf C (k := 0) (j := 2) (T := TX6) (N := 10) (v := .ref (oA ω 10)) dX6_film_59 (ltL hn (Nat.le_of_ble_eq_true rfl)) rfl rfl (by decide) in_X6 w_348 rfl (q := 62) rfl ?_
      refine e_callVi C (l := l) (k := 10) (av := []) (st := []) hlau (x_X2_play (l := l) (ω := ω) (ρ := 1) hn (by decide) (I := I)) dX6_film_62 w_495 w_496 w_497 w_57 w_498 md_X2_play (by decide) (by decide) rfl (ltL hn (Nat.le_of_ble_eq_true rfl)) (cOb_Rg (ρ := 1) (by decide) _) rfl (Nat.le_of_ble_eq_true rfl) (q := 65) rfl (fun v11 J10 => ?_)
      refine e_pop C dX6_film_65 rfl (q := 66) rfl ?_
      refine e_aload_n C dX6_film_66 rfl 1 rfl (q := 67) rfl ?_
      refine e_getf C (k := 0) (j := 6) (T := TX6) (N := 10) (v := .ref (oA ω 28)) dX6_film_67 (ltL hn (Nat.le_of_ble_eq_true rfl)) rfl rfl (by decide) in_X6 w_352 rfl (q := 70) rfl ?_
      refine e_iload_n C dX6_film_70 rfl 2 rfl (q := 71) rfl ?_
      refine e_aldS1 C hn dX6_film_71 (q := 72) rfl (fun h12 => ?_)
      refine e_getf C (k := (48 + 2 * a1.toNatClampNeg)) (j := 0) (T := TX3) (N := 3) (v := .ref (oA ω (48 + 2 * a1.toNatClampNeg + 1))) dX6_film_72 (ltSh hn h12) (cOb_Sh (σ := a1.toNatClampNeg) h12 _) rfl (by decide) in_X3 w_192 rfl (q := 75) rfl ?_
      refine e_iload C dX6_film_75 0 rfl (q := 77) rfl ?_
      refine e_aload_n C dX6_film_77 rfl 1 rfl (q := 78) rfl ?_
      refine e_getf C (k := 0) (j := 2) (T := TX6) (N := 10) (v := .ref (oA ω 10)) dX6_film_78 (ltL hn (Nat.le_of_ble_eq_true rfl)) rfl rfl (by decide) in_X6 w_348 rfl (q := 81) rfl ?_
      refine e_getf C (k := 10) (j := 4) (T := TX2) (N := 11) (v := .ref (oA ω 14)) dX6_film_81 (ltL hn (Nat.le_of_ble_eq_true rfl)) (cOb_Rg (ρ := 1) (by decide) _) rfl (by decide) in_X2 w_98 rfl (q := 84) rfl ?_
      refine e_iload_n C dX6_film_84 rfl 3 rfl (q := 85) rfl ?_
      refine e_iald C (k := 14) (n := 6) dX6_film_85 (ltL hn (Nat.le_of_ble_eq_true rfl)) rfl (q := 86) rfl ?_
      refine e_iast C (k := (48 + 2 * a1.toNatClampNeg + 1)) (n := 40) dX6_film_86 (ltShj hn h12) (cAr_Sh1 h12) (q := 87) rfl ?_
      refine e_nmM (fun J13 => ?_)
      refine e_iinc C (v := x4 + (1 : Int32)) (lv1 := [(4, .int (x4 + (1 : Int32))), (0, .ref (oA ω 0)), (1, .int a1), (2, .int a2), (3, .int a3)]) dX6_film_87 0 rfl (Nat.le_of_ble_eq_true rfl) (by rw [ic_1]) rfl (q := 90) rfl ?_
      refine e_goto C (tgt := 52) dX6_film_90 rfl ?_
      exact ih (x4 + (1 : Int32)) _
set_option maxHeartbeats 4000000 in
set_option maxRecDepth 100000 in
theorem x_X6_film {l : Launch} {ω : Om} {a1 : Int32} {a2 : Int32} {a3 : Int32} (hn : 56 ≤ oN ω)  {I : Mem} : CTi l ω yX6_film cX6_film 5 (some .int) 6 [.ref (oA ω 0), .int a1, .int a2, .int a3] (f_X6_film a1 a2 a3 I) I := by
  refine ct_i (by decide) (Nat.le_of_ble_eq_true rfl) ?_
  intro κ hlau hret C
  refine e_lv [0, 1, 2, 3] (lv1 := [(0, .ref (oA ω 0)), (1, .int a1), (2, .int a2), (3, .int a3)]) rfl ?_
  unfold f_X6_film
  refine e_iload_n C dX6_film_0 rfl 1 rfl (q := 1) rfl ?_
  refine e_callSi C (l := l) (av := [.int a1]) (st := []) hlau (x_X6_isSheet (l := l) (ω := ω) (a0 := a1) hn (I := I)) dX6_film_1 w_608 w_609 w_56 w_610 md_X6_isSheet (by decide) (by decide) rfl (Nat.le_of_ble_eq_true rfl) (q := 4) rfl (fun v2 J1 => ?_)
  refine e_ifne C (tgt := 10) (q := 7) dX6_film_4 rfl rfl ?_ ?_
  · refine e_aload_n C dX6_film_10 rfl 0 rfl (q := 11) rfl ?_
    refine e_iload_n C dX6_film_11 rfl 2 rfl (q := 12) rfl ?_
    refine e_callVi C (l := l) (k := 0) (av := [.int a2]) (st := []) hlau (x_X6_isHat (l := l) (ω := ω) (a1 := a2) hn (I := J1)) dX6_film_12 w_408 w_410 w_12 w_56 w_411 md_X6_isHat (by decide) (by decide) rfl (ltL hn (Nat.le_of_ble_eq_true rfl)) rfl rfl (Nat.le_of_ble_eq_true rfl) (q := 15) rfl (fun v4 J3 => ?_)
    refine e_ifne C (tgt := 21) (q := 18) dX6_film_15 rfl rfl ?_ ?_
    · refine e_iload_n C dX6_film_21 rfl 3 rfl (q := 22) rfl ?_
      refine e_iconst C dX6_film_22 ic_0 (q := 23) rfl ?_
      refine e_bipush C dX6_film_23 b8_20 (q := 25) rfl ?_
      refine e_callSi C (l := l) (av := [.int a3, .int (0 : Int32), .int (20 : Int32)]) (st := []) hlau (x_X6_within (l := l) (ω := ω) (a0 := a3) (a1 := (0 : Int32)) (a2 := (20 : Int32)) hn (I := J3)) dX6_film_25 w_390 w_391 w_56 w_392 md_X6_within (by decide) (by decide) rfl (Nat.le_of_ble_eq_true rfl) (q := 28) rfl (fun v6 J5 => ?_)
      refine e_ifne C (tgt := 34) (q := 31) dX6_film_28 rfl rfl ?_ ?_
      · refine e_aload_n C dX6_film_34 rfl 0 rfl (q := 35) rfl ?_
        refine e_getf C (k := 0) (j := 6) (T := TX6) (N := 10) (v := .ref (oA ω 28)) dX6_film_35 (ltL hn (Nat.le_of_ble_eq_true rfl)) rfl rfl (by decide) in_X6 w_352 rfl (q := 38) rfl ?_
        refine e_iload_n C dX6_film_38 rfl 1 rfl (q := 39) rfl ?_
        refine e_aldS1 C hn dX6_film_39 (q := 40) rfl (fun h7 => ?_)
        refine e_iconst C dX6_film_40 ic_0 (q := 41) rfl ?_
        refine e_iload_n C dX6_film_41 rfl 3 rfl (q := 42) rfl ?_
        refine e_callVv C (l := l) (k := (48 + 2 * a1.toNatClampNeg)) (av := [.int (0 : Int32), .int a3]) (st := []) hlau (x_X3_become (l := l) (ω := ω) (σ := a1.toNatClampNeg) (a1 := (0 : Int32)) (a2 := a3) hn h7 (I := J5)) dX6_film_42 w_643 w_644 w_645 w_60 w_646 md_X3_become (by decide) (by decide) rfl (ltSh hn h7) (cOb_Sh (σ := a1.toNatClampNeg) h7 _) rfl (Nat.le_of_ble_eq_true rfl) (q := 45) rfl (fun _ J8 => ?_)
        refine e_aload_n C dX6_film_45 rfl 0 rfl (q := 46) rfl ?_
        refine e_callVv C (l := l) (k := 0) (av := []) (st := []) hlau (x_X6_imagine (l := l) (ω := ω) hn (I := J8)) dX6_film_46 w_520 w_522 w_15 w_56 w_523 md_X6_imagine (by decide) (by decide) rfl (ltL hn (Nat.le_of_ble_eq_true rfl)) rfl rfl (Nat.le_of_ble_eq_true rfl) (q := 49) rfl (fun _ J9 => ?_)
        refine e_iconst C dX6_film_49 ic_0 (q := 50) rfl ?_
        refine e_istore C (lv1 := [(4, .int (0 : Int32)), (0, .ref (oA ω 0)), (1, .int a1), (2, .int a2), (3, .int a3)]) dX6_film_50 (Nat.le_of_ble_eq_true rfl) rfl (q := 52) rfl ?_
        exact xb_X6_film_b52 C hlau hret hn FU (0 : Int32) _
      · refine e_bipush C dX6_film_31 b8_m7 (q := 33) rfl ?_
        exact e_ireturn C dX6_film_33 hret rfl
    · refine e_bipush C dX6_film_18 b8_m5 (q := 20) rfl ?_
      exact e_ireturn C dX6_film_20 hret rfl
  · refine e_bipush C dX6_film_7 b8_m2 (q := 9) rfl ?_
    exact e_ireturn C dX6_film_9 hret rfl
set_option maxHeartbeats 4000000 in
set_option maxRecDepth 100000 in
theorem xb_X6_imagineDrawn_b67 {l : Launch} {κ : Kx} {ω : Om} {a1 : Int32} (C : CX κ ω cX6_imagineDrawn 5 6 yX6_imagineDrawn.cls) (hlau : κ.2.1 = l) (hret : κ.2.2.2.2.2.2.2.2.1.sig.returnType = none) (hn : 56 ≤ oN ω)  : ∀ (n : Nat) (x4 : Int32) (I : Mem), EE κ ω 5 (Gv κ ω) (f_X6_imagineDrawn_b67 a1 n x4 I) I 67 [(4, .int x4), (0, .ref (oA ω 0))] [] := by
  intro n
  induction n with
  | zero => intro x4 I; exact e_none
  | succ n ih =>
    intro x4 I
    rw [f_X6_imagineDrawn_b67]
    refine e_iload C dX6_imagineDrawn_67 0 rfl (q := 69) rfl ?_
    refine e_bipush C dX6_imagineDrawn_69 b8_20 (q := 71) rfl ?_
    refine e_icmpge C (tgt := 88) (q := 74) dX6_imagineDrawn_71 rfl rfl ?_ ?_
    · exact e_vreturn C dX6_imagineDrawn_88 hret
    · refine e_aload_n C dX6_imagineDrawn_74 rfl 1 rfl (q := 75) rfl ?_
      refine e_getf C (k := 0) (j := 2) (T := TX6) (N := 10) (v := .ref (oA ω 10)) dX6_imagineDrawn_75 (ltL hn (Nat.le_of_ble_eq_true rfl)) rfl rfl (by decide) in_X6 w_348 rfl (q := 78) rfl ?_
      refine e_callVi C (l := l) (k := 10) (av := []) (st := []) hlau (x_X2_play (l := l) (ω := ω) (ρ := 1) hn (by decide) (I := I)) dX6_imagineDrawn_78 w_495 w_496 w_497 w_57 w_498 md_X2_play (by decide) (by decide) rfl (ltL hn (Nat.le_of_ble_eq_true rfl)) (cOb_Rg (ρ := 1) (by decide) _) rfl (Nat.le_of_ble_eq_true rfl) (q := 81) rfl (fun v4 J3 => ?_)
      refine e_pop C dX6_imagineDrawn_81 rfl (q := 82) rfl ?_
      refine e_iinc C (v := x4 + (1 : Int32)) (lv1 := [(4, .int (x4 + (1 : Int32))), (0, .ref (oA ω 0))]) dX6_imagineDrawn_82 0 rfl (Nat.le_of_ble_eq_true rfl) (by rw [ic_1]) rfl (q := 85) rfl ?_
      refine e_goto C (tgt := 67) dX6_imagineDrawn_85 rfl ?_
      exact ih (x4 + (1 : Int32)) _
set_option maxHeartbeats 4000000 in
set_option maxRecDepth 100000 in
theorem xb_X6_imagineDrawn_b20 {l : Launch} {κ : Kx} {ω : Om} {a1 : Int32} (C : CX κ ω cX6_imagineDrawn 5 6 yX6_imagineDrawn.cls) (hlau : κ.2.1 = l) (hret : κ.2.2.2.2.2.2.2.2.1.sig.returnType = none) (hn : 56 ≤ oN ω)  : ∀ (n : Nat) (x4 : Int32) (x2 : Int64) (I : Mem), EE κ ω 5 (Gv κ ω) (f_X6_imagineDrawn_b20 a1 n x4 x2 I) I 20 [(4, .int x4), (2, .long x2), (0, .ref (oA ω 0))] [] := by
  intro n
  induction n with
  | zero => intro x4 x2 I; exact e_none
  | succ n ih =>
    intro x4 x2 I
    rw [f_X6_imagineDrawn_b20]
    refine e_iload C dX6_imagineDrawn_20 0 rfl (q := 22) rfl ?_
    refine e_aload_n C dX6_imagineDrawn_22 rfl 2 rfl (q := 23) rfl ?_
    refine e_getf C (k := 0) (j := 2) (T := TX6) (N := 10) (v := .ref (oA ω 10)) dX6_imagineDrawn_23 (ltL hn (Nat.le_of_ble_eq_true rfl)) rfl rfl (by decide) in_X6 w_348 rfl (q := 26) rfl ?_
    refine e_getf C (k := 10) (j := 8) (T := TX2) (N := 11) (v := .int (I 10 8)) dX6_imagineDrawn_26 (ltL hn (Nat.le_of_ble_eq_true rfl)) (cOb_Rg (ρ := 1) (by decide) _) rfl (by decide) in_X2 w_107 rfl (q := 29) rfl ?_
    refine e_icmpge C (tgt := 64) (q := 32) dX6_imagineDrawn_29 rfl rfl ?_ ?_
    · refine e_iconst C dX6_imagineDrawn_64 ic_0 (q := 65) rfl ?_
      refine e_istore C (lv1 := [(4, .int (0 : Int32)), (2, .long x2), (0, .ref (oA ω 0))]) dX6_imagineDrawn_65 (Nat.le_of_ble_eq_true rfl) rfl (q := 67) rfl ?_
      exact e_lv [0, 2] (lv1 := [(4, .int (0 : Int32)), (0, .ref (oA ω 0))]) rfl (xb_X6_imagineDrawn_b67 C hlau hret hn FU (0 : Int32) _)
    · refine e_aload_n C dX6_imagineDrawn_32 rfl 2 rfl (q := 33) rfl ?_
      refine e_getf C (k := 0) (j := 2) (T := TX6) (N := 10) (v := .ref (oA ω 10)) dX6_imagineDrawn_33 (ltL hn (Nat.le_of_ble_eq_true rfl)) rfl rfl (by decide) in_X6 w_348 rfl (q := 36) rfl ?_
      refine e_getf C (k := 10) (j := 3) (T := TX2) (N := 11) (v := .ref (oA ω 13)) dX6_imagineDrawn_36 (ltL hn (Nat.le_of_ble_eq_true rfl)) (cOb_Rg (ρ := 1) (by decide) _) rfl (by decide) in_X2 w_95 rfl (q := 39) rfl ?_
      refine e_iload C dX6_imagineDrawn_39 0 rfl (q := 41) rfl ?_
      refine e_lload_n C dX6_imagineDrawn_41 rfl 1 rfl (q := 42) rfl ?_
      refine e_ldc2 C dX6_imagineDrawn_42 w_661 (q := 45) rfl ?_
      refine e_lrem C dX6_imagineDrawn_45 (by decide) (q := 46) rfl ?_
      refine e_l2i C dX6_imagineDrawn_46 (q := 47) rfl ?_
      refine e_iast C (k := 13) (n := 6) dX6_imagineDrawn_47 (ltL hn (Nat.le_of_ble_eq_true rfl)) (fun _ => rfl) (q := 48) rfl ?_
      refine e_nmM (fun J5 => ?_)
      refine e_lload_n C dX6_imagineDrawn_48 rfl 1 rfl (q := 49) rfl ?_
      refine e_ldc2 C dX6_imagineDrawn_49 w_659 (q := 52) rfl ?_
      refine e_lmul C dX6_imagineDrawn_52 (q := 53) rfl ?_
      refine e_ldc2 C dX6_imagineDrawn_53 w_660 (q := 56) rfl ?_
      refine e_lrem C dX6_imagineDrawn_56 (by decide) (q := 57) rfl ?_
      refine e_nml (fun v6 => ?_)
      refine e_lstore_n C (lv1 := [(2, .long v6), (4, .int x4), (0, .ref (oA ω 0))]) dX6_imagineDrawn_57 rfl (Nat.le_of_ble_eq_true rfl) rfl (q := 58) rfl ?_
      refine e_iinc C (v := x4 + (1 : Int32)) (lv1 := [(4, .int (x4 + (1 : Int32))), (2, .long v6), (0, .ref (oA ω 0))]) dX6_imagineDrawn_58 1 rfl (Nat.le_of_ble_eq_true rfl) (by rw [ic_1]) rfl (q := 61) rfl ?_
      refine e_goto C (tgt := 20) dX6_imagineDrawn_61 rfl ?_
      exact ih (x4 + (1 : Int32)) v6 _
set_option maxHeartbeats 4000000 in
set_option maxRecDepth 100000 in
theorem x_X6_imagineDrawn {l : Launch} {ω : Om} {a1 : Int32} (hn : 56 ≤ oN ω)  {I : Mem} : CTv l ω yX6_imagineDrawn cX6_imagineDrawn 5 none 6 [.ref (oA ω 0), .int a1] (f_X6_imagineDrawn a1 I) I := by
  refine ct_v (by decide) (Nat.le_of_ble_eq_true rfl) ?_
  intro κ hlau hret C
  refine e_lv [0, 1] (lv1 := [(0, .ref (oA ω 0)), (1, .int a1)]) rfl ?_
  unfold f_X6_imagineDrawn
  refine e_aload_n C dX6_imagineDrawn_0 rfl 0 rfl (q := 1) rfl ?_
  refine e_callVv C (l := l) (k := 0) (av := []) (st := []) hlau (x_X6_imagine (l := l) (ω := ω) hn (I := I)) dX6_imagineDrawn_1 w_520 w_522 w_15 w_56 w_523 md_X6_imagine (by decide) (by decide) rfl (ltL hn (Nat.le_of_ble_eq_true rfl)) rfl rfl (Nat.le_of_ble_eq_true rfl) (q := 4) rfl (fun _ J1 => ?_)
  refine e_iload_n C dX6_imagineDrawn_4 rfl 1 rfl (q := 5) rfl ?_
  refine e_i2l C dX6_imagineDrawn_5 (q := 6) rfl ?_
  refine e_lconst C (v := (1 : Int64)) dX6_imagineDrawn_6 (by decide) (q := 7) rfl ?_
  refine e_ladd C dX6_imagineDrawn_7 (q := 8) rfl ?_
  refine e_ldc2 C dX6_imagineDrawn_8 w_659 (q := 11) rfl ?_
  refine e_lmul C dX6_imagineDrawn_11 (q := 12) rfl ?_
  refine e_ldc2 C dX6_imagineDrawn_12 w_660 (q := 15) rfl ?_
  refine e_lrem C dX6_imagineDrawn_15 (by decide) (q := 16) rfl ?_
  refine e_nml (fun v2 => ?_)
  refine e_lstore_n C (lv1 := [(2, .long v2), (0, .ref (oA ω 0)), (1, .int a1)]) dX6_imagineDrawn_16 rfl (Nat.le_of_ble_eq_true rfl) rfl (q := 17) rfl ?_
  refine e_iconst C dX6_imagineDrawn_17 ic_0 (q := 18) rfl ?_
  refine e_istore C (lv1 := [(4, .int (0 : Int32)), (2, .long v2), (0, .ref (oA ω 0)), (1, .int a1)]) dX6_imagineDrawn_18 (Nat.le_of_ble_eq_true rfl) rfl (q := 20) rfl ?_
  exact e_lv [0, 1, 2] (lv1 := [(4, .int (0 : Int32)), (2, .long v2), (0, .ref (oA ω 0))]) rfl (xb_X6_imagineDrawn_b20 C hlau hret hn FU (0 : Int32) v2 _)
set_option maxHeartbeats 4000000 in
set_option maxRecDepth 100000 in
theorem x_X6_drawn {l : Launch} {ω : Om} {a1 : Int32} {a2 : Int32} (hn : 56 ≤ oN ω)  {I : Mem} : CTi l ω yX6_drawn cX6_drawn 3 (some .int) 7 [.ref (oA ω 0), .int a1, .int a2] (f_X6_drawn a1 a2 I) I := by
  refine ct_i (by decide) (Nat.le_of_ble_eq_true rfl) ?_
  intro κ hlau hret C
  refine e_lv [0, 1, 2] (lv1 := [(0, .ref (oA ω 0)), (1, .int a1), (2, .int a2)]) rfl ?_
  unfold f_X6_drawn
  refine e_iload_n C dX6_drawn_0 rfl 1 rfl (q := 1) rfl ?_
  refine e_iconst C dX6_drawn_1 ic_0 (q := 2) rfl ?_
  refine e_ldc C dX6_drawn_2 w_654 (q := 4) rfl ?_
  refine e_callSi C (l := l) (av := [.int a1, .int (0 : Int32), .int (99999 : Int32)]) (st := []) hlau (x_X6_within (l := l) (ω := ω) (a0 := a1) (a1 := (0 : Int32)) (a2 := (99999 : Int32)) hn (I := I)) dX6_drawn_4 w_390 w_391 w_56 w_392 md_X6_within (by decide) (by decide) rfl (Nat.le_of_ble_eq_true rfl) (q := 7) rfl (fun v2 J1 => ?_)
  refine e_ifeq C (tgt := 19) (q := 10) dX6_drawn_7 rfl rfl ?_ ?_
  · refine e_bipush C dX6_drawn_19 b8_m2 (q := 21) rfl ?_
    exact e_ireturn C dX6_drawn_21 hret rfl
  · refine e_iload_n C dX6_drawn_10 rfl 2 rfl (q := 11) rfl ?_
    refine e_iconst C dX6_drawn_11 ic_0 (q := 12) rfl ?_
    refine e_iconst C dX6_drawn_12 ic_1 (q := 13) rfl ?_
    refine e_callSi C (l := l) (av := [.int a2, .int (0 : Int32), .int (1 : Int32)]) (st := []) hlau (x_X6_within (l := l) (ω := ω) (a0 := a2) (a1 := (0 : Int32)) (a2 := (1 : Int32)) hn (I := J1)) dX6_drawn_13 w_390 w_391 w_56 w_392 md_X6_within (by decide) (by decide) rfl (Nat.le_of_ble_eq_true rfl) (q := 16) rfl (fun v4 J3 => ?_)
    refine e_ifne C (tgt := 22) (q := 19) dX6_drawn_16 rfl rfl ?_ ?_
    · refine e_aload_n C dX6_drawn_22 rfl 0 rfl (q := 23) rfl ?_
      refine e_iload_n C dX6_drawn_23 rfl 1 rfl (q := 24) rfl ?_
      refine e_callVv C (l := l) (k := 0) (av := [.int a1]) (st := []) hlau (x_X6_imagineDrawn (l := l) (ω := ω) (a1 := a1) hn (I := J3)) dX6_drawn_24 w_655 w_657 w_20 w_56 w_658 md_X6_imagineDrawn (by decide) (by decide) rfl (ltL hn (Nat.le_of_ble_eq_true rfl)) rfl rfl (Nat.le_of_ble_eq_true rfl) (q := 27) rfl (fun _ J5 => ?_)
      refine e_iload_n C dX6_drawn_27 rfl 2 rfl (q := 28) rfl ?_
      refine e_ifne C (tgt := 41) (q := 31) dX6_drawn_28 rfl rfl ?_ ?_
      · refine e_aload_n C dX6_drawn_41 rfl 0 rfl (q := 42) rfl ?_
        refine e_getf C (k := 0) (j := 2) (T := TX6) (N := 10) (v := .ref (oA ω 10)) dX6_drawn_42 (ltL hn (Nat.le_of_ble_eq_true rfl)) rfl rfl (by decide) in_X6 w_348 rfl (q := 45) rfl ?_
        refine e_callVi C (l := l) (k := 10) (av := []) (st := []) hlau (x_X2_tallySum (l := l) (ω := ω) (ρ := 1) hn (by decide) (I := J5)) dX6_drawn_45 w_535 w_536 w_537 w_57 w_538 md_X2_tallySum (by decide) (by decide) rfl (ltL hn (Nat.le_of_ble_eq_true rfl)) (cOb_Rg (ρ := 1) (by decide) _) rfl (Nat.le_of_ble_eq_true rfl) (q := 48) rfl (fun v7 J6 => ?_)
        exact e_ireturn C dX6_drawn_48 hret rfl
      · refine e_aload_n C dX6_drawn_31 rfl 0 rfl (q := 32) rfl ?_
        refine e_getf C (k := 0) (j := 2) (T := TX6) (N := 10) (v := .ref (oA ω 10)) dX6_drawn_32 (ltL hn (Nat.le_of_ble_eq_true rfl)) rfl rfl (by decide) in_X6 w_348 rfl (q := 35) rfl ?_
        refine e_callVi C (l := l) (k := 10) (av := []) (st := []) hlau (x_X2_upBits (l := l) (ω := ω) (ρ := 1) hn (by decide) (I := J5)) dX6_drawn_35 w_531 w_532 w_533 w_57 w_534 md_X2_upBits (by decide) (by decide) rfl (ltL hn (Nat.le_of_ble_eq_true rfl)) (cOb_Rg (ρ := 1) (by decide) _) rfl (Nat.le_of_ble_eq_true rfl) (q := 38) rfl (fun v9 J8 => ?_)
        refine e_goto C (tgt := 48) dX6_drawn_38 rfl ?_
        exact e_ireturn C dX6_drawn_48 hret rfl
    · refine e_bipush C dX6_drawn_19 b8_m2 (q := 21) rfl ?_
      exact e_ireturn C dX6_drawn_21 hret rfl
set_option maxHeartbeats 4000000 in
set_option maxRecDepth 100000 in
theorem xb_X6_odds_b38 {l : Launch} {κ : Kx} {ω : Om} {a1 : Int32} {a2 : Int32} {a3 : Int32} {a4 : Int32} (C : CX κ ω cX6_odds 7 7 yX6_odds.cls) (hlau : κ.2.1 = l) (hret : κ.2.2.2.2.2.2.2.2.1.sig.returnType = (some .long)) (hn : 56 ≤ oN ω)  : ∀ (n : Nat) (x6 : Int32) (x5 : Int32) (I : Mem), EE κ ω 7 (Gl κ ω) (f_X6_odds_b38 a1 a2 a3 a4 n x6 x5 I) I 38 [(6, .int x6), (5, .int x5), (0, .ref (oA ω 0)), (1, .int a1), (2, .int a2), (3, .int a3), (4, .int a4)] [] := by
  intro n
  induction n with
  | zero => intro x6 x5 I; exact e_none
  | succ n ih =>
    intro x6 x5 I
    rw [f_X6_odds_b38]
    refine e_iload C dX6_odds_38 0 rfl (q := 40) rfl ?_
    refine e_iload_n C dX6_odds_40 rfl 4 rfl (q := 41) rfl ?_
    refine e_icmpge C (tgt := 73) (q := 44) dX6_odds_41 rfl rfl ?_ ?_
    · refine e_iload C dX6_odds_73 1 rfl (q := 75) rfl ?_
      refine e_iload_n C dX6_odds_75 rfl 4 rfl (q := 76) rfl ?_
      refine e_iload C dX6_odds_76 6 rfl (q := 78) rfl ?_
      refine e_callSl C (l := l) (av := [.int x5, .int a2, .int a4]) (st := []) hlau (x_X6_lowestTerms (l := l) (ω := ω) (a0 := x5) (a1 := a2) (a2 := a4) hn (I := I)) dX6_odds_78 w_592 w_593 w_56 w_594 md_X6_lowestTerms (by decide) (by decide) rfl (Nat.le_of_ble_eq_true rfl) (q := 81) rfl (fun v8 J7 => ?_)
      exact e_lreturn C dX6_odds_81 hret
    · refine e_aload_n C dX6_odds_44 rfl 2 rfl (q := 45) rfl ?_
      refine e_iload_n C dX6_odds_45 rfl 3 rfl (q := 46) rfl ?_
      refine e_iload C dX6_odds_46 0 rfl (q := 48) rfl ?_
      refine e_iadd C dX6_odds_48 (q := 49) rfl ?_
      refine e_callVv C (l := l) (k := 0) (av := [.int (a1 + x6)]) (st := []) hlau (x_X6_imagineDrawn (l := l) (ω := ω) (a1 := a1 + x6) hn (I := I)) dX6_odds_49 w_655 w_657 w_20 w_56 w_658 md_X6_imagineDrawn (by decide) (by decide) rfl (ltL hn (Nat.le_of_ble_eq_true rfl)) rfl rfl (Nat.le_of_ble_eq_true rfl) (q := 52) rfl (fun _ J9 => ?_)
      refine e_aload_n C dX6_odds_52 rfl 2 rfl (q := 53) rfl ?_
      refine e_getf C (k := 0) (j := 2) (T := TX6) (N := 10) (v := .ref (oA ω 10)) dX6_odds_53 (ltL hn (Nat.le_of_ble_eq_true rfl)) rfl rfl (by decide) in_X6 w_348 rfl (q := 56) rfl ?_
      refine e_getf C (k := 10) (j := 4) (T := TX2) (N := 11) (v := .ref (oA ω 14)) dX6_odds_56 (ltL hn (Nat.le_of_ble_eq_true rfl)) (cOb_Rg (ρ := 1) (by decide) _) rfl (by decide) in_X2 w_98 rfl (q := 59) rfl ?_
      refine e_iload_n C dX6_odds_59 rfl 5 rfl (q := 60) rfl ?_
      refine e_iald C (k := 14) (n := 6) dX6_odds_60 (ltL hn (Nat.le_of_ble_eq_true rfl)) rfl (q := 61) rfl ?_
      refine e_ifle C (tgt := 67) (q := 64) dX6_odds_61 rfl rfl ?_ ?_
      · refine e_iinc C (v := x6 + (1 : Int32)) (lv1 := [(6, .int (x6 + (1 : Int32))), (5, .int x5), (0, .ref (oA ω 0)), (1, .int a1), (2, .int a2), (3, .int a3), (4, .int a4)]) dX6_odds_67 0 rfl (Nat.le_of_ble_eq_true rfl) (by rw [ic_1]) rfl (q := 70) rfl ?_
        refine e_goto C (tgt := 38) dX6_odds_70 rfl ?_
        exact ih (x6 + (1 : Int32)) x5 _
      · refine e_iinc C (v := x5 + (1 : Int32)) (lv1 := [(5, .int (x5 + (1 : Int32))), (6, .int x6), (0, .ref (oA ω 0)), (1, .int a1), (2, .int a2), (3, .int a3), (4, .int a4)]) dX6_odds_64 1 rfl (Nat.le_of_ble_eq_true rfl) (by rw [ic_1]) rfl (q := 67) rfl ?_
        refine e_iinc C (v := x6 + (1 : Int32)) (lv1 := [(6, .int (x6 + (1 : Int32))), (5, .int (x5 + (1 : Int32))), (0, .ref (oA ω 0)), (1, .int a1), (2, .int a2), (3, .int a3), (4, .int a4)]) dX6_odds_67 1 rfl (Nat.le_of_ble_eq_true rfl) (by rw [ic_1]) rfl (q := 70) rfl ?_
        refine e_goto C (tgt := 38) dX6_odds_70 rfl ?_
        exact ih (x6 + (1 : Int32)) (x5 + (1 : Int32)) _
set_option maxHeartbeats 4000000 in
set_option maxRecDepth 100000 in
theorem x_X6_odds {l : Launch} {ω : Om} {a1 : Int32} {a2 : Int32} {a3 : Int32} {a4 : Int32} (hn : 56 ≤ oN ω)  {I : Mem} : CTl l ω yX6_odds cX6_odds 7 (some .long) 7 [.ref (oA ω 0), .int a1, .int a2, .int a3, .int a4] (f_X6_odds a1 a2 a3 a4 I) I := by
  refine ct_l (by decide) (Nat.le_of_ble_eq_true rfl) ?_
  intro κ hlau hret C
  refine e_lv [0, 1, 2, 3, 4] (lv1 := [(0, .ref (oA ω 0)), (1, .int a1), (2, .int a2), (3, .int a3), (4, .int a4)]) rfl ?_
  unfold f_X6_odds
  refine e_iload_n C dX6_odds_0 rfl 1 rfl (q := 1) rfl ?_
  refine e_iconst C dX6_odds_1 ic_0 (q := 2) rfl ?_
  refine e_ldc C dX6_odds_2 w_654 (q := 4) rfl ?_
  refine e_callSi C (l := l) (av := [.int a1, .int (0 : Int32), .int (99999 : Int32)]) (st := []) hlau (x_X6_within (l := l) (ω := ω) (a0 := a1) (a1 := (0 : Int32)) (a2 := (99999 : Int32)) hn (I := I)) dX6_odds_4 w_390 w_391 w_56 w_392 md_X6_within (by decide) (by decide) rfl (Nat.le_of_ble_eq_true rfl) (q := 7) rfl (fun v2 J1 => ?_)
  refine e_ifeq C (tgt := 28) (q := 10) dX6_odds_7 rfl rfl ?_ ?_
  · refine e_ldc2 C dX6_odds_28 w_595 (q := 31) rfl ?_
    exact e_lreturn C dX6_odds_31 hret
  · refine e_iload_n C dX6_odds_10 rfl 2 rfl (q := 11) rfl ?_
    refine e_iconst C dX6_odds_11 ic_1 (q := 12) rfl ?_
    refine e_bipush C dX6_odds_12 b8_40 (q := 14) rfl ?_
    refine e_callSi C (l := l) (av := [.int a2, .int (1 : Int32), .int (40 : Int32)]) (st := []) hlau (x_X6_within (l := l) (ω := ω) (a0 := a2) (a1 := (1 : Int32)) (a2 := (40 : Int32)) hn (I := J1)) dX6_odds_14 w_390 w_391 w_56 w_392 md_X6_within (by decide) (by decide) rfl (Nat.le_of_ble_eq_true rfl) (q := 17) rfl (fun v4 J3 => ?_)
    refine e_ifeq C (tgt := 28) (q := 20) dX6_odds_17 rfl rfl ?_ ?_
    · refine e_ldc2 C dX6_odds_28 w_595 (q := 31) rfl ?_
      exact e_lreturn C dX6_odds_31 hret
    · refine e_aload_n C dX6_odds_20 rfl 0 rfl (q := 21) rfl ?_
      refine e_iload_n C dX6_odds_21 rfl 3 rfl (q := 22) rfl ?_
      refine e_callVi C (l := l) (k := 0) (av := [.int a3]) (st := []) hlau (x_X6_isHat (l := l) (ω := ω) (a1 := a3) hn (I := J3)) dX6_odds_22 w_408 w_410 w_12 w_56 w_411 md_X6_isHat (by decide) (by decide) rfl (ltL hn (Nat.le_of_ble_eq_true rfl)) rfl rfl (Nat.le_of_ble_eq_true rfl) (q := 25) rfl (fun v6 J5 => ?_)
      refine e_ifne C (tgt := 32) (q := 28) dX6_odds_25 rfl rfl ?_ ?_
      · refine e_iconst C dX6_odds_32 ic_0 (q := 33) rfl ?_
        refine e_istore C (lv1 := [(5, .int (0 : Int32)), (0, .ref (oA ω 0)), (1, .int a1), (2, .int a2), (3, .int a3), (4, .int a4)]) dX6_odds_33 (Nat.le_of_ble_eq_true rfl) rfl (q := 35) rfl ?_
        refine e_iconst C dX6_odds_35 ic_0 (q := 36) rfl ?_
        refine e_istore C (lv1 := [(6, .int (0 : Int32)), (5, .int (0 : Int32)), (0, .ref (oA ω 0)), (1, .int a1), (2, .int a2), (3, .int a3), (4, .int a4)]) dX6_odds_36 (Nat.le_of_ble_eq_true rfl) rfl (q := 38) rfl ?_
        exact xb_X6_odds_b38 C hlau hret hn FU (0 : Int32) (0 : Int32) _
      · refine e_ldc2 C dX6_odds_28 w_595 (q := 31) rfl ?_
        exact e_lreturn C dX6_odds_31 hret
set_option maxHeartbeats 4000000 in
set_option maxRecDepth 100000 in
theorem x_X6_image {l : Launch} {ω : Om}  (hn : 56 ≤ oN ω)  {I : Mem} : CTi l ω yX6_image cX6_image 1 (some .int) 2 [.ref (oA ω 0)] (f_X6_image  I) I := by
  refine ct_i (by decide) (Nat.le_of_ble_eq_true rfl) ?_
  intro κ hlau hret C
  refine e_lv [0] (lv1 := [(0, .ref (oA ω 0))]) rfl ?_
  unfold f_X6_image
  refine e_aload_n C dX6_image_0 rfl 0 rfl (q := 1) rfl ?_
  refine e_getf C (k := 0) (j := 3) (T := TX6) (N := 10) (v := .ref (oA ω 18)) dX6_image_1 (ltL hn (Nat.le_of_ble_eq_true rfl)) rfl rfl (by decide) in_X6 w_349 rfl (q := 4) rfl ?_
  refine e_aload_n C dX6_image_4 rfl 0 rfl (q := 5) rfl ?_
  refine e_getf C (k := 0) (j := 1) (T := TX6) (N := 10) (v := .ref (oA ω 2)) dX6_image_5 (ltL hn (Nat.le_of_ble_eq_true rfl)) rfl rfl (by decide) in_X6 w_347 rfl (q := 8) rfl ?_
  refine e_callVv C (l := l) (k := 18) (av := [.ref (oA ω 2)]) (st := []) hlau (x_X2_become (l := l) (ω := ω) (ρ := 2) (r1 := 0) hn (by decide) (by decide) (I := I)) dX6_image_8 w_524 w_525 w_526 w_57 w_527 md_X2_become (by decide) (by decide) rfl (ltL hn (Nat.le_of_ble_eq_true rfl)) (cOb_Rg (ρ := 2) (by decide) _) rfl (Nat.le_of_ble_eq_true rfl) (q := 11) rfl (fun _ J1 => ?_)
  refine e_aload_n C dX6_image_11 rfl 0 rfl (q := 12) rfl ?_
  refine e_iconst C dX6_image_12 ic_1 (q := 13) rfl ?_
  refine e_putf C (k := 0) (j := 9) (T := TX6) (N := 10) dX6_image_13 (ltL hn (Nat.le_of_ble_eq_true rfl)) rfl rfl (by decide) in_X6 w_355 tyX6_ok nmX6 rfl rfl rfl (show 9 < 10 by decide) (set_Ha_9_ _) (q := 16) rfl ?_
  refine e_nmM (fun J2 => ?_)
  refine e_aload_n C dX6_image_16 rfl 0 rfl (q := 17) rfl ?_
  refine e_getf C (k := 0) (j := 1) (T := TX6) (N := 10) (v := .ref (oA ω 2)) dX6_image_17 (ltL hn (Nat.le_of_ble_eq_true rfl)) rfl rfl (by decide) in_X6 w_347 rfl (q := 20) rfl ?_
  refine e_getf C (k := 2) (j := 8) (T := TX2) (N := 11) (v := .int (J2 2 8)) dX6_image_20 (ltL hn (Nat.le_of_ble_eq_true rfl)) (cOb_Rg (ρ := 0) (by decide) _) rfl (by decide) in_X2 w_107 rfl (q := 23) rfl ?_
  exact e_ireturn C dX6_image_23 hret rfl
set_option maxHeartbeats 4000000 in
set_option maxRecDepth 100000 in
theorem x_X6_back {l : Launch} {ω : Om}  (hn : 56 ≤ oN ω)  {I : Mem} : CTi l ω yX6_back cX6_back 1 (some .int) 2 [.ref (oA ω 0)] (f_X6_back  I) I := by
  refine ct_i (by decide) (Nat.le_of_ble_eq_true rfl) ?_
  intro κ hlau hret C
  refine e_lv [0] (lv1 := [(0, .ref (oA ω 0))]) rfl ?_
  unfold f_X6_back
  refine e_aload_n C dX6_back_0 rfl 0 rfl (q := 1) rfl ?_
  refine e_getf C (k := 0) (j := 9) (T := TX6) (N := 10) (v := .int (I 0 9)) dX6_back_1 (ltL hn (Nat.le_of_ble_eq_true rfl)) rfl rfl (by decide) in_X6 w_355 rfl (q := 4) rfl ?_
  refine e_ifne C (tgt := 10) (q := 7) dX6_back_4 rfl rfl ?_ ?_
  · refine e_aload_n C dX6_back_10 rfl 0 rfl (q := 11) rfl ?_
    refine e_getf C (k := 0) (j := 1) (T := TX6) (N := 10) (v := .ref (oA ω 2)) dX6_back_11 (ltL hn (Nat.le_of_ble_eq_true rfl)) rfl rfl (by decide) in_X6 w_347 rfl (q := 14) rfl ?_
    refine e_aload_n C dX6_back_14 rfl 0 rfl (q := 15) rfl ?_
    refine e_getf C (k := 0) (j := 3) (T := TX6) (N := 10) (v := .ref (oA ω 18)) dX6_back_15 (ltL hn (Nat.le_of_ble_eq_true rfl)) rfl rfl (by decide) in_X6 w_349 rfl (q := 18) rfl ?_
    refine e_callVv C (l := l) (k := 2) (av := [.ref (oA ω 18)]) (st := []) hlau (x_X2_become (l := l) (ω := ω) (ρ := 0) (r1 := 2) hn (by decide) (by decide) (I := I)) dX6_back_18 w_524 w_525 w_526 w_57 w_527 md_X2_become (by decide) (by decide) rfl (ltL hn (Nat.le_of_ble_eq_true rfl)) (cOb_Rg (ρ := 0) (by decide) _) rfl (Nat.le_of_ble_eq_true rfl) (q := 21) rfl (fun _ J1 => ?_)
    refine e_aload_n C dX6_back_21 rfl 0 rfl (q := 22) rfl ?_
    refine e_getf C (k := 0) (j := 1) (T := TX6) (N := 10) (v := .ref (oA ω 2)) dX6_back_22 (ltL hn (Nat.le_of_ble_eq_true rfl)) rfl rfl (by decide) in_X6 w_347 rfl (q := 25) rfl ?_
    refine e_getf C (k := 2) (j := 8) (T := TX2) (N := 11) (v := .int (J1 2 8)) dX6_back_25 (ltL hn (Nat.le_of_ble_eq_true rfl)) (cOb_Rg (ρ := 0) (by decide) _) rfl (by decide) in_X2 w_107 rfl (q := 28) rfl ?_
    exact e_ireturn C dX6_back_28 hret rfl
  · refine e_bipush C dX6_back_7 b8_m3 (q := 9) rfl ?_
    exact e_ireturn C dX6_back_9 hret rfl
set_option maxHeartbeats 4000000 in
set_option maxRecDepth 100000 in
theorem x_X6_isSort {l : Launch} {ω : Om} {a0 : Int32} (hn : 56 ≤ oN ω)  {I : Mem} : CTi l ω yX6_isSort cX6_isSort 1 (some .boolean) 2 [.int a0] (f_X6_isSort a0 I) I := by
  refine ct_i (by decide) (Nat.le_of_ble_eq_true rfl) ?_
  intro κ hlau hret C
  refine e_lv [0] (lv1 := [(0, .int a0)]) rfl ?_
  unfold f_X6_isSort
  refine e_iload_n C dX6_isSort_0 rfl 0 rfl (q := 1) rfl ?_
  refine e_iconst C dX6_isSort_1 ic_0 (q := 2) rfl ?_
  refine e_iconst C dX6_isSort_2 ic_2 (q := 3) rfl ?_
  refine e_callSi C (l := l) (av := [.int a0, .int (0 : Int32), .int (2 : Int32)]) (st := []) hlau (x_X6_within (l := l) (ω := ω) (a0 := a0) (a1 := (0 : Int32)) (a2 := (2 : Int32)) hn (I := I)) dX6_isSort_3 w_390 w_391 w_56 w_392 md_X6_within (by decide) (by decide) rfl (Nat.le_of_ble_eq_true rfl) (q := 6) rfl (fun v2 J1 => ?_)
  exact e_ireturn_t C dX6_isSort_6 hret rfl rfl
set_option maxHeartbeats 4000000 in
set_option maxRecDepth 100000 in
theorem xb_X6_sheet_b74 {l : Launch} {κ : Kx} {ω : Om} {a1 : Int32} {a2 : Int32} {a3 : Int32} (C : CX κ ω cX6_sheet 5 3 yX6_sheet.cls) (hlau : κ.2.1 = l) (hret : κ.2.2.2.2.2.2.2.2.1.sig.returnType = (some .int)) (hn : 56 ≤ oN ω)  : ∀ (s0 : Int32) (s1 : Int32) (s2 : Nat) (I : Mem) (hs2 : s2 < 4), EE κ ω 5 (Gi κ ω) (f_X6_sheet_b74 a1 a2 a3 s0 s1 s2 I) I 74 [] [.int s0, .int s1, .ref (oA ω (48 + 2 * s2))] := by
  intro s0 s1 s2 I hs2
  unfold f_X6_sheet_b74
  refine e_callVv C (l := l) (k := (48 + 2 * s2)) (av := [.int s1, .int s0]) (st := []) hlau (x_X3_become (l := l) (ω := ω) (σ := s2) (a1 := s1) (a2 := s0) hn hs2 (I := I)) dX6_sheet_74 w_643 w_644 w_645 w_60 w_646 md_X3_become (by decide) (by decide) rfl (ltSh hn hs2) (cOb_Sh (σ := s2) hs2 _) rfl (Nat.le_of_ble_eq_true rfl) (q := 77) rfl (fun _ J4 => ?_)
  refine e_iconst C dX6_sheet_77 ic_1 (q := 78) rfl ?_
  exact e_ireturn C dX6_sheet_78 hret rfl
set_option maxHeartbeats 4000000 in
set_option maxRecDepth 100000 in
theorem xb_X6_sheet_b57 {l : Launch} {κ : Kx} {ω : Om} {a1 : Int32} {a2 : Int32} {a3 : Int32} (C : CX κ ω cX6_sheet 5 3 yX6_sheet.cls) (hlau : κ.2.1 = l) (hret : κ.2.2.2.2.2.2.2.2.1.sig.returnType = (some .int)) (hn : 56 ≤ oN ω)  : ∀ (x4 : Int32) (I : Mem), EE κ ω 5 (Gi κ ω) (f_X6_sheet_b57 a1 a2 a3 x4 I) I 57 [(4, .int x4), (0, .ref (oA ω 0)), (1, .int a1), (2, .int a2), (3, .int a3)] [] := by
  intro x4 I
  unfold f_X6_sheet_b57
  refine e_aload_n C dX6_sheet_57 rfl 1 rfl (q := 58) rfl ?_
  refine e_getf C (k := 0) (j := 6) (T := TX6) (N := 10) (v := .ref (oA ω 28)) dX6_sheet_58 (ltL hn (Nat.le_of_ble_eq_true rfl)) rfl rfl (by decide) in_X6 w_352 rfl (q := 61) rfl ?_
  refine e_iload_n C dX6_sheet_61 rfl 2 rfl (q := 62) rfl ?_
  refine e_aldS1 C hn dX6_sheet_62 (q := 63) rfl (fun h3 => ?_)
  refine e_iload_n C dX6_sheet_63 rfl 3 rfl (q := 64) rfl ?_
  refine e_iload C dX6_sheet_64 0 rfl (q := 66) rfl ?_
  refine e_ifeq C (tgt := 73) (q := 69) dX6_sheet_66 rfl rfl ?_ ?_
  · refine e_iload_n C dX6_sheet_73 rfl 4 rfl (q := 74) rfl ?_
    exact e_lv [] (lv1 := []) rfl (xb_X6_sheet_b74 C hlau hret hn a3 a2 (a1.toNatClampNeg) _ h3)
  · refine e_iconst C dX6_sheet_69 ic_0 (q := 70) rfl ?_
    refine e_goto C (tgt := 74) dX6_sheet_70 rfl ?_
    exact e_lv [] (lv1 := []) rfl (xb_X6_sheet_b74 C hlau hret hn (0 : Int32) a2 (a1.toNatClampNeg) _ h3)
set_option maxHeartbeats 4000000 in
set_option maxRecDepth 100000 in
theorem xb_X6_sheet_b45 {l : Launch} {κ : Kx} {ω : Om} {a1 : Int32} {a2 : Int32} {a3 : Int32} (C : CX κ ω cX6_sheet 5 3 yX6_sheet.cls) (hlau : κ.2.1 = l) (hret : κ.2.2.2.2.2.2.2.2.1.sig.returnType = (some .int)) (hn : 56 ≤ oN ω)  : ∀ (x4 : Int32) (I : Mem), EE κ ω 5 (Gi κ ω) (f_X6_sheet_b45 a1 a2 a3 x4 I) I 45 [(4, .int x4), (0, .ref (oA ω 0)), (1, .int a1), (2, .int a2), (3, .int a3)] [] := by
  intro x4 I
  unfold f_X6_sheet_b45
  refine e_iload C dX6_sheet_45 0 rfl (q := 47) rfl ?_
  refine e_ifne C (tgt := 57) (q := 50) dX6_sheet_47 rfl rfl ?_ ?_
  · exact xb_X6_sheet_b57 C hlau hret hn x4 _
  · refine e_iload_n C dX6_sheet_50 rfl 4 rfl (q := 51) rfl ?_
    refine e_ifge C (tgt := 57) (q := 54) dX6_sheet_51 rfl rfl ?_ ?_
    · exact xb_X6_sheet_b57 C hlau hret hn x4 _
    · refine e_bipush C dX6_sheet_54 b8_m14 (q := 56) rfl ?_
      exact e_ireturn C dX6_sheet_56 hret rfl
set_option maxHeartbeats 4000000 in
set_option maxRecDepth 100000 in
theorem xb_X6_sheet_b31 {l : Launch} {κ : Kx} {ω : Om} {a1 : Int32} {a2 : Int32} {a3 : Int32} (C : CX κ ω cX6_sheet 5 3 yX6_sheet.cls) (hlau : κ.2.1 = l) (hret : κ.2.2.2.2.2.2.2.2.1.sig.returnType = (some .int)) (hn : 56 ≤ oN ω)  : ∀ (x4 : Int32) (I : Mem), EE κ ω 5 (Gi κ ω) (f_X6_sheet_b31 a1 a2 a3 x4 I) I 31 [(4, .int x4), (0, .ref (oA ω 0)), (1, .int a1), (2, .int a2), (3, .int a3)] [] := by
  intro x4 I
  unfold f_X6_sheet_b31
  refine e_iload C dX6_sheet_31 0 rfl (q := 33) rfl ?_
  refine e_ifne C (tgt := 45) (q := 36) dX6_sheet_33 rfl rfl ?_ ?_
  · exact xb_X6_sheet_b45 C hlau hret hn x4 _
  · refine e_iload_n C dX6_sheet_36 rfl 4 rfl (q := 37) rfl ?_
    refine e_bipush C dX6_sheet_37 b8_40 (q := 39) rfl ?_
    refine e_icmple C (tgt := 45) (q := 42) dX6_sheet_39 rfl rfl ?_ ?_
    · exact xb_X6_sheet_b45 C hlau hret hn x4 _
    · refine e_bipush C dX6_sheet_42 b8_m2 (q := 44) rfl ?_
      exact e_ireturn C dX6_sheet_44 hret rfl
set_option maxHeartbeats 4000000 in
set_option maxRecDepth 100000 in
theorem xb_X6_sheet_b10 {l : Launch} {κ : Kx} {ω : Om} {a1 : Int32} {a2 : Int32} {a3 : Int32} (C : CX κ ω cX6_sheet 5 3 yX6_sheet.cls) (hlau : κ.2.1 = l) (hret : κ.2.2.2.2.2.2.2.2.1.sig.returnType = (some .int)) (hn : 56 ≤ oN ω)  : ∀ (s0 : Int32) (I : Mem), EE κ ω 5 (Gi κ ω) (f_X6_sheet_b10 a1 a2 a3 s0 I) I 10 [(0, .ref (oA ω 0)), (1, .int a1), (2, .int a2), (3, .int a3)] [.int s0] := by
  intro s0 I
  unfold f_X6_sheet_b10
  refine e_istore C (lv1 := [(4, .int s0), (0, .ref (oA ω 0)), (1, .int a1), (2, .int a2), (3, .int a3)]) dX6_sheet_10 (Nat.le_of_ble_eq_true rfl) rfl (q := 12) rfl ?_
  refine e_iload_n C dX6_sheet_12 rfl 2 rfl (q := 13) rfl ?_
  refine e_callSi C (l := l) (av := [.int a1]) (st := []) hlau (x_X6_isSheet (l := l) (ω := ω) (a0 := a1) hn (I := I)) dX6_sheet_13 w_608 w_609 w_56 w_610 md_X6_isSheet (by decide) (by decide) rfl (Nat.le_of_ble_eq_true rfl) (q := 16) rfl (fun v2 J1 => ?_)
  refine e_ifeq C (tgt := 42) (q := 19) dX6_sheet_16 rfl rfl ?_ ?_
  · refine e_bipush C dX6_sheet_42 b8_m2 (q := 44) rfl ?_
    exact e_ireturn C dX6_sheet_44 hret rfl
  · refine e_iload C dX6_sheet_19 0 rfl (q := 21) rfl ?_
    refine e_ifne C (tgt := 31) (q := 24) dX6_sheet_21 rfl rfl ?_ ?_
    · exact xb_X6_sheet_b31 C hlau hret hn s0 _
    · refine e_iload_n C dX6_sheet_24 rfl 3 rfl (q := 25) rfl ?_
      refine e_callSi C (l := l) (av := [.int a2]) (st := []) hlau (x_X6_isSort (l := l) (ω := ω) (a0 := a2) hn (I := J1)) dX6_sheet_25 w_678 w_679 w_56 w_680 md_X6_isSort (by decide) (by decide) rfl (Nat.le_of_ble_eq_true rfl) (q := 28) rfl (fun v6 J5 => ?_)
      refine e_ifeq C (tgt := 42) (q := 31) dX6_sheet_28 rfl rfl ?_ ?_
      · refine e_bipush C dX6_sheet_42 b8_m2 (q := 44) rfl ?_
        exact e_ireturn C dX6_sheet_44 hret rfl
      · exact xb_X6_sheet_b31 C hlau hret hn s0 _
set_option maxHeartbeats 4000000 in
set_option maxRecDepth 100000 in
theorem x_X6_sheet {l : Launch} {ω : Om} {a1 : Int32} {a2 : Int32} {a3 : Int32} (hn : 56 ≤ oN ω)  {I : Mem} : CTi l ω yX6_sheet cX6_sheet 5 (some .int) 3 [.ref (oA ω 0), .int a1, .int a2, .int a3] (f_X6_sheet a1 a2 a3 I) I := by
  refine ct_i (by decide) (Nat.le_of_ble_eq_true rfl) ?_
  intro κ hlau hret C
  refine e_lv [0, 1, 2, 3] (lv1 := [(0, .ref (oA ω 0)), (1, .int a1), (2, .int a2), (3, .int a3)]) rfl ?_
  unfold f_X6_sheet
  refine e_iload_n C dX6_sheet_0 rfl 2 rfl (q := 1) rfl ?_
  refine e_iconst C dX6_sheet_1 ic_m1 (q := 2) rfl ?_
  refine e_icmpne C (tgt := 9) (q := 5) dX6_sheet_2 rfl rfl ?_ ?_
  · refine e_iconst C dX6_sheet_9 ic_0 (q := 10) rfl ?_
    exact xb_X6_sheet_b10 C hlau hret hn (0 : Int32) _
  · refine e_iconst C dX6_sheet_5 ic_1 (q := 6) rfl ?_
    refine e_goto C (tgt := 10) dX6_sheet_6 rfl ?_
    exact xb_X6_sheet_b10 C hlau hret hn (1 : Int32) _
set_option maxHeartbeats 4000000 in
set_option maxRecDepth 100000 in
theorem x_X6_cell {l : Launch} {ω : Om} {a1 : Int32} {a2 : Int32} {a3 : Int32} (hn : 56 ≤ oN ω)  {I : Mem} : CTi l ω yX6_cell cX6_cell 4 (some .int) 3 [.ref (oA ω 0), .int a1, .int a2, .int a3] (f_X6_cell a1 a2 a3 I) I := by
  refine ct_i (by decide) (Nat.le_of_ble_eq_true rfl) ?_
  intro κ hlau hret C
  refine e_lv [0, 1, 2, 3] (lv1 := [(0, .ref (oA ω 0)), (1, .int a1), (2, .int a2), (3, .int a3)]) rfl ?_
  unfold f_X6_cell
  refine e_iload_n C dX6_cell_0 rfl 1 rfl (q := 1) rfl ?_
  refine e_callSi C (l := l) (av := [.int a1]) (st := []) hlau (x_X6_isSheet (l := l) (ω := ω) (a0 := a1) hn (I := I)) dX6_cell_1 w_608 w_609 w_56 w_610 md_X6_isSheet (by decide) (by decide) rfl (Nat.le_of_ble_eq_true rfl) (q := 4) rfl (fun v2 J1 => ?_)
  refine e_ifne C (tgt := 10) (q := 7) dX6_cell_4 rfl rfl ?_ ?_
  · refine e_aload_n C dX6_cell_10 rfl 0 rfl (q := 11) rfl ?_
    refine e_getf C (k := 0) (j := 6) (T := TX6) (N := 10) (v := .ref (oA ω 28)) dX6_cell_11 (ltL hn (Nat.le_of_ble_eq_true rfl)) rfl rfl (by decide) in_X6 w_352 rfl (q := 14) rfl ?_
    refine e_iload_n C dX6_cell_14 rfl 1 rfl (q := 15) rfl ?_
    refine e_aldS1 C hn dX6_cell_15 (q := 16) rfl (fun h3 => ?_)
    refine e_callVi C (l := l) (k := (48 + 2 * a1.toNatClampNeg)) (av := []) (st := []) hlau (x_X3_isMissing (l := l) (ω := ω) (σ := a1.toNatClampNeg) hn h3 (I := J1)) dX6_cell_16 w_611 w_612 w_613 w_60 w_614 md_X3_isMissing (by decide) (by decide) rfl (ltSh hn h3) (cOb_Sh (σ := a1.toNatClampNeg) h3 _) rfl (Nat.le_of_ble_eq_true rfl) (q := 19) rfl (fun v5 J4 => ?_)
    refine e_ifeq C (tgt := 25) (q := 22) dX6_cell_19 rfl rfl ?_ ?_
    · refine e_iload_n C dX6_cell_25 rfl 2 rfl (q := 26) rfl ?_
      refine e_iconst C dX6_cell_26 ic_0 (q := 27) rfl ?_
      refine e_aload_n C dX6_cell_27 rfl 0 rfl (q := 28) rfl ?_
      refine e_getf C (k := 0) (j := 6) (T := TX6) (N := 10) (v := .ref (oA ω 28)) dX6_cell_28 (ltL hn (Nat.le_of_ble_eq_true rfl)) rfl rfl (by decide) in_X6 w_352 rfl (q := 31) rfl ?_
      refine e_iload_n C dX6_cell_31 rfl 1 rfl (q := 32) rfl ?_
      refine e_aldS1 C hn dX6_cell_32 (q := 33) rfl (fun h6 => ?_)
      refine e_getf C (k := (48 + 2 * a1.toNatClampNeg)) (j := 2) (T := TX3) (N := 3) (v := .int (J4 (48 + 2 * a1.toNatClampNeg) 2)) dX6_cell_33 (ltSh hn h6) (cOb_Sh (σ := a1.toNatClampNeg) h6 _) rfl (by decide) in_X3 w_196 rfl (q := 36) rfl ?_
      refine e_iconst C dX6_cell_36 ic_1 (q := 37) rfl ?_
      refine e_isub C dX6_cell_37 (q := 38) rfl ?_
      refine e_callSi C (l := l) (av := [.int a2, .int (0 : Int32), .int ((J4 (48 + 2 * a1.toNatClampNeg) 2) - (1 : Int32))]) (st := []) hlau (x_X6_within (l := l) (ω := ω) (a0 := a2) (a1 := (0 : Int32)) (a2 := (J4 (48 + 2 * a1.toNatClampNeg) 2) - (1 : Int32)) hn (I := J4)) dX6_cell_38 w_390 w_391 w_56 w_392 md_X6_within (by decide) (by decide) rfl (Nat.le_of_ble_eq_true rfl) (q := 41) rfl (fun v8 J7 => ?_)
      refine e_ifne C (tgt := 47) (q := 44) dX6_cell_41 rfl rfl ?_ ?_
      · refine e_aload_n C dX6_cell_47 rfl 0 rfl (q := 48) rfl ?_
        refine e_getf C (k := 0) (j := 6) (T := TX6) (N := 10) (v := .ref (oA ω 28)) dX6_cell_48 (ltL hn (Nat.le_of_ble_eq_true rfl)) rfl rfl (by decide) in_X6 w_352 rfl (q := 51) rfl ?_
        refine e_iload_n C dX6_cell_51 rfl 1 rfl (q := 52) rfl ?_
        refine e_aldS1 C hn dX6_cell_52 (q := 53) rfl (fun h9 => ?_)
        refine e_iload_n C dX6_cell_53 rfl 2 rfl (q := 54) rfl ?_
        refine e_iload_n C dX6_cell_54 rfl 3 rfl (q := 55) rfl ?_
        refine e_callVv C (l := l) (k := (48 + 2 * a1.toNatClampNeg)) (av := [.int a2, .int a3]) (st := []) hlau (x_X3_write (l := l) (ω := ω) (σ := a1.toNatClampNeg) (a1 := a2) (a2 := a3) hn h9 (I := J7)) dX6_cell_55 w_685 w_686 w_687 w_60 w_688 md_X3_write (by decide) (by decide) rfl (ltSh hn h9) (cOb_Sh (σ := a1.toNatClampNeg) h9 _) rfl (Nat.le_of_ble_eq_true rfl) (q := 58) rfl (fun _ J10 => ?_)
        refine e_iconst C dX6_cell_58 ic_1 (q := 59) rfl ?_
        exact e_ireturn C dX6_cell_59 hret rfl
      · refine e_bipush C dX6_cell_44 b8_m12 (q := 46) rfl ?_
        exact e_ireturn C dX6_cell_46 hret rfl
    · refine e_bipush C dX6_cell_22 b8_m11 (q := 24) rfl ?_
      exact e_ireturn C dX6_cell_24 hret rfl
  · refine e_bipush C dX6_cell_7 b8_m2 (q := 9) rfl ?_
    exact e_ireturn C dX6_cell_9 hret rfl
set_option maxHeartbeats 4000000 in
set_option maxRecDepth 100000 in
theorem x_X6_copy {l : Launch} {ω : Om} {a1 : Int32} {a2 : Int32} {a3 : Int32} {a4 : Int32} {a5 : Int32} (hn : 56 ≤ oN ω)  {I : Mem} : CTi l ω yX6_copy cX6_copy 8 (some .int) 3 [.ref (oA ω 0), .int a1, .int a2, .int a3, .int a4, .int a5] (f_X6_copy a1 a2 a3 a4 a5 I) I := by
  refine ct_i (by decide) (Nat.le_of_ble_eq_true rfl) ?_
  intro κ hlau hret C
  refine e_lv [0, 1, 2, 3, 4, 5] (lv1 := [(0, .ref (oA ω 0)), (1, .int a1), (2, .int a2), (3, .int a3), (4, .int a4), (5, .int a5)]) rfl ?_
  unfold f_X6_copy
  refine e_iload_n C dX6_copy_0 rfl 1 rfl (q := 1) rfl ?_
  refine e_callSi C (l := l) (av := [.int a1]) (st := []) hlau (x_X6_isSheet (l := l) (ω := ω) (a0 := a1) hn (I := I)) dX6_copy_1 w_608 w_609 w_56 w_610 md_X6_isSheet (by decide) (by decide) rfl (Nat.le_of_ble_eq_true rfl) (q := 4) rfl (fun v2 J1 => ?_)
  refine e_ifeq C (tgt := 14) (q := 7) dX6_copy_4 rfl rfl ?_ ?_
  · refine e_bipush C dX6_copy_14 b8_m2 (q := 16) rfl ?_
    exact e_ireturn C dX6_copy_16 hret rfl
  · refine e_iload_n C dX6_copy_7 rfl 3 rfl (q := 8) rfl ?_
    refine e_callSi C (l := l) (av := [.int a3]) (st := []) hlau (x_X6_isSheet (l := l) (ω := ω) (a0 := a3) hn (I := J1)) dX6_copy_8 w_608 w_609 w_56 w_610 md_X6_isSheet (by decide) (by decide) rfl (Nat.le_of_ble_eq_true rfl) (q := 11) rfl (fun v4 J3 => ?_)
    refine e_ifne C (tgt := 17) (q := 14) dX6_copy_11 rfl rfl ?_ ?_
    · refine e_aload_n C dX6_copy_17 rfl 0 rfl (q := 18) rfl ?_
      refine e_getf C (k := 0) (j := 6) (T := TX6) (N := 10) (v := .ref (oA ω 28)) dX6_copy_18 (ltL hn (Nat.le_of_ble_eq_true rfl)) rfl rfl (by decide) in_X6 w_352 rfl (q := 21) rfl ?_
      refine e_iload_n C dX6_copy_21 rfl 1 rfl (q := 22) rfl ?_
      refine e_aldS1 C hn dX6_copy_22 (q := 23) rfl (fun h5 => ?_)
      refine e_astore C (lv1 := [(6, .ref (oA ω (48 + 2 * a1.toNatClampNeg))), (0, .ref (oA ω 0)), (1, .int a1), (2, .int a2), (3, .int a3), (4, .int a4), (5, .int a5)]) dX6_copy_23 (Nat.le_of_ble_eq_true rfl) rfl (q := 25) rfl ?_
      refine e_aload_n C dX6_copy_25 rfl 1 rfl (q := 26) rfl ?_
      refine e_getf C (k := 0) (j := 6) (T := TX6) (N := 10) (v := .ref (oA ω 28)) dX6_copy_26 (ltL hn (Nat.le_of_ble_eq_true rfl)) rfl rfl (by decide) in_X6 w_352 rfl (q := 29) rfl ?_
      refine e_iload_n C dX6_copy_29 rfl 4 rfl (q := 30) rfl ?_
      refine e_aldS1 C hn dX6_copy_30 (q := 31) rfl (fun h6 => ?_)
      refine e_astore C (lv1 := [(7, .ref (oA ω (48 + 2 * a3.toNatClampNeg))), (6, .ref (oA ω (48 + 2 * a1.toNatClampNeg))), (0, .ref (oA ω 0)), (1, .int a1), (2, .int a2), (3, .int a3), (4, .int a4), (5, .int a5)]) dX6_copy_31 (Nat.le_of_ble_eq_true rfl) rfl (q := 33) rfl ?_
      refine e_aload C dX6_copy_33 1 rfl (q := 35) rfl ?_
      refine e_callVi C (l := l) (k := (48 + 2 * a1.toNatClampNeg)) (av := []) (st := []) hlau (x_X3_isMissing (l := l) (ω := ω) (σ := a1.toNatClampNeg) hn h5 (I := J3)) dX6_copy_35 w_611 w_612 w_613 w_60 w_614 md_X3_isMissing (by decide) (by decide) rfl (ltSh hn h5) (cOb_Sh (σ := a1.toNatClampNeg) h5 _) rfl (Nat.le_of_ble_eq_true rfl) (q := 38) rfl (fun v8 J7 => ?_)
      refine e_ifne C (tgt := 49) (q := 41) dX6_copy_38 rfl rfl ?_ ?_
      · refine e_bipush C dX6_copy_49 b8_m11 (q := 51) rfl ?_
        exact e_ireturn C dX6_copy_51 hret rfl
      · refine e_aload C dX6_copy_41 0 rfl (q := 43) rfl ?_
        refine e_callVi C (l := l) (k := (48 + 2 * a3.toNatClampNeg)) (av := []) (st := []) hlau (x_X3_isMissing (l := l) (ω := ω) (σ := a3.toNatClampNeg) hn h6 (I := J7)) dX6_copy_43 w_611 w_612 w_613 w_60 w_614 md_X3_isMissing (by decide) (by decide) rfl (ltSh hn h6) (cOb_Sh (σ := a3.toNatClampNeg) h6 _) rfl (Nat.le_of_ble_eq_true rfl) (q := 46) rfl (fun v10 J9 => ?_)
        refine e_ifeq C (tgt := 52) (q := 49) dX6_copy_46 rfl rfl ?_ ?_
        · refine e_aload C dX6_copy_52 1 rfl (q := 54) rfl ?_
          refine e_getf C (k := (48 + 2 * a1.toNatClampNeg)) (j := 1) (T := TX3) (N := 3) (v := .int (J9 (48 + 2 * a1.toNatClampNeg) 1)) dX6_copy_54 (ltSh hn h5) (cOb_Sh (σ := a1.toNatClampNeg) h5 _) rfl (by decide) in_X3 w_194 rfl (q := 57) rfl ?_
          refine e_aload C dX6_copy_57 0 rfl (q := 59) rfl ?_
          refine e_getf C (k := (48 + 2 * a3.toNatClampNeg)) (j := 1) (T := TX3) (N := 3) (v := .int (J9 (48 + 2 * a3.toNatClampNeg) 1)) dX6_copy_59 (ltSh hn h6) (cOb_Sh (σ := a3.toNatClampNeg) h6 _) rfl (by decide) in_X3 w_194 rfl (q := 62) rfl ?_
          refine e_icmpeq C (tgt := 68) (q := 65) dX6_copy_62 rfl rfl ?_ ?_
          · refine e_iload C dX6_copy_68 7 rfl (q := 70) rfl ?_
            refine e_iflt C (tgt := 106) (q := 73) dX6_copy_70 rfl rfl ?_ ?_
            · refine e_bipush C dX6_copy_106 b8_m12 (q := 108) rfl ?_
              exact e_ireturn C dX6_copy_108 hret rfl
            · refine e_iload_n C dX6_copy_73 rfl 4 rfl (q := 74) rfl ?_
              refine e_iconst C dX6_copy_74 ic_0 (q := 75) rfl ?_
              refine e_aload C dX6_copy_75 1 rfl (q := 77) rfl ?_
              refine e_getf C (k := (48 + 2 * a1.toNatClampNeg)) (j := 2) (T := TX3) (N := 3) (v := .int (J9 (48 + 2 * a1.toNatClampNeg) 2)) dX6_copy_77 (ltSh hn h5) (cOb_Sh (σ := a1.toNatClampNeg) h5 _) rfl (by decide) in_X3 w_196 rfl (q := 80) rfl ?_
              refine e_iload C dX6_copy_80 7 rfl (q := 82) rfl ?_
              refine e_isub C dX6_copy_82 (q := 83) rfl ?_
              refine e_callSi C (l := l) (av := [.int a2, .int (0 : Int32), .int ((J9 (48 + 2 * a1.toNatClampNeg) 2) - a5)]) (st := []) hlau (x_X6_within (l := l) (ω := ω) (a0 := a2) (a1 := (0 : Int32)) (a2 := (J9 (48 + 2 * a1.toNatClampNeg) 2) - a5) hn (I := J9)) dX6_copy_83 w_390 w_391 w_56 w_392 md_X6_within (by decide) (by decide) rfl (Nat.le_of_ble_eq_true rfl) (q := 86) rfl (fun v12 J11 => ?_)
              refine e_ifeq C (tgt := 106) (q := 89) dX6_copy_86 rfl rfl ?_ ?_
              · refine e_bipush C dX6_copy_106 b8_m12 (q := 108) rfl ?_
                exact e_ireturn C dX6_copy_108 hret rfl
              · refine e_iload C dX6_copy_89 6 rfl (q := 91) rfl ?_
                refine e_iconst C dX6_copy_91 ic_0 (q := 92) rfl ?_
                refine e_aload C dX6_copy_92 0 rfl (q := 94) rfl ?_
                refine e_getf C (k := (48 + 2 * a3.toNatClampNeg)) (j := 2) (T := TX3) (N := 3) (v := .int (J11 (48 + 2 * a3.toNatClampNeg) 2)) dX6_copy_94 (ltSh hn h6) (cOb_Sh (σ := a3.toNatClampNeg) h6 _) rfl (by decide) in_X3 w_196 rfl (q := 97) rfl ?_
                refine e_iload C dX6_copy_97 7 rfl (q := 99) rfl ?_
                refine e_isub C dX6_copy_99 (q := 100) rfl ?_
                refine e_callSi C (l := l) (av := [.int a4, .int (0 : Int32), .int ((J11 (48 + 2 * a3.toNatClampNeg) 2) - a5)]) (st := []) hlau (x_X6_within (l := l) (ω := ω) (a0 := a4) (a1 := (0 : Int32)) (a2 := (J11 (48 + 2 * a3.toNatClampNeg) 2) - a5) hn (I := J11)) dX6_copy_100 w_390 w_391 w_56 w_392 md_X6_within (by decide) (by decide) rfl (Nat.le_of_ble_eq_true rfl) (q := 103) rfl (fun v14 J13 => ?_)
                refine e_ifne C (tgt := 109) (q := 106) dX6_copy_103 rfl rfl ?_ ?_
                · refine e_aload C dX6_copy_109 1 rfl (q := 111) rfl ?_
                  refine e_getf C (k := (48 + 2 * a1.toNatClampNeg)) (j := 0) (T := TX3) (N := 3) (v := .ref (oA ω (48 + 2 * a1.toNatClampNeg + 1))) dX6_copy_111 (ltSh hn h5) (cOb_Sh (σ := a1.toNatClampNeg) h5 _) rfl (by decide) in_X3 w_192 rfl (q := 114) rfl ?_
                  refine e_iload_n C dX6_copy_114 rfl 4 rfl (q := 115) rfl ?_
                  refine e_aload C dX6_copy_115 0 rfl (q := 117) rfl ?_
                  refine e_getf C (k := (48 + 2 * a3.toNatClampNeg)) (j := 0) (T := TX3) (N := 3) (v := .ref (oA ω (48 + 2 * a3.toNatClampNeg + 1))) dX6_copy_117 (ltSh hn h6) (cOb_Sh (σ := a3.toNatClampNeg) h6 _) rfl (by decide) in_X3 w_192 rfl (q := 120) rfl ?_
                  refine e_iload C dX6_copy_120 6 rfl (q := 122) rfl ?_
                  refine e_iload C dX6_copy_122 7 rfl (q := 124) rfl ?_
                  refine e_acopy C (k0 := (48 + 2 * a1.toNatClampNeg + 1)) (k1 := (48 + 2 * a3.toNatClampNeg + 1)) (n0 := 40) (n1 := 40) dX6_copy_124 ⟨(ltShj hn h5), (cAr_Sh1 h5)⟩ ⟨(ltShj hn h6), (cAr_Sh1 h6)⟩ w_693 w_530 w_529 w_69 (Nat.le_of_ble_eq_true rfl) (Nat.le_of_ble_eq_true rfl) (q := 127) rfl ?_
                  refine e_nmM (fun J15 => ?_)
                  refine e_iload C dX6_copy_127 7 rfl (q := 129) rfl ?_
                  exact e_ireturn C dX6_copy_129 hret rfl
                · refine e_bipush C dX6_copy_106 b8_m12 (q := 108) rfl ?_
                  exact e_ireturn C dX6_copy_108 hret rfl
          · refine e_bipush C dX6_copy_65 b8_m13 (q := 67) rfl ?_
            exact e_ireturn C dX6_copy_67 hret rfl
        · refine e_bipush C dX6_copy_49 b8_m11 (q := 51) rfl ?_
          exact e_ireturn C dX6_copy_51 hret rfl
    · refine e_bipush C dX6_copy_14 b8_m2 (q := 16) rfl ?_
      exact e_ireturn C dX6_copy_16 hret rfl
set_option maxHeartbeats 4000000 in
set_option maxRecDepth 100000 in
theorem xb_X6_hatsBy_b95 {l : Launch} {κ : Kx} {ω : Om} {a1 : Int32} {a2 : Int32} {a3 : Int32} {a4 : Int32} (C : CX κ ω cX6_hatsBy 9 3 yX6_hatsBy.cls) (hlau : κ.2.1 = l) (hret : κ.2.2.2.2.2.2.2.2.1.sig.returnType = (some .int)) (hn : 56 ≤ oN ω)  {K65 : Int32 → Int32 → Nat → Mem → Option (Int32 × Mem)} (hK65 : ∀ (x7 : Int32) (x6 : Int32) (x5 : Nat) (J : Mem) (hx5 : x5 < 4), EE κ ω 9 (Gi κ ω) (K65 x7 x6 x5 J) J 65 [(7, .int x7), (6, .int x6), (5, .ref (oA ω (48 + 2 * x5))), (0, .ref (oA ω 0)), (3, .int a3), (4, .int a4)] []) : ∀ (x7 : Int32) (x6 : Int32) (x5 : Nat) (s0 : Int32) (I : Mem) (hx5 : x5 < 4), EE κ ω 9 (Gi κ ω) (f_X6_hatsBy_b95 a1 a2 a3 a4 K65 x7 x6 x5 s0 I) I 95 [(7, .int x7), (6, .int x6), (5, .ref (oA ω (48 + 2 * x5))), (0, .ref (oA ω 0)), (3, .int a3), (4, .int a4)] [.int s0] := by
  intro x7 x6 x5 s0 I hx5
  unfold f_X6_hatsBy_b95
  refine e_istore C (lv1 := [(8, .int s0), (7, .int x7), (6, .int x6), (5, .ref (oA ω (48 + 2 * x5))), (0, .ref (oA ω 0)), (3, .int a3), (4, .int a4)]) dX6_hatsBy_95 (Nat.le_of_ble_eq_true rfl) rfl (q := 97) rfl ?_
  refine e_iload C dX6_hatsBy_97 0 rfl (q := 99) rfl ?_
  refine e_iconst C dX6_hatsBy_99 ic_0 (q := 100) rfl ?_
  refine e_aload C dX6_hatsBy_100 3 rfl (q := 102) rfl ?_
  refine e_getf C (k := (48 + 2 * x5)) (j := 2) (T := TX3) (N := 3) (v := .int (I (48 + 2 * x5) 2)) dX6_hatsBy_102 (ltSh hn hx5) (cOb_Sh (σ := x5) hx5 _) rfl (by decide) in_X3 w_196 rfl (q := 105) rfl ?_
  refine e_iconst C dX6_hatsBy_105 ic_3 (q := 106) rfl ?_
  refine e_isub C dX6_hatsBy_106 (q := 107) rfl ?_
  refine e_callSi C (l := l) (av := [.int s0, .int (0 : Int32), .int ((I (48 + 2 * x5) 2) - (3 : Int32))]) (st := []) hlau (x_X6_within (l := l) (ω := ω) (a0 := s0) (a1 := (0 : Int32)) (a2 := (I (48 + 2 * x5) 2) - (3 : Int32)) hn (I := I)) dX6_hatsBy_107 w_390 w_391 w_56 w_392 md_X6_within (by decide) (by decide) rfl (Nat.le_of_ble_eq_true rfl) (q := 110) rfl (fun v13 J12 => ?_)
  refine e_ifne C (tgt := 116) (q := 113) dX6_hatsBy_110 rfl rfl ?_ ?_
  · refine e_aload_n C dX6_hatsBy_116 rfl 4 rfl (q := 117) rfl ?_
    refine e_aload C dX6_hatsBy_117 3 rfl (q := 119) rfl ?_
    refine e_getf C (k := (48 + 2 * x5)) (j := 0) (T := TX3) (N := 3) (v := .ref (oA ω (48 + 2 * x5 + 1))) dX6_hatsBy_119 (ltSh hn hx5) (cOb_Sh (σ := x5) hx5 _) rfl (by decide) in_X3 w_192 rfl (q := 122) rfl ?_
    refine e_iload C dX6_hatsBy_122 0 rfl (q := 124) rfl ?_
    refine e_iald C (k := (48 + 2 * x5 + 1)) (n := 40) dX6_hatsBy_124 (ltShj hn hx5) ((cAr_Sh1 hx5) _) (q := 125) rfl ?_
    refine e_aload C dX6_hatsBy_125 3 rfl (q := 127) rfl ?_
    refine e_getf C (k := (48 + 2 * x5)) (j := 0) (T := TX3) (N := 3) (v := .ref (oA ω (48 + 2 * x5 + 1))) dX6_hatsBy_127 (ltSh hn hx5) (cOb_Sh (σ := x5) hx5 _) rfl (by decide) in_X3 w_192 rfl (q := 130) rfl ?_
    refine e_iload C dX6_hatsBy_130 0 rfl (q := 132) rfl ?_
    refine e_iconst C dX6_hatsBy_132 ic_1 (q := 133) rfl ?_
    refine e_iadd C dX6_hatsBy_133 (q := 134) rfl ?_
    refine e_iald C (k := (48 + 2 * x5 + 1)) (n := 40) dX6_hatsBy_134 (ltShj hn hx5) ((cAr_Sh1 hx5) _) (q := 135) rfl ?_
    refine e_aload C dX6_hatsBy_135 3 rfl (q := 137) rfl ?_
    refine e_getf C (k := (48 + 2 * x5)) (j := 0) (T := TX3) (N := 3) (v := .ref (oA ω (48 + 2 * x5 + 1))) dX6_hatsBy_137 (ltSh hn hx5) (cOb_Sh (σ := x5) hx5 _) rfl (by decide) in_X3 w_192 rfl (q := 140) rfl ?_
    refine e_iload C dX6_hatsBy_140 0 rfl (q := 142) rfl ?_
    refine e_iconst C dX6_hatsBy_142 ic_2 (q := 143) rfl ?_
    refine e_iadd C dX6_hatsBy_143 (q := 144) rfl ?_
    refine e_iald C (k := (48 + 2 * x5 + 1)) (n := 40) dX6_hatsBy_144 (ltShj hn hx5) ((cAr_Sh1 hx5) _) (q := 145) rfl ?_
    refine e_callVi C (l := l) (k := 0) (av := [.int (J12 (48 + 2 * x5 + 1) (s0).toNatClampNeg), .int (J12 (48 + 2 * x5 + 1) (s0 + (1 : Int32)).toNatClampNeg), .int (J12 (48 + 2 * x5 + 1) (s0 + (2 : Int32)).toNatClampNeg)]) (st := []) hlau (x_X6_hat (l := l) (ω := ω) (a1 := J12 (48 + 2 * x5 + 1) (s0).toNatClampNeg) (a2 := J12 (48 + 2 * x5 + 1) (s0 + (1 : Int32)).toNatClampNeg) (a3 := J12 (48 + 2 * x5 + 1) (s0 + (2 : Int32)).toNatClampNeg) hn (I := J12)) dX6_hatsBy_145 w_698 w_429 w_430 w_56 w_431 md_X6_hat (by decide) (by decide) rfl (ltL hn (Nat.le_of_ble_eq_true rfl)) rfl rfl (Nat.le_of_ble_eq_true rfl) (q := 148) rfl (fun v15 J14 => ?_)
    refine e_iflt C (tgt := 154) (q := 151) dX6_hatsBy_148 rfl rfl ?_ ?_
    · refine e_iinc C (v := x7 + (1 : Int32)) (lv1 := [(7, .int (x7 + (1 : Int32))), (8, .int s0), (6, .int x6), (5, .ref (oA ω (48 + 2 * x5))), (0, .ref (oA ω 0)), (3, .int a3), (4, .int a4)]) dX6_hatsBy_154 1 rfl (Nat.le_of_ble_eq_true rfl) (by rw [ic_1]) rfl (q := 157) rfl ?_
      refine e_goto C (tgt := 65) dX6_hatsBy_157 rfl ?_
      exact e_lv [0, 2, 3, 4, 5, 6] (lv1 := [(7, .int (x7 + (1 : Int32))), (6, .int x6), (5, .ref (oA ω (48 + 2 * x5))), (0, .ref (oA ω 0)), (3, .int a3), (4, .int a4)]) rfl (hK65 (x7 + (1 : Int32)) x6 x5 _ hx5)
    · refine e_iinc C (v := x6 + (1 : Int32)) (lv1 := [(6, .int (x6 + (1 : Int32))), (8, .int s0), (7, .int x7), (5, .ref (oA ω (48 + 2 * x5))), (0, .ref (oA ω 0)), (3, .int a3), (4, .int a4)]) dX6_hatsBy_151 2 rfl (Nat.le_of_ble_eq_true rfl) (by rw [ic_1]) rfl (q := 154) rfl ?_
      refine e_iinc C (v := x7 + (1 : Int32)) (lv1 := [(7, .int (x7 + (1 : Int32))), (6, .int (x6 + (1 : Int32))), (8, .int s0), (5, .ref (oA ω (48 + 2 * x5))), (0, .ref (oA ω 0)), (3, .int a3), (4, .int a4)]) dX6_hatsBy_154 2 rfl (Nat.le_of_ble_eq_true rfl) (by rw [ic_1]) rfl (q := 157) rfl ?_
      refine e_goto C (tgt := 65) dX6_hatsBy_157 rfl ?_
      exact e_lv [0, 1, 3, 4, 5, 6] (lv1 := [(7, .int (x7 + (1 : Int32))), (6, .int (x6 + (1 : Int32))), (5, .ref (oA ω (48 + 2 * x5))), (0, .ref (oA ω 0)), (3, .int a3), (4, .int a4)]) rfl (hK65 (x7 + (1 : Int32)) (x6 + (1 : Int32)) x5 _ hx5)
  · refine e_bipush C dX6_hatsBy_113 b8_m12 (q := 115) rfl ?_
    exact e_ireturn C dX6_hatsBy_115 hret rfl
set_option maxHeartbeats 4000000 in
set_option maxRecDepth 100000 in
theorem xb_X6_hatsBy_b65 {l : Launch} {κ : Kx} {ω : Om} {a1 : Int32} {a2 : Int32} {a3 : Int32} {a4 : Int32} (C : CX κ ω cX6_hatsBy 9 3 yX6_hatsBy.cls) (hlau : κ.2.1 = l) (hret : κ.2.2.2.2.2.2.2.2.1.sig.returnType = (some .int)) (hn : 56 ≤ oN ω)  : ∀ (n : Nat) (x7 : Int32) (x6 : Int32) (x5 : Nat) (I : Mem) (hx5 : x5 < 4), EE κ ω 9 (Gi κ ω) (f_X6_hatsBy_b65 a1 a2 a3 a4 n x7 x6 x5 I) I 65 [(7, .int x7), (6, .int x6), (5, .ref (oA ω (48 + 2 * x5))), (0, .ref (oA ω 0)), (3, .int a3), (4, .int a4)] [] := by
  intro n
  induction n with
  | zero => intro x7 x6 x5 I hx5; exact e_none
  | succ n ih =>
    intro x7 x6 x5 I hx5
    rw [f_X6_hatsBy_b65]
    refine e_iload C dX6_hatsBy_65 0 rfl (q := 67) rfl ?_
    refine e_iload C dX6_hatsBy_67 5 rfl (q := 69) rfl ?_
    refine e_icmpge C (tgt := 160) (q := 72) dX6_hatsBy_69 rfl rfl ?_ ?_
    · refine e_iload C dX6_hatsBy_160 1 rfl (q := 162) rfl ?_
      exact e_ireturn C dX6_hatsBy_162 hret rfl
    · refine e_iload_n C dX6_hatsBy_72 rfl 4 rfl (q := 73) rfl ?_
      refine e_iconst C dX6_hatsBy_73 ic_0 (q := 74) rfl ?_
      refine e_aload C dX6_hatsBy_74 2 rfl (q := 76) rfl ?_
      refine e_getf C (k := (48 + 2 * x5)) (j := 2) (T := TX3) (N := 3) (v := .int (I (48 + 2 * x5) 2)) dX6_hatsBy_76 (ltSh hn hx5) (cOb_Sh (σ := x5) hx5 _) rfl (by decide) in_X3 w_196 rfl (q := 79) rfl ?_
      refine e_callSi C (l := l) (av := [.int a3, .int (0 : Int32), .int (I (48 + 2 * x5) 2)]) (st := []) hlau (x_X6_within (l := l) (ω := ω) (a0 := a3) (a1 := (0 : Int32)) (a2 := I (48 + 2 * x5) 2) hn (I := I)) dX6_hatsBy_79 w_390 w_391 w_56 w_392 md_X6_within (by decide) (by decide) rfl (Nat.le_of_ble_eq_true rfl) (q := 82) rfl (fun v11 J10 => ?_)
      refine e_ifeq C (tgt := 94) (q := 85) dX6_hatsBy_82 rfl rfl ?_ ?_
      · refine e_iconst C dX6_hatsBy_94 ic_m1 (q := 95) rfl ?_
        exact xb_X6_hatsBy_b95 C hlau hret hn ih x7 x6 x5 (-1 : Int32) _ hx5
      · refine e_iload_n C dX6_hatsBy_85 rfl 4 rfl (q := 86) rfl ?_
        refine e_iconst C dX6_hatsBy_86 ic_3 (q := 87) rfl ?_
        refine e_iload C dX6_hatsBy_87 0 rfl (q := 89) rfl ?_
        refine e_imul C dX6_hatsBy_89 (q := 90) rfl ?_
        refine e_iadd C dX6_hatsBy_90 (q := 91) rfl ?_
        refine e_goto C (tgt := 95) dX6_hatsBy_91 rfl ?_
        exact xb_X6_hatsBy_b95 C hlau hret hn ih x7 x6 x5 (a3 + ((3 : Int32) * x7)) _ hx5
set_option maxHeartbeats 4000000 in
set_option maxRecDepth 100000 in
theorem x_X6_hatsBy {l : Launch} {ω : Om} {a1 : Int32} {a2 : Int32} {a3 : Int32} {a4 : Int32} (hn : 56 ≤ oN ω)  {I : Mem} : CTi l ω yX6_hatsBy cX6_hatsBy 9 (some .int) 3 [.ref (oA ω 0), .int a1, .int a2, .int a3, .int a4] (f_X6_hatsBy a1 a2 a3 a4 I) I := by
  refine ct_i (by decide) (Nat.le_of_ble_eq_true rfl) ?_
  intro κ hlau hret C
  refine e_lv [0, 1, 2, 3, 4] (lv1 := [(0, .ref (oA ω 0)), (1, .int a1), (2, .int a2), (3, .int a3), (4, .int a4)]) rfl ?_
  unfold f_X6_hatsBy
  refine e_iload_n C dX6_hatsBy_0 rfl 1 rfl (q := 1) rfl ?_
  refine e_callSi C (l := l) (av := [.int a1]) (st := []) hlau (x_X6_isSheet (l := l) (ω := ω) (a0 := a1) hn (I := I)) dX6_hatsBy_1 w_608 w_609 w_56 w_610 md_X6_isSheet (by decide) (by decide) rfl (Nat.le_of_ble_eq_true rfl) (q := 4) rfl (fun v2 J1 => ?_)
  refine e_ifeq C (tgt := 25) (q := 7) dX6_hatsBy_4 rfl rfl ?_ ?_
  · refine e_bipush C dX6_hatsBy_25 b8_m2 (q := 27) rfl ?_
    exact e_ireturn C dX6_hatsBy_27 hret rfl
  · refine e_iload_n C dX6_hatsBy_7 rfl 2 rfl (q := 8) rfl ?_
    refine e_callSi C (l := l) (av := [.int a2]) (st := []) hlau (x_X6_isSort (l := l) (ω := ω) (a0 := a2) hn (I := J1)) dX6_hatsBy_8 w_678 w_679 w_56 w_680 md_X6_isSort (by decide) (by decide) rfl (Nat.le_of_ble_eq_true rfl) (q := 11) rfl (fun v4 J3 => ?_)
    refine e_ifeq C (tgt := 25) (q := 14) dX6_hatsBy_11 rfl rfl ?_ ?_
    · refine e_bipush C dX6_hatsBy_25 b8_m2 (q := 27) rfl ?_
      exact e_ireturn C dX6_hatsBy_27 hret rfl
    · refine e_iload C dX6_hatsBy_14 4 rfl (q := 16) rfl ?_
      refine e_iconst C dX6_hatsBy_16 ic_0 (q := 17) rfl ?_
      refine e_bipush C dX6_hatsBy_17 b8_6 (q := 19) rfl ?_
      refine e_callSi C (l := l) (av := [.int a4, .int (0 : Int32), .int (6 : Int32)]) (st := []) hlau (x_X6_within (l := l) (ω := ω) (a0 := a4) (a1 := (0 : Int32)) (a2 := (6 : Int32)) hn (I := J3)) dX6_hatsBy_19 w_390 w_391 w_56 w_392 md_X6_within (by decide) (by decide) rfl (Nat.le_of_ble_eq_true rfl) (q := 22) rfl (fun v6 J5 => ?_)
      refine e_ifne C (tgt := 28) (q := 25) dX6_hatsBy_22 rfl rfl ?_ ?_
      · refine e_aload_n C dX6_hatsBy_28 rfl 0 rfl (q := 29) rfl ?_
        refine e_getf C (k := 0) (j := 6) (T := TX6) (N := 10) (v := .ref (oA ω 28)) dX6_hatsBy_29 (ltL hn (Nat.le_of_ble_eq_true rfl)) rfl rfl (by decide) in_X6 w_352 rfl (q := 32) rfl ?_
        refine e_iload_n C dX6_hatsBy_32 rfl 1 rfl (q := 33) rfl ?_
        refine e_aldS1 C hn dX6_hatsBy_33 (q := 34) rfl (fun h7 => ?_)
        refine e_astore C (lv1 := [(5, .ref (oA ω (48 + 2 * a1.toNatClampNeg))), (0, .ref (oA ω 0)), (1, .int a1), (2, .int a2), (3, .int a3), (4, .int a4)]) dX6_hatsBy_34 (Nat.le_of_ble_eq_true rfl) rfl (q := 36) rfl ?_
        refine e_aload C dX6_hatsBy_36 0 rfl (q := 38) rfl ?_
        refine e_callVi C (l := l) (k := (48 + 2 * a1.toNatClampNeg)) (av := []) (st := []) hlau (x_X3_isMissing (l := l) (ω := ω) (σ := a1.toNatClampNeg) hn h7 (I := J5)) dX6_hatsBy_38 w_611 w_612 w_613 w_60 w_614 md_X3_isMissing (by decide) (by decide) rfl (ltSh hn h7) (cOb_Sh (σ := a1.toNatClampNeg) h7 _) rfl (Nat.le_of_ble_eq_true rfl) (q := 41) rfl (fun v9 J8 => ?_)
        refine e_ifeq C (tgt := 47) (q := 44) dX6_hatsBy_41 rfl rfl ?_ ?_
        · refine e_aload C dX6_hatsBy_47 0 rfl (q := 49) rfl ?_
          refine e_getf C (k := (48 + 2 * a1.toNatClampNeg)) (j := 1) (T := TX3) (N := 3) (v := .int (J8 (48 + 2 * a1.toNatClampNeg) 1)) dX6_hatsBy_49 (ltSh hn h7) (cOb_Sh (σ := a1.toNatClampNeg) h7 _) rfl (by decide) in_X3 w_194 rfl (q := 52) rfl ?_
          refine e_iload_n C dX6_hatsBy_52 rfl 3 rfl (q := 53) rfl ?_
          refine e_icmpeq C (tgt := 59) (q := 56) dX6_hatsBy_53 rfl rfl ?_ ?_
          · refine e_iconst C dX6_hatsBy_59 ic_0 (q := 60) rfl ?_
            refine e_istore C (lv1 := [(6, .int (0 : Int32)), (5, .ref (oA ω (48 + 2 * a1.toNatClampNeg))), (0, .ref (oA ω 0)), (1, .int a1), (2, .int a2), (3, .int a3), (4, .int a4)]) dX6_hatsBy_60 (Nat.le_of_ble_eq_true rfl) rfl (q := 62) rfl ?_
            refine e_iconst C dX6_hatsBy_62 ic_0 (q := 63) rfl ?_
            refine e_istore C (lv1 := [(7, .int (0 : Int32)), (6, .int (0 : Int32)), (5, .ref (oA ω (48 + 2 * a1.toNatClampNeg))), (0, .ref (oA ω 0)), (1, .int a1), (2, .int a2), (3, .int a3), (4, .int a4)]) dX6_hatsBy_63 (Nat.le_of_ble_eq_true rfl) rfl (q := 65) rfl ?_
            exact e_lv [0, 1, 2, 3, 6, 7] (lv1 := [(7, .int (0 : Int32)), (6, .int (0 : Int32)), (5, .ref (oA ω (48 + 2 * a1.toNatClampNeg))), (0, .ref (oA ω 0)), (3, .int a3), (4, .int a4)]) rfl (xb_X6_hatsBy_b65 C hlau hret hn FU (0 : Int32) (0 : Int32) (a1.toNatClampNeg) _ h7)
          · refine e_bipush C dX6_hatsBy_56 b8_m13 (q := 58) rfl ?_
            exact e_ireturn C dX6_hatsBy_58 hret rfl
        · refine e_bipush C dX6_hatsBy_44 b8_m11 (q := 46) rfl ?_
          exact e_ireturn C dX6_hatsBy_46 hret rfl
      · refine e_bipush C dX6_hatsBy_25 b8_m2 (q := 27) rfl ?_
        exact e_ireturn C dX6_hatsBy_27 hret rfl
set_option maxHeartbeats 4000000 in
set_option maxRecDepth 100000 in
theorem xb_X6_taken_b53 {l : Launch} {κ : Kx} {ω : Om} {a1 : Int32} {a2 : Int32} (C : CX κ ω cX6_taken 5 3 yX6_taken.cls) (hlau : κ.2.1 = l) (hret : κ.2.2.2.2.2.2.2.2.1.sig.returnType = (some .int)) (hn : 56 ≤ oN ω)  : ∀ (x3 : Int32) (s0 : Int32) (I : Mem), EE κ ω 5 (Gi κ ω) (f_X6_taken_b53 a1 a2 x3 s0 I) I 53 [(3, .int x3), (0, .ref (oA ω 0)), (1, .int a1), (2, .int a2)] [.int s0] := by
  intro x3 s0 I
  unfold f_X6_taken_b53
  refine e_istore C (lv1 := [(4, .int s0), (3, .int x3), (0, .ref (oA ω 0)), (1, .int a1), (2, .int a2)]) dX6_taken_53 (Nat.le_of_ble_eq_true rfl) rfl (q := 55) rfl ?_
  refine e_iload_n C dX6_taken_55 rfl 3 rfl (q := 56) rfl ?_
  refine e_bipush C dX6_taken_56 b8_6 (q := 58) rfl ?_
  refine e_icmplt C (tgt := 81) (q := 61) dX6_taken_58 rfl rfl ?_ ?_
  · refine e_iload C dX6_taken_81 0 rfl (q := 83) rfl ?_
    refine e_ifne C (tgt := 106) (q := 86) dX6_taken_83 rfl rfl ?_ ?_
    · refine e_bipush C dX6_taken_106 b8_m13 (q := 108) rfl ?_
      exact e_ireturn C dX6_taken_108 hret rfl
    · refine e_aload_n C dX6_taken_86 rfl 2 rfl (q := 87) rfl ?_
      refine e_getf C (k := 0) (j := 1) (T := TX6) (N := 10) (v := .ref (oA ω 2)) dX6_taken_87 (ltL hn (Nat.le_of_ble_eq_true rfl)) rfl rfl (by decide) in_X6 w_347 rfl (q := 90) rfl ?_
      refine e_getf C (k := 2) (j := 1) (T := TX2) (N := 11) (v := .ref (oA ω 3)) dX6_taken_90 (ltL hn (Nat.le_of_ble_eq_true rfl)) (cOb_Rg (ρ := 0) (by decide) _) rfl (by decide) in_X2 w_90 rfl (q := 93) rfl ?_
      refine e_iload_n C dX6_taken_93 rfl 1 rfl (q := 94) rfl ?_
      refine e_iald C (k := 3) (n := 6) dX6_taken_94 (ltL hn (Nat.le_of_ble_eq_true rfl)) rfl (q := 95) rfl ?_
      refine e_iload_n C dX6_taken_95 rfl 4 rfl (q := 96) rfl ?_
      refine e_callSi C (l := l) (av := [.int (I 3 (x3).toNatClampNeg), .int a2]) (st := []) hlau (x_X0_isOne (l := l) (ω := ω) (a0 := I 3 (x3).toNatClampNeg) (a1 := a2) hn (I := I)) dX6_taken_96 w_703 w_704 w_68 w_705 md_X0_isOne (by decide) (by decide) rfl (Nat.le_of_ble_eq_true rfl) (q := 99) rfl (fun v9 J8 => ?_)
      refine e_ifeq C (tgt := 106) (q := 102) dX6_taken_99 rfl rfl ?_ ?_
      · refine e_bipush C dX6_taken_106 b8_m13 (q := 108) rfl ?_
        exact e_ireturn C dX6_taken_108 hret rfl
      · refine e_iload_n C dX6_taken_102 rfl 1 rfl (q := 103) rfl ?_
        refine e_goto C (tgt := 108) dX6_taken_103 rfl ?_
        exact e_ireturn C dX6_taken_108 hret rfl
  · refine e_iload C dX6_taken_61 0 rfl (q := 63) rfl ?_
    refine e_ifeq C (tgt := 78) (q := 66) dX6_taken_63 rfl rfl ?_ ?_
    · refine e_bipush C dX6_taken_78 b8_m13 (q := 80) rfl ?_
      exact e_ireturn C dX6_taken_80 hret rfl
    · refine e_aload_n C dX6_taken_66 rfl 2 rfl (q := 67) rfl ?_
      refine e_getf C (k := 0) (j := 1) (T := TX6) (N := 10) (v := .ref (oA ω 2)) dX6_taken_67 (ltL hn (Nat.le_of_ble_eq_true rfl)) rfl rfl (by decide) in_X6 w_347 rfl (q := 70) rfl ?_
      refine e_getf C (k := 2) (j := 4) (T := TX2) (N := 11) (v := .ref (oA ω 6)) dX6_taken_70 (ltL hn (Nat.le_of_ble_eq_true rfl)) (cOb_Rg (ρ := 0) (by decide) _) rfl (by decide) in_X2 w_98 rfl (q := 73) rfl ?_
      refine e_iload_n C dX6_taken_73 rfl 1 rfl (q := 74) rfl ?_
      refine e_iald C (k := 6) (n := 6) dX6_taken_74 (ltL hn (Nat.le_of_ble_eq_true rfl)) rfl (q := 75) rfl ?_
      refine e_goto C (tgt := 80) dX6_taken_75 rfl ?_
      exact e_ireturn C dX6_taken_80 hret rfl
set_option maxHeartbeats 4000000 in
set_option maxRecDepth 100000 in
theorem x_X6_taken {l : Launch} {ω : Om} {a1 : Int32} {a2 : Int32} (hn : 56 ≤ oN ω)  {I : Mem} : CTi l ω yX6_taken cX6_taken 5 (some .int) 3 [.ref (oA ω 0), .int a1, .int a2] (f_X6_taken a1 a2 I) I := by
  refine ct_i (by decide) (Nat.le_of_ble_eq_true rfl) ?_
  intro κ hlau hret C
  refine e_lv [0, 1, 2] (lv1 := [(0, .ref (oA ω 0)), (1, .int a1), (2, .int a2)]) rfl ?_
  unfold f_X6_taken
  refine e_iload_n C dX6_taken_0 rfl 2 rfl (q := 1) rfl ?_
  refine e_iconst C dX6_taken_1 ic_0 (q := 2) rfl ?_
  refine e_bipush C dX6_taken_2 b8_6 (q := 4) rfl ?_
  refine e_callSi C (l := l) (av := [.int a2, .int (0 : Int32), .int (6 : Int32)]) (st := []) hlau (x_X6_within (l := l) (ω := ω) (a0 := a2) (a1 := (0 : Int32)) (a2 := (6 : Int32)) hn (I := I)) dX6_taken_4 w_390 w_391 w_56 w_392 md_X6_within (by decide) (by decide) rfl (Nat.le_of_ble_eq_true rfl) (q := 7) rfl (fun v2 J1 => ?_)
  refine e_ifne C (tgt := 13) (q := 10) dX6_taken_7 rfl rfl ?_ ?_
  · refine e_iload_n C dX6_taken_13 rfl 1 rfl (q := 14) rfl ?_
    refine e_iconst C dX6_taken_14 ic_0 (q := 15) rfl ?_
    refine e_bipush C dX6_taken_15 b8_11 (q := 17) rfl ?_
    refine e_callSi C (l := l) (av := [.int a1, .int (0 : Int32), .int (11 : Int32)]) (st := []) hlau (x_X6_within (l := l) (ω := ω) (a0 := a1) (a1 := (0 : Int32)) (a2 := (11 : Int32)) hn (I := J1)) dX6_taken_17 w_390 w_391 w_56 w_392 md_X6_within (by decide) (by decide) rfl (Nat.le_of_ble_eq_true rfl) (q := 20) rfl (fun v4 J3 => ?_)
    refine e_ifne C (tgt := 26) (q := 23) dX6_taken_20 rfl rfl ?_ ?_
    · refine e_iload_n C dX6_taken_26 rfl 1 rfl (q := 27) rfl ?_
      refine e_bipush C dX6_taken_27 b8_6 (q := 29) rfl ?_
      refine e_irem C dX6_taken_29 (by decide) (q := 30) rfl ?_
      refine e_nmi (fun v5 => ?_)
      refine e_istore_n C (lv1 := [(3, .int v5), (0, .ref (oA ω 0)), (1, .int a1), (2, .int a2)]) dX6_taken_30 rfl (Nat.le_of_ble_eq_true rfl) rfl (q := 31) rfl ?_
      refine e_aload_n C dX6_taken_31 rfl 1 rfl (q := 32) rfl ?_
      refine e_iload_n C dX6_taken_32 rfl 0 rfl (q := 33) rfl ?_
      refine e_callVi C (l := l) (k := 0) (av := [.int v5]) (st := []) hlau (x_X6_isHat (l := l) (ω := ω) (a1 := v5) hn (I := J3)) dX6_taken_33 w_408 w_410 w_12 w_56 w_411 md_X6_isHat (by decide) (by decide) rfl (ltL hn (Nat.le_of_ble_eq_true rfl)) rfl rfl (Nat.le_of_ble_eq_true rfl) (q := 36) rfl (fun v7 J6 => ?_)
      refine e_ifne C (tgt := 42) (q := 39) dX6_taken_36 rfl rfl ?_ ?_
      · refine e_iload_n C dX6_taken_42 rfl 3 rfl (q := 43) rfl ?_
        refine e_bipush C dX6_taken_43 b8_6 (q := 45) rfl ?_
        refine e_icmpne C (tgt := 52) (q := 48) dX6_taken_45 rfl rfl ?_ ?_
        · refine e_iconst C dX6_taken_52 ic_0 (q := 53) rfl ?_
          exact xb_X6_taken_b53 C hlau hret hn v5 (0 : Int32) _
        · refine e_iconst C dX6_taken_48 ic_1 (q := 49) rfl ?_
          refine e_goto C (tgt := 53) dX6_taken_49 rfl ?_
          exact xb_X6_taken_b53 C hlau hret hn v5 (1 : Int32) _
      · refine e_bipush C dX6_taken_39 b8_m11 (q := 41) rfl ?_
        exact e_ireturn C dX6_taken_41 hret rfl
    · refine e_bipush C dX6_taken_23 b8_m12 (q := 25) rfl ?_
      exact e_ireturn C dX6_taken_25 hret rfl
  · refine e_bipush C dX6_taken_10 b8_m2 (q := 12) rfl ?_
    exact e_ireturn C dX6_taken_12 hret rfl
set_option maxHeartbeats 4000000 in
set_option maxRecDepth 100000 in
theorem x_X7_in {l : Launch} {ω : Om} {a0 : Int32} {a1 : Int32} {a2 : Int32} (hn : 75 ≤ oN ω)  {I : Mem} : CTi l ω yX7_in cX7_in 3 (some .boolean) 1 [.int a0, .int a1, .int a2] (f_X7_in a0 a1 a2 I) I := by
  refine ct_i (by decide) (Nat.le_of_ble_eq_true rfl) ?_
  intro κ hlau hret C
  refine e_lv [0, 1, 2] (lv1 := [(0, .int a0), (1, .int a1), (2, .int a2)]) rfl ?_
  unfold f_X7_in
  refine e_iload_n C dX7_in_0 rfl 0 rfl (q := 1) rfl ?_
  refine e_iload_n C dX7_in_1 rfl 1 rfl (q := 2) rfl ?_
  refine e_icmplt C (tgt := 14) (q := 5) dX7_in_2 rfl rfl ?_ ?_
  · refine e_iconst C dX7_in_14 ic_0 (q := 15) rfl ?_
    exact e_ireturn C dX7_in_15 hret rfl
  · refine e_iload_n C dX7_in_5 rfl 0 rfl (q := 6) rfl ?_
    refine e_iload_n C dX7_in_6 rfl 2 rfl (q := 7) rfl ?_
    refine e_icmpgt C (tgt := 14) (q := 10) dX7_in_7 rfl rfl ?_ ?_
    · refine e_iconst C dX7_in_14 ic_0 (q := 15) rfl ?_
      exact e_ireturn C dX7_in_15 hret rfl
    · refine e_iconst C dX7_in_10 ic_1 (q := 11) rfl ?_
      refine e_goto C (tgt := 15) dX7_in_11 rfl ?_
      exact e_ireturn C dX7_in_15 hret rfl
set_option maxHeartbeats 4000000 in
set_option maxRecDepth 100000 in
theorem x_X7_within {l : Launch} {ω : Om} {a0 : Int32} {a1 : Int32} {a2 : Int32} (hn : 75 ≤ oN ω)  {I : Mem} : CTi l ω yX7_within cX7_within 3 (some .int) 1 [.int a0, .int a1, .int a2] (f_X7_within a0 a1 a2 I) I := by
  refine ct_i (by decide) (Nat.le_of_ble_eq_true rfl) ?_
  intro κ hlau hret C
  refine e_lv [0, 1, 2] (lv1 := [(0, .int a0), (1, .int a1), (2, .int a2)]) rfl ?_
  unfold f_X7_within
  refine e_iload_n C dX7_within_0 rfl 0 rfl (q := 1) rfl ?_
  refine e_iload_n C dX7_within_1 rfl 1 rfl (q := 2) rfl ?_
  refine e_icmpge C (tgt := 9) (q := 5) dX7_within_2 rfl rfl ?_ ?_
  · refine e_iload_n C dX7_within_9 rfl 0 rfl (q := 10) rfl ?_
    refine e_iload_n C dX7_within_10 rfl 2 rfl (q := 11) rfl ?_
    refine e_icmple C (tgt := 18) (q := 14) dX7_within_11 rfl rfl ?_ ?_
    · refine e_iload_n C dX7_within_18 rfl 0 rfl (q := 19) rfl ?_
      exact e_ireturn C dX7_within_19 hret rfl
    · refine e_iload_n C dX7_within_14 rfl 2 rfl (q := 15) rfl ?_
      refine e_goto C (tgt := 19) dX7_within_15 rfl ?_
      exact e_ireturn C dX7_within_19 hret rfl
  · refine e_iload_n C dX7_within_5 rfl 1 rfl (q := 6) rfl ?_
    refine e_goto C (tgt := 19) dX7_within_6 rfl ?_
    exact e_ireturn C dX7_within_19 hret rfl
set_option maxHeartbeats 4000000 in
set_option maxRecDepth 100000 in
theorem xb_X7_onesOf_b4 {l : Launch} {κ : Kx} {ω : Om} {a0 : Int32} (C : CX κ ω cX7_onesOf 3 1 yX7_onesOf.cls) (hlau : κ.2.1 = l) (hret : κ.2.2.2.2.2.2.2.2.1.sig.returnType = (some .int)) (hn : 75 ≤ oN ω)  : ∀ (n : Nat) (x2 : Int32) (x1 : Int32) (I : Mem), EE κ ω 3 (Gi κ ω) (f_X7_onesOf_b4 a0 n x2 x1 I) I 4 [(2, .int x2), (1, .int x1), (0, .int a0)] [] := by
  intro n
  induction n with
  | zero => intro x2 x1 I; exact e_none
  | succ n ih =>
    intro x2 x1 I
    rw [f_X7_onesOf_b4]
    refine e_iload_n C dX7_onesOf_4 rfl 0 rfl (q := 5) rfl ?_
    refine e_bipush C dX7_onesOf_5 b8_6 (q := 7) rfl ?_
    refine e_icmpge C (tgt := 24) (q := 10) dX7_onesOf_7 rfl rfl ?_ ?_
    · refine e_iload_n C dX7_onesOf_24 rfl 1 rfl (q := 25) rfl ?_
      exact e_ireturn C dX7_onesOf_25 hret rfl
    · refine e_iload_n C dX7_onesOf_10 rfl 1 rfl (q := 11) rfl ?_
      refine e_iload_n C dX7_onesOf_11 rfl 2 rfl (q := 12) rfl ?_
      refine e_iload_n C dX7_onesOf_12 rfl 0 rfl (q := 13) rfl ?_
      refine e_ishr C dX7_onesOf_13 (q := 14) rfl ?_
      refine e_iconst C dX7_onesOf_14 ic_1 (q := 15) rfl ?_
      refine e_iand C dX7_onesOf_15 (q := 16) rfl ?_
      refine e_iadd C dX7_onesOf_16 (q := 17) rfl ?_
      refine e_nmi (fun v1 => ?_)
      refine e_istore_n C (lv1 := [(1, .int v1), (2, .int x2), (0, .int a0)]) dX7_onesOf_17 rfl (Nat.le_of_ble_eq_true rfl) rfl (q := 18) rfl ?_
      refine e_iinc C (v := x2 + (1 : Int32)) (lv1 := [(2, .int (x2 + (1 : Int32))), (1, .int v1), (0, .int a0)]) dX7_onesOf_18 1 rfl (Nat.le_of_ble_eq_true rfl) (by rw [ic_1]) rfl (q := 21) rfl ?_
      refine e_goto C (tgt := 4) dX7_onesOf_21 rfl ?_
      exact ih (x2 + (1 : Int32)) v1 _
set_option maxHeartbeats 4000000 in
set_option maxRecDepth 100000 in
theorem x_X7_onesOf {l : Launch} {ω : Om} {a0 : Int32} (hn : 75 ≤ oN ω)  {I : Mem} : CTi l ω yX7_onesOf cX7_onesOf 3 (some .int) 1 [.int a0] (f_X7_onesOf a0 I) I := by
  refine ct_i (by decide) (Nat.le_of_ble_eq_true rfl) ?_
  intro κ hlau hret C
  refine e_lv [0] (lv1 := [(0, .int a0)]) rfl ?_
  unfold f_X7_onesOf
  refine e_iconst C dX7_onesOf_0 ic_0 (q := 1) rfl ?_
  refine e_istore_n C (lv1 := [(1, .int (0 : Int32)), (0, .int a0)]) dX7_onesOf_1 rfl (Nat.le_of_ble_eq_true rfl) rfl (q := 2) rfl ?_
  refine e_iconst C dX7_onesOf_2 ic_0 (q := 3) rfl ?_
  refine e_istore_n C (lv1 := [(2, .int (0 : Int32)), (1, .int (0 : Int32)), (0, .int a0)]) dX7_onesOf_3 rfl (Nat.le_of_ble_eq_true rfl) rfl (q := 4) rfl ?_
  exact xb_X7_onesOf_b4 C hlau hret hn FU (0 : Int32) (0 : Int32) _
set_option maxHeartbeats 4000000 in
set_option maxRecDepth 100000 in
theorem x_X7_isOne {l : Launch} {ω : Om} {a1 : Int32} (hn : 75 ≤ oN ω)  {I : Mem} : CTi l ω yX7_isOne cX7_isOne 2 (some .boolean) 2 [.ref (oA ω 56), .int a1] (f_X7_isOne a1 I) I := by
  refine ct_i (by decide) (Nat.le_of_ble_eq_true rfl) ?_
  intro κ hlau hret C
  refine e_lv [0, 1] (lv1 := [(0, .ref (oA ω 56)), (1, .int a1)]) rfl ?_
  unfold f_X7_isOne
  refine e_iload_n C dX7_isOne_0 rfl 1 rfl (q := 1) rfl ?_
  refine e_iconst C dX7_isOne_1 ic_0 (q := 2) rfl ?_
  refine e_aload_n C dX7_isOne_2 rfl 0 rfl (q := 3) rfl ?_
  refine e_getf C (k := 56) (j := 0) (T := TX7) (N := 32) (v := .int (I 56 0)) dX7_isOne_3 (ltL hn (Nat.le_of_ble_eq_true rfl)) rfl rfl (by decide) in_X7 w_762 rfl (q := 6) rfl ?_
  refine e_iconst C dX7_isOne_6 ic_1 (q := 7) rfl ?_
  refine e_isub C dX7_isOne_7 (q := 8) rfl ?_
  refine e_callSi C (l := l) (av := [.int a1, .int (0 : Int32), .int ((I 56 0) - (1 : Int32))]) (st := []) hlau (x_X7_in (l := l) (ω := ω) (a0 := a1) (a1 := (0 : Int32)) (a2 := (I 56 0) - (1 : Int32)) hn (I := I)) dX7_isOne_8 w_723 w_724 w_67 w_725 md_X7_in (by decide) (by decide) rfl (Nat.le_of_ble_eq_true rfl) (q := 11) rfl (fun v2 J1 => ?_)
  exact e_ireturn_t C dX7_isOne_11 hret rfl rfl
set_option maxHeartbeats 4000000 in
set_option maxRecDepth 100000 in
theorem x_X7_areTwo {l : Launch} {ω : Om} {a1 : Int32} {a2 : Int32} (hn : 75 ≤ oN ω)  {I : Mem} : CTi l ω yX7_areTwo cX7_areTwo 3 (some .boolean) 3 [.ref (oA ω 56), .int a1, .int a2] (f_X7_areTwo a1 a2 I) I := by
  refine ct_i (by decide) (Nat.le_of_ble_eq_true rfl) ?_
  intro κ hlau hret C
  refine e_lv [0, 1, 2] (lv1 := [(0, .ref (oA ω 56)), (1, .int a1), (2, .int a2)]) rfl ?_
  unfold f_X7_areTwo
  refine e_aload_n C dX7_areTwo_0 rfl 0 rfl (q := 1) rfl ?_
  refine e_iload_n C dX7_areTwo_1 rfl 1 rfl (q := 2) rfl ?_
  refine e_callVi C (l := l) (k := 56) (av := [.int a1]) (st := []) hlau (x_X7_isOne (l := l) (ω := ω) (a1 := a1) hn (I := I)) dX7_areTwo_2 w_890 w_892 w_32 w_67 w_893 md_X7_isOne (by decide) (by decide) rfl (ltL hn (Nat.le_of_ble_eq_true rfl)) rfl rfl (Nat.le_of_ble_eq_true rfl) (q := 5) rfl (fun v2 J1 => ?_)
  refine e_ifeq C (tgt := 25) (q := 8) dX7_areTwo_5 rfl rfl ?_ ?_
  · refine e_iconst C dX7_areTwo_25 ic_0 (q := 26) rfl ?_
    exact e_ireturn C dX7_areTwo_26 hret rfl
  · refine e_aload_n C dX7_areTwo_8 rfl 0 rfl (q := 9) rfl ?_
    refine e_iload_n C dX7_areTwo_9 rfl 2 rfl (q := 10) rfl ?_
    refine e_callVi C (l := l) (k := 56) (av := [.int a2]) (st := []) hlau (x_X7_isOne (l := l) (ω := ω) (a1 := a2) hn (I := J1)) dX7_areTwo_10 w_890 w_892 w_32 w_67 w_893 md_X7_isOne (by decide) (by decide) rfl (ltL hn (Nat.le_of_ble_eq_true rfl)) rfl rfl (Nat.le_of_ble_eq_true rfl) (q := 13) rfl (fun v4 J3 => ?_)
    refine e_ifeq C (tgt := 25) (q := 16) dX7_areTwo_13 rfl rfl ?_ ?_
    · refine e_iconst C dX7_areTwo_25 ic_0 (q := 26) rfl ?_
      exact e_ireturn C dX7_areTwo_26 hret rfl
    · refine e_iload_n C dX7_areTwo_16 rfl 1 rfl (q := 17) rfl ?_
      refine e_iload_n C dX7_areTwo_17 rfl 2 rfl (q := 18) rfl ?_
      refine e_icmpeq C (tgt := 25) (q := 21) dX7_areTwo_18 rfl rfl ?_ ?_
      · refine e_iconst C dX7_areTwo_25 ic_0 (q := 26) rfl ?_
        exact e_ireturn C dX7_areTwo_26 hret rfl
      · refine e_iconst C dX7_areTwo_21 ic_1 (q := 22) rfl ?_
        refine e_goto C (tgt := 26) dX7_areTwo_22 rfl ?_
        exact e_ireturn C dX7_areTwo_26 hret rfl
set_option maxHeartbeats 4000000 in
set_option maxRecDepth 100000 in
theorem x_X7_isUp {l : Launch} {ω : Om} {a1 : Int32} (hn : 75 ≤ oN ω)  {I : Mem} : CTi l ω yX7_isUp cX7_isUp 2 (some .boolean) 1 [.ref (oA ω 56), .int a1] (f_X7_isUp a1 I) I := by
  refine ct_i (by decide) (Nat.le_of_ble_eq_true rfl) ?_
  intro κ hlau hret C
  refine e_lv [0, 1] (lv1 := [(0, .ref (oA ω 56)), (1, .int a1)]) rfl ?_
  unfold f_X7_isUp
  refine e_aload_n C dX7_isUp_0 rfl 0 rfl (q := 1) rfl ?_
  refine e_getf C (k := 56) (j := 3) (T := TX7) (N := 32) (v := .ref (oA ω 59)) dX7_isUp_1 (ltL hn (Nat.le_of_ble_eq_true rfl)) rfl rfl (by decide) in_X7 w_765 rfl (q := 4) rfl ?_
  refine e_iconst C dX7_isUp_4 ic_4 (q := 5) rfl ?_
  refine e_iload_n C dX7_isUp_5 rfl 1 rfl (q := 6) rfl ?_
  refine e_imul C dX7_isUp_6 (q := 7) rfl ?_
  refine e_iconst C dX7_isUp_7 ic_1 (q := 8) rfl ?_
  refine e_iadd C dX7_isUp_8 (q := 9) rfl ?_
  refine e_nmi (fun v1 => ?_)
  refine e_iald C (k := 59) (n := 24) dX7_isUp_9 (ltL hn (Nat.le_of_ble_eq_true rfl)) rfl (q := 10) rfl ?_
  refine e_ifle C (tgt := 17) (q := 13) dX7_isUp_10 rfl rfl ?_ ?_
  · refine e_iconst C dX7_isUp_17 ic_0 (q := 18) rfl ?_
    exact e_ireturn C dX7_isUp_18 hret rfl
  · refine e_iconst C dX7_isUp_13 ic_1 (q := 14) rfl ?_
    refine e_goto C (tgt := 18) dX7_isUp_14 rfl ?_
    exact e_ireturn C dX7_isUp_18 hret rfl
set_option maxHeartbeats 4000000 in
set_option maxRecDepth 100000 in
theorem xb_X7_upSet_b28 {l : Launch} {κ : Kx} {ω : Om}  (C : CX κ ω cX7_upSet 3 2 yX7_upSet.cls) (hlau : κ.2.1 = l) (hret : κ.2.2.2.2.2.2.2.2.1.sig.returnType = (some .int)) (hn : 75 ≤ oN ω)  {K4 : Int32 → Int32 → Mem → Option (Int32 × Mem)} (hK4 : ∀ (x2 : Int32) (x1 : Int32) (J : Mem), EE κ ω 3 (Gi κ ω) (K4 x2 x1 J) J 4 [(2, .int x2), (1, .int x1), (0, .ref (oA ω 56))] []) : ∀ (x2 : Int32) (s0 : Int32) (s1 : Int32) (I : Mem), EE κ ω 3 (Gi κ ω) (f_X7_upSet_b28 K4 x2 s0 s1 I) I 28 [(2, .int x2), (0, .ref (oA ω 56))] [.int s0, .int s1] := by
  intro x2 s0 s1 I
  unfold f_X7_upSet_b28
  refine e_ior C dX7_upSet_28 (q := 29) rfl ?_
  refine e_nmi (fun v3 => ?_)
  refine e_istore_n C (lv1 := [(1, .int v3), (2, .int x2), (0, .ref (oA ω 56))]) dX7_upSet_29 rfl (Nat.le_of_ble_eq_true rfl) rfl (q := 30) rfl ?_
  refine e_iinc C (v := x2 + (1 : Int32)) (lv1 := [(2, .int (x2 + (1 : Int32))), (1, .int v3), (0, .ref (oA ω 56))]) dX7_upSet_30 1 rfl (Nat.le_of_ble_eq_true rfl) (by rw [ic_1]) rfl (q := 33) rfl ?_
  refine e_goto C (tgt := 4) dX7_upSet_33 rfl ?_
  exact hK4 (x2 + (1 : Int32)) v3 _
set_option maxHeartbeats 4000000 in
set_option maxRecDepth 100000 in
theorem xb_X7_upSet_b4 {l : Launch} {κ : Kx} {ω : Om}  (C : CX κ ω cX7_upSet 3 2 yX7_upSet.cls) (hlau : κ.2.1 = l) (hret : κ.2.2.2.2.2.2.2.2.1.sig.returnType = (some .int)) (hn : 75 ≤ oN ω)  : ∀ (n : Nat) (x2 : Int32) (x1 : Int32) (I : Mem), EE κ ω 3 (Gi κ ω) (f_X7_upSet_b4 n x2 x1 I) I 4 [(2, .int x2), (1, .int x1), (0, .ref (oA ω 56))] [] := by
  intro n
  induction n with
  | zero => intro x2 x1 I; exact e_none
  | succ n ih =>
    intro x2 x1 I
    rw [f_X7_upSet_b4]
    refine e_iload_n C dX7_upSet_4 rfl 0 rfl (q := 5) rfl ?_
    refine e_aload_n C dX7_upSet_5 rfl 2 rfl (q := 6) rfl ?_
    refine e_getf C (k := 56) (j := 0) (T := TX7) (N := 32) (v := .int (I 56 0)) dX7_upSet_6 (ltL hn (Nat.le_of_ble_eq_true rfl)) rfl rfl (by decide) in_X7 w_762 rfl (q := 9) rfl ?_
    refine e_icmpge C (tgt := 36) (q := 12) dX7_upSet_9 rfl rfl ?_ ?_
    · refine e_iload_n C dX7_upSet_36 rfl 1 rfl (q := 37) rfl ?_
      exact e_ireturn C dX7_upSet_37 hret rfl
    · refine e_iload_n C dX7_upSet_12 rfl 1 rfl (q := 13) rfl ?_
      refine e_aload_n C dX7_upSet_13 rfl 2 rfl (q := 14) rfl ?_
      refine e_iload_n C dX7_upSet_14 rfl 0 rfl (q := 15) rfl ?_
      refine e_callVi C (l := l) (k := 56) (av := [.int x2]) (st := [.int x1]) hlau (x_X7_isUp (l := l) (ω := ω) (a1 := x2) hn (I := I)) dX7_upSet_15 w_867 w_869 w_31 w_67 w_870 md_X7_isUp (by decide) (by decide) rfl (ltL hn (Nat.le_of_ble_eq_true rfl)) rfl rfl (Nat.le_of_ble_eq_true rfl) (q := 18) rfl (fun v2 J1 => ?_)
      refine e_ifeq C (tgt := 27) (q := 21) dX7_upSet_18 rfl rfl ?_ ?_
      · refine e_iconst C dX7_upSet_27 ic_0 (q := 28) rfl ?_
        exact e_lv [0, 2] (lv1 := [(2, .int x2), (0, .ref (oA ω 56))]) rfl (xb_X7_upSet_b28 C hlau hret hn ih x2 (0 : Int32) x1 _)
      · refine e_iconst C dX7_upSet_21 ic_1 (q := 22) rfl ?_
        refine e_iload_n C dX7_upSet_22 rfl 0 rfl (q := 23) rfl ?_
        refine e_ishl C dX7_upSet_23 (q := 24) rfl ?_
        refine e_goto C (tgt := 28) dX7_upSet_24 rfl ?_
        exact e_lv [0, 2] (lv1 := [(2, .int x2), (0, .ref (oA ω 56))]) rfl (xb_X7_upSet_b28 C hlau hret hn ih x2 ((1 : Int32) <<< (x2 &&& 31)) x1 _)
set_option maxHeartbeats 4000000 in
set_option maxRecDepth 100000 in
theorem x_X7_upSet {l : Launch} {ω : Om}  (hn : 75 ≤ oN ω)  {I : Mem} : CTi l ω yX7_upSet cX7_upSet 3 (some .int) 2 [.ref (oA ω 56)] (f_X7_upSet  I) I := by
  refine ct_i (by decide) (Nat.le_of_ble_eq_true rfl) ?_
  intro κ hlau hret C
  refine e_lv [0] (lv1 := [(0, .ref (oA ω 56))]) rfl ?_
  unfold f_X7_upSet
  refine e_iconst C dX7_upSet_0 ic_0 (q := 1) rfl ?_
  refine e_istore_n C (lv1 := [(1, .int (0 : Int32)), (0, .ref (oA ω 56))]) dX7_upSet_1 rfl (Nat.le_of_ble_eq_true rfl) rfl (q := 2) rfl ?_
  refine e_iconst C dX7_upSet_2 ic_0 (q := 3) rfl ?_
  refine e_istore_n C (lv1 := [(2, .int (0 : Int32)), (1, .int (0 : Int32)), (0, .ref (oA ω 56))]) dX7_upSet_3 rfl (Nat.le_of_ble_eq_true rfl) rfl (q := 4) rfl ?_
  exact xb_X7_upSet_b4 C hlau hret hn FU (0 : Int32) (0 : Int32) _
set_option maxHeartbeats 4000000 in
set_option maxRecDepth 100000 in
theorem xb_X7_talliesAll_b14 {l : Launch} {κ : Kx} {ω : Om}  (C : CX κ ω cX7_talliesAll 4 1 yX7_talliesAll.cls) (hlau : κ.2.1 = l) (hret : κ.2.2.2.2.2.2.2.2.1.sig.returnType = (some .int)) (hn : 75 ≤ oN ω)  {K4 : Int32 → Int32 → Mem → Option (Int32 × Mem)} (hK4 : ∀ (x2 : Int32) (x1 : Int32) (J : Mem), EE κ ω 4 (Gi κ ω) (K4 x2 x1 J) J 4 [(2, .int x2), (1, .int x1), (0, .ref (oA ω 56))] []) : ∀ (n : Nat) (x3 : Int32) (x2 : Int32) (x1 : Int32) (I : Mem), EE κ ω 4 (Gi κ ω) (f_X7_talliesAll_b14 K4 n x3 x2 x1 I) I 14 [(3, .int x3), (2, .int x2), (1, .int x1), (0, .ref (oA ω 56))] [] := by
  intro n
  induction n with
  | zero => intro x3 x2 x1 I; exact e_none
  | succ n ih =>
    intro x3 x2 x1 I
    rw [f_X7_talliesAll_b14]
    refine e_iload_n C dX7_talliesAll_14 rfl 0 rfl (q := 15) rfl ?_
    refine e_aload_n C dX7_talliesAll_15 rfl 3 rfl (q := 16) rfl ?_
    refine e_getf C (k := 56) (j := 0) (T := TX7) (N := 32) (v := .int (I 56 0)) dX7_talliesAll_16 (ltL hn (Nat.le_of_ble_eq_true rfl)) rfl rfl (by decide) in_X7 w_762 rfl (q := 19) rfl ?_
    refine e_icmpge C (tgt := 42) (q := 22) dX7_talliesAll_19 rfl rfl ?_ ?_
    · refine e_iinc C (v := x2 + (1 : Int32)) (lv1 := [(2, .int (x2 + (1 : Int32))), (3, .int x3), (1, .int x1), (0, .ref (oA ω 56))]) dX7_talliesAll_42 1 rfl (Nat.le_of_ble_eq_true rfl) (by rw [ic_1]) rfl (q := 45) rfl ?_
      refine e_goto C (tgt := 4) dX7_talliesAll_45 rfl ?_
      exact e_lv [0, 2, 3] (lv1 := [(2, .int (x2 + (1 : Int32))), (1, .int x1), (0, .ref (oA ω 56))]) rfl (hK4 (x2 + (1 : Int32)) x1 _)
    · refine e_iload_n C dX7_talliesAll_22 rfl 2 rfl (q := 23) rfl ?_
      refine e_aload_n C dX7_talliesAll_23 rfl 3 rfl (q := 24) rfl ?_
      refine e_getf C (k := 56) (j := 4) (T := TX7) (N := 32) (v := .ref (oA ω 60)) dX7_talliesAll_24 (ltL hn (Nat.le_of_ble_eq_true rfl)) rfl rfl (by decide) in_X7 w_766 rfl (q := 27) rfl ?_
      refine e_bipush C dX7_talliesAll_27 b8_6 (q := 29) rfl ?_
      refine e_iload_n C dX7_talliesAll_29 rfl 1 rfl (q := 30) rfl ?_
      refine e_imul C dX7_talliesAll_30 (q := 31) rfl ?_
      refine e_iload_n C dX7_talliesAll_31 rfl 0 rfl (q := 32) rfl ?_
      refine e_iadd C dX7_talliesAll_32 (q := 33) rfl ?_
      refine e_iald C (k := 60) (n := 36) dX7_talliesAll_33 (ltL hn (Nat.le_of_ble_eq_true rfl)) rfl (q := 34) rfl ?_
      refine e_iadd C dX7_talliesAll_34 (q := 35) rfl ?_
      refine e_nmi (fun v1 => ?_)
      refine e_istore_n C (lv1 := [(1, .int v1), (3, .int x3), (2, .int x2), (0, .ref (oA ω 56))]) dX7_talliesAll_35 rfl (Nat.le_of_ble_eq_true rfl) rfl (q := 36) rfl ?_
      refine e_iinc C (v := x3 + (1 : Int32)) (lv1 := [(3, .int (x3 + (1 : Int32))), (1, .int v1), (2, .int x2), (0, .ref (oA ω 56))]) dX7_talliesAll_36 1 rfl (Nat.le_of_ble_eq_true rfl) (by rw [ic_1]) rfl (q := 39) rfl ?_
      refine e_goto C (tgt := 14) dX7_talliesAll_39 rfl ?_
      exact e_lv [0, 2, 1, 3] (lv1 := [(3, .int (x3 + (1 : Int32))), (2, .int x2), (1, .int v1), (0, .ref (oA ω 56))]) rfl (ih (x3 + (1 : Int32)) x2 v1 _)
set_option maxHeartbeats 4000000 in
set_option maxRecDepth 100000 in
theorem xb_X7_talliesAll_b4 {l : Launch} {κ : Kx} {ω : Om}  (C : CX κ ω cX7_talliesAll 4 1 yX7_talliesAll.cls) (hlau : κ.2.1 = l) (hret : κ.2.2.2.2.2.2.2.2.1.sig.returnType = (some .int)) (hn : 75 ≤ oN ω)  : ∀ (n : Nat) (x2 : Int32) (x1 : Int32) (I : Mem), EE κ ω 4 (Gi κ ω) (f_X7_talliesAll_b4 n x2 x1 I) I 4 [(2, .int x2), (1, .int x1), (0, .ref (oA ω 56))] [] := by
  intro n
  induction n with
  | zero => intro x2 x1 I; exact e_none
  | succ n ih =>
    intro x2 x1 I
    rw [f_X7_talliesAll_b4]
    refine e_iload_n C dX7_talliesAll_4 rfl 0 rfl (q := 5) rfl ?_
    refine e_aload_n C dX7_talliesAll_5 rfl 2 rfl (q := 6) rfl ?_
    refine e_getf C (k := 56) (j := 0) (T := TX7) (N := 32) (v := .int (I 56 0)) dX7_talliesAll_6 (ltL hn (Nat.le_of_ble_eq_true rfl)) rfl rfl (by decide) in_X7 w_762 rfl (q := 9) rfl ?_
    refine e_icmpge C (tgt := 48) (q := 12) dX7_talliesAll_9 rfl rfl ?_ ?_
    · refine e_iload_n C dX7_talliesAll_48 rfl 1 rfl (q := 49) rfl ?_
      exact e_ireturn C dX7_talliesAll_49 hret rfl
    · refine e_iconst C dX7_talliesAll_12 ic_0 (q := 13) rfl ?_
      refine e_istore_n C (lv1 := [(3, .int (0 : Int32)), (2, .int x2), (1, .int x1), (0, .ref (oA ω 56))]) dX7_talliesAll_13 rfl (Nat.le_of_ble_eq_true rfl) rfl (q := 14) rfl ?_
      exact xb_X7_talliesAll_b14 C hlau hret hn ih FU (0 : Int32) x2 x1 _
set_option maxHeartbeats 4000000 in
set_option maxRecDepth 100000 in
theorem x_X7_talliesAll {l : Launch} {ω : Om}  (hn : 75 ≤ oN ω)  {I : Mem} : CTi l ω yX7_talliesAll cX7_talliesAll 4 (some .int) 1 [.ref (oA ω 56)] (f_X7_talliesAll  I) I := by
  refine ct_i (by decide) (Nat.le_of_ble_eq_true rfl) ?_
  intro κ hlau hret C
  refine e_lv [0] (lv1 := [(0, .ref (oA ω 56))]) rfl ?_
  unfold f_X7_talliesAll
  refine e_iconst C dX7_talliesAll_0 ic_0 (q := 1) rfl ?_
  refine e_istore_n C (lv1 := [(1, .int (0 : Int32)), (0, .ref (oA ω 56))]) dX7_talliesAll_1 rfl (Nat.le_of_ble_eq_true rfl) rfl (q := 2) rfl ?_
  refine e_iconst C dX7_talliesAll_2 ic_0 (q := 3) rfl ?_
  refine e_istore_n C (lv1 := [(2, .int (0 : Int32)), (1, .int (0 : Int32)), (0, .ref (oA ω 56))]) dX7_talliesAll_3 rfl (Nat.le_of_ble_eq_true rfl) rfl (q := 4) rfl ?_
  exact xb_X7_talliesAll_b4 C hlau hret hn FU (0 : Int32) (0 : Int32) _
set_option maxHeartbeats 4000000 in
set_option maxRecDepth 100000 in
theorem x_X7_count {l : Launch} {ω : Om} {a1 : Int32} (hn : 75 ≤ oN ω)  {I : Mem} : CTi l ω yX7_count cX7_count 2 (some .int) 3 [.ref (oA ω 56), .int a1] (f_X7_count a1 I) I := by
  refine ct_i (by decide) (Nat.le_of_ble_eq_true rfl) ?_
  intro κ hlau hret C
  refine e_lv [0, 1] (lv1 := [(0, .ref (oA ω 56)), (1, .int a1)]) rfl ?_
  unfold f_X7_count
  refine e_iload_n C dX7_count_0 rfl 1 rfl (q := 1) rfl ?_
  refine e_if (fun h1 => ?_) (fun h1 => ?_)
  · refine e_tabIn C (v := 0) (off := 39) (tgt := 40) dX7_count_1 (by rw [h1]; rfl) (by decide) rfl rfl ?_
    refine e_aload_n C dX7_count_40 rfl 0 rfl (q := 41) rfl ?_
    refine e_getf C (k := 56) (j := 0) (T := TX7) (N := 32) (v := .int (I 56 0)) dX7_count_41 (ltL hn (Nat.le_of_ble_eq_true rfl)) rfl rfl (by decide) in_X7 w_762 rfl (q := 44) rfl ?_
    exact e_ireturn C dX7_count_44 hret rfl
  · refine e_if (fun h2 => ?_) (fun h2 => ?_)
    · refine e_tabIn C (v := 1) (off := 44) (tgt := 45) dX7_count_1 (by rw [h2]; rfl) (by decide) rfl rfl ?_
      refine e_aload_n C dX7_count_45 rfl 0 rfl (q := 46) rfl ?_
      refine e_getf C (k := 56) (j := 5) (T := TX7) (N := 32) (v := .int (I 56 5)) dX7_count_46 (ltL hn (Nat.le_of_ble_eq_true rfl)) rfl rfl (by decide) in_X7 w_767 rfl (q := 49) rfl ?_
      exact e_ireturn C dX7_count_49 hret rfl
    · refine e_if (fun h3 => ?_) (fun h3 => ?_)
      · refine e_tabIn C (v := 2) (off := 49) (tgt := 50) dX7_count_1 (by rw [h3]; rfl) (by decide) rfl rfl ?_
        refine e_aload_n C dX7_count_50 rfl 0 rfl (q := 51) rfl ?_
        refine e_callVi C (l := l) (k := 56) (av := []) (st := []) hlau (x_X7_upSet (l := l) (ω := ω) hn (I := I)) dX7_count_51 w_863 w_865 w_30 w_67 w_866 md_X7_upSet (by decide) (by decide) rfl (ltL hn (Nat.le_of_ble_eq_true rfl)) rfl rfl (Nat.le_of_ble_eq_true rfl) (q := 54) rfl (fun v8 J7 => ?_)
        refine e_callSi C (l := l) (av := [.int v8]) (st := []) hlau (x_X7_onesOf (l := l) (ω := ω) (a0 := v8) hn (I := J7)) dX7_count_54 w_871 w_872 w_67 w_873 md_X7_onesOf (by decide) (by decide) rfl (Nat.le_of_ble_eq_true rfl) (q := 57) rfl (fun v10 J9 => ?_)
        exact e_ireturn C dX7_count_57 hret rfl
      · refine e_if (fun h4 => ?_) (fun h4 => ?_)
        · refine e_tabIn C (v := 3) (off := 57) (tgt := 58) dX7_count_1 (by rw [h4]; rfl) (by decide) rfl rfl ?_
          refine e_aload_n C dX7_count_58 rfl 0 rfl (q := 59) rfl ?_
          refine e_getf C (k := 56) (j := 10) (T := TX7) (N := 32) (v := .int (I 56 10)) dX7_count_59 (ltL hn (Nat.le_of_ble_eq_true rfl)) rfl rfl (by decide) in_X7 w_772 rfl (q := 62) rfl ?_
          exact e_ireturn C dX7_count_62 hret rfl
        · refine e_if (fun h5 => ?_) (fun h5 => ?_)
          · refine e_tabIn C (v := 4) (off := 62) (tgt := 63) dX7_count_1 (by rw [h5]; rfl) (by decide) rfl rfl ?_
            refine e_aload_n C dX7_count_63 rfl 0 rfl (q := 64) rfl ?_
            refine e_getf C (k := 56) (j := 11) (T := TX7) (N := 32) (v := .int (I 56 11)) dX7_count_64 (ltL hn (Nat.le_of_ble_eq_true rfl)) rfl rfl (by decide) in_X7 w_773 rfl (q := 67) rfl ?_
            exact e_ireturn C dX7_count_67 hret rfl
          · refine e_if (fun h6 => ?_) (fun h6 => ?_)
            · refine e_tabIn C (v := 5) (off := 67) (tgt := 68) dX7_count_1 (by rw [h6]; rfl) (by decide) rfl rfl ?_
              refine e_aload_n C dX7_count_68 rfl 0 rfl (q := 69) rfl ?_
              refine e_getf C (k := 56) (j := 7) (T := TX7) (N := 32) (v := .int (I 56 7)) dX7_count_69 (ltL hn (Nat.le_of_ble_eq_true rfl)) rfl rfl (by decide) in_X7 w_769 rfl (q := 72) rfl ?_
              exact e_ireturn C dX7_count_72 hret rfl
            · refine e_tabOut C (tgt := 73) dX7_count_1 (by have g0 := i32_ne h1; have g1 := i32_ne h2; have g2 := i32_ne h3; have g3 := i32_ne h4; have g4 := i32_ne h5; have g5 := i32_ne h6; have f0 : ((0 : Int32)).toInt = 0 := rfl; have f1 : ((1 : Int32)).toInt = 1 := rfl; have f2 : ((2 : Int32)).toInt = 2 := rfl; have f3 : ((3 : Int32)).toInt = 3 := rfl; have f4 : ((4 : Int32)).toInt = 4 := rfl; have f5 : ((5 : Int32)).toInt = 5 := rfl; omega) rfl ?_
              refine e_bipush C dX7_count_73 b8_m2 (q := 75) rfl ?_
              exact e_ireturn C dX7_count_75 hret rfl
set_option maxHeartbeats 4000000 in
set_option maxRecDepth 100000 in
theorem x_X7_isByte {l : Launch} {ω : Om} {a0 : Int32} (hn : 75 ≤ oN ω)  {I : Mem} : CTi l ω yX7_isByte cX7_isByte 1 (some .boolean) 2 [.int a0] (f_X7_isByte a0 I) I := by
  refine ct_i (by decide) (Nat.le_of_ble_eq_true rfl) ?_
  intro κ hlau hret C
  refine e_lv [0] (lv1 := [(0, .int a0)]) rfl ?_
  unfold f_X7_isByte
  refine e_iload_n C dX7_isByte_0 rfl 0 rfl (q := 1) rfl ?_
  refine e_iconst C dX7_isByte_1 ic_0 (q := 2) rfl ?_
  refine e_sipush C dX7_isByte_2 b16_255 (q := 5) rfl ?_
  refine e_callSi C (l := l) (av := [.int a0, .int (0 : Int32), .int (255 : Int32)]) (st := []) hlau (x_X7_in (l := l) (ω := ω) (a0 := a0) (a1 := (0 : Int32)) (a2 := (255 : Int32)) hn (I := I)) dX7_isByte_5 w_723 w_724 w_67 w_725 md_X7_in (by decide) (by decide) rfl (Nat.le_of_ble_eq_true rfl) (q := 8) rfl (fun v2 J1 => ?_)
  exact e_ireturn_t C dX7_isByte_8 hret rfl rfl
