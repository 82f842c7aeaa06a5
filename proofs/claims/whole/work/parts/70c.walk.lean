/-! WALKS, written by program (wip/gen) -/
set_option maxHeartbeats 4000000 in
set_option maxRecDepth 100000 in
theorem x_X6_told {l : Launch} {ω : Om} {a1 : Int32} {a2 : Int32} (hn : 56 ≤ oN ω)  {I : Mem} : CTi l ω yX6_told cX6_told 4 (some .int) 5 [.ref (oA ω 0), .int a1, .int a2] (f_X6_told a1 a2 I) I := by
  refine ct_i (by decide) (Nat.le_of_ble_eq_true rfl) ?_
  intro κ hlau hret C
  refine e_lv [0, 1, 2] (lv1 := [(0, .ref (oA ω 0)), (1, .int a1), (2, .int a2)]) rfl ?_
  unfold f_X6_told
  refine e_aload_n C dX6_told_0 rfl 0 rfl (q := 1) rfl ?_
  refine e_iload_n C dX6_told_1 rfl 1 rfl (q := 2) rfl ?_
  refine e_callVi C (l := l) (k := 0) (av := [.int a1]) (st := []) hlau (x_X6_isHat (l := l) (ω := ω) (a1 := a1) hn (I := I)) dX6_told_2 w_408 w_410 w_12 w_56 w_411 md_X6_isHat (by decide) (by decide) rfl (ltL hn (Nat.le_of_ble_eq_true rfl)) rfl rfl (Nat.le_of_ble_eq_true rfl) (q := 5) rfl (fun v2 J1 => ?_)
  refine e_ifne C (tgt := 11) (q := 8) dX6_told_5 rfl rfl ?_ ?_
  · refine e_aload_n C dX6_told_11 rfl 0 rfl (q := 12) rfl ?_
    refine e_getf C (k := 0) (j := 1) (T := TX6) (N := 10) (v := .ref (oA ω 2)) dX6_told_12 (ltL hn (Nat.le_of_ble_eq_true rfl)) rfl rfl (by decide) in_X6 w_347 rfl (q := 15) rfl ?_
    refine e_iload_n C dX6_told_15 rfl 2 rfl (q := 16) rfl ?_
    refine e_callVq C (l := l) (k := 2) (av := [.int a2]) (st := []) hlau (x_X2_rowOf (l := l) (ω := ω) (ρ := 0) (a1 := a2) hn (by decide) (I := J1)) dX6_told_16 w_440 w_441 w_442 w_57 w_443 md_X2_rowOf (by decide) (by decide) rfl (ltL hn (Nat.le_of_ble_eq_true rfl)) (cOb_Rg (ρ := 0) (by decide) _) rfl (Nat.le_of_ble_eq_true rfl) (q := 19) rfl (fun v4 J3 => ?_)
    refine e_om ?_ (fun k5 h6 => ?_)
    · refine e_astore_nN C (lv1 := [(3, .null), (0, .ref (oA ω 0)), (1, .int a1), (2, .int a2)]) dX6_told_19 rfl (Nat.le_of_ble_eq_true rfl) rfl (q := 20) rfl ?_
      refine e_aload_nN C dX6_told_20 rfl 0 rfl (q := 21) rfl ?_
      refine e_ifnullN C (tgt := 28) dX6_told_21 rfl ?_
      refine e_iload_n C dX6_told_28 rfl 3 rfl (q := 29) rfl ?_
      refine e_if (fun h7 => ?_) (fun h7 => ?_)
      · refine e_tabIn C (v := 4) (off := 35) (tgt := 64) dX6_told_29 (by rw [h7]; rfl) (by decide) rfl rfl ?_
        refine e_aload_n C dX6_told_64 rfl 1 rfl (q := 65) rfl ?_
        refine e_getf C (k := 0) (j := 1) (T := TX6) (N := 10) (v := .ref (oA ω 2)) dX6_told_65 (ltL hn (Nat.le_of_ble_eq_true rfl)) rfl rfl (by decide) in_X6 w_347 rfl (q := 68) rfl ?_
        refine e_getf C (k := 2) (j := 1) (T := TX2) (N := 11) (v := .ref (oA ω 3)) dX6_told_68 (ltL hn (Nat.le_of_ble_eq_true rfl)) (cOb_Rg (ρ := 0) (by decide) _) rfl (by decide) in_X2 w_90 rfl (q := 71) rfl ?_
        refine e_iload_n C dX6_told_71 rfl 2 rfl (q := 72) rfl ?_
        refine e_iald C (k := 3) (n := 6) dX6_told_72 (ltL hn (Nat.le_of_ble_eq_true rfl)) rfl (q := 73) rfl ?_
        exact e_ireturn C dX6_told_73 hret rfl
      · refine e_if (fun h8 => ?_) (fun h8 => ?_)
        · refine e_tabIn C (v := 5) (off := 45) (tgt := 74) dX6_told_29 (by rw [h8]; rfl) (by decide) rfl rfl ?_
          refine e_aload_n C dX6_told_74 rfl 1 rfl (q := 75) rfl ?_
          refine e_getf C (k := 0) (j := 1) (T := TX6) (N := 10) (v := .ref (oA ω 2)) dX6_told_75 (ltL hn (Nat.le_of_ble_eq_true rfl)) rfl rfl (by decide) in_X6 w_347 rfl (q := 78) rfl ?_
          refine e_getf C (k := 2) (j := 2) (T := TX2) (N := 11) (v := .ref (oA ω 4)) dX6_told_78 (ltL hn (Nat.le_of_ble_eq_true rfl)) (cOb_Rg (ρ := 0) (by decide) _) rfl (by decide) in_X2 w_93 rfl (q := 81) rfl ?_
          refine e_iload_n C dX6_told_81 rfl 2 rfl (q := 82) rfl ?_
          refine e_iald C (k := 4) (n := 6) dX6_told_82 (ltL hn (Nat.le_of_ble_eq_true rfl)) rfl (q := 83) rfl ?_
          exact e_ireturn C dX6_told_83 hret rfl
        · refine e_if (fun h9 => ?_) (fun h9 => ?_)
          · refine e_tabIn C (v := 6) (off := 55) (tgt := 84) dX6_told_29 (by rw [h9]; rfl) (by decide) rfl rfl ?_
            refine e_aload_n C dX6_told_84 rfl 1 rfl (q := 85) rfl ?_
            refine e_getf C (k := 0) (j := 1) (T := TX6) (N := 10) (v := .ref (oA ω 2)) dX6_told_85 (ltL hn (Nat.le_of_ble_eq_true rfl)) rfl rfl (by decide) in_X6 w_347 rfl (q := 88) rfl ?_
            refine e_iload_n C dX6_told_88 rfl 2 rfl (q := 89) rfl ?_
            refine e_callVi C (l := l) (k := 2) (av := [.int a1]) (st := []) hlau (x_X2_goes (l := l) (ω := ω) (ρ := 0) (a1 := a1) hn (by decide) (I := J3)) dX6_told_89 w_448 w_449 w_450 w_57 w_451 md_X2_goes (by decide) (by decide) rfl (ltL hn (Nat.le_of_ble_eq_true rfl)) (cOb_Rg (ρ := 0) (by decide) _) rfl (Nat.le_of_ble_eq_true rfl) (q := 92) rfl (fun v17 J16 => ?_)
            refine e_ifeq C (tgt := 99) (q := 95) dX6_told_92 rfl rfl ?_ ?_
            · refine e_iconst C dX6_told_99 ic_0 (q := 100) rfl ?_
              exact e_ireturn C dX6_told_100 hret rfl
            · refine e_iconst C dX6_told_95 ic_1 (q := 96) rfl ?_
              refine e_goto C (tgt := 100) dX6_told_96 rfl ?_
              exact e_ireturn C dX6_told_100 hret rfl
          · refine e_if (fun h10 => ?_) (fun h10 => ?_)
            · refine e_tabIn C (v := 7) (off := 72) (tgt := 101) dX6_told_29 (by rw [h10]; rfl) (by decide) rfl rfl ?_
              refine e_aload_n C dX6_told_101 rfl 1 rfl (q := 102) rfl ?_
              refine e_getf C (k := 0) (j := 1) (T := TX6) (N := 10) (v := .ref (oA ω 2)) dX6_told_102 (ltL hn (Nat.le_of_ble_eq_true rfl)) rfl rfl (by decide) in_X6 w_347 rfl (q := 105) rfl ?_
              refine e_iload_n C dX6_told_105 rfl 2 rfl (q := 106) rfl ?_
              refine e_callVi C (l := l) (k := 2) (av := [.int a1]) (st := []) hlau (x_X2_nearest (l := l) (ω := ω) (ρ := 0) (a1 := a1) hn (by decide) (I := J3)) dX6_told_106 w_456 w_457 w_458 w_57 w_459 md_X2_nearest (by decide) (by decide) rfl (ltL hn (Nat.le_of_ble_eq_true rfl)) (cOb_Rg (ρ := 0) (by decide) _) rfl (Nat.le_of_ble_eq_true rfl) (q := 109) rfl (fun v15 J14 => ?_)
              exact e_ireturn C dX6_told_109 hret rfl
            · refine e_if (fun h11 => ?_) (fun h11 => ?_)
              · refine e_tabIn C (v := 8) (off := 81) (tgt := 110) dX6_told_29 (by rw [h11]; rfl) (by decide) rfl rfl ?_
                refine e_sipush C dX6_told_110 b16_1000 (q := 113) rfl ?_
                refine e_aload_n C dX6_told_113 rfl 1 rfl (q := 114) rfl ?_
                refine e_getf C (k := 0) (j := 1) (T := TX6) (N := 10) (v := .ref (oA ω 2)) dX6_told_114 (ltL hn (Nat.le_of_ble_eq_true rfl)) rfl rfl (by decide) in_X6 w_347 rfl (q := 117) rfl ?_
                refine e_iload_n C dX6_told_117 rfl 2 rfl (q := 118) rfl ?_
                refine e_callVi C (l := l) (k := 2) (av := [.int a1]) (st := [.int (1000 : Int32)]) hlau (x_X2_soft (l := l) (ω := ω) (ρ := 0) (a1 := a1) hn (by decide) (I := J3)) dX6_told_118 w_467 w_468 w_469 w_57 w_470 md_X2_soft (by decide) (by decide) rfl (ltL hn (Nat.le_of_ble_eq_true rfl)) (cOb_Rg (ρ := 0) (by decide) _) rfl (Nat.le_of_ble_eq_true rfl) (q := 121) rfl (fun v13 J12 => ?_)
                refine e_iadd C dX6_told_121 (q := 122) rfl ?_
                exact e_ireturn C dX6_told_122 hret rfl
              · refine e_tabOut C (tgt := 123) dX6_told_29 (by have g0 := i32_ne h7; have g1 := i32_ne h8; have g2 := i32_ne h9; have g3 := i32_ne h10; have g4 := i32_ne h11; have f0 : ((4 : Int32)).toInt = 4 := rfl; have f1 : ((5 : Int32)).toInt = 5 := rfl; have f2 : ((6 : Int32)).toInt = 6 := rfl; have f3 : ((7 : Int32)).toInt = 7 := rfl; have f4 : ((8 : Int32)).toInt = 8 := rfl; omega) rfl ?_
                refine e_bipush C dX6_told_123 b8_m7 (q := 125) rfl ?_
                exact e_ireturn C dX6_told_125 hret rfl
    · refine e_astore_n C (lv1 := [(3, .ref (oA ω k5)), (0, .ref (oA ω 0)), (1, .int a1), (2, .int a2)]) dX6_told_19 rfl (Nat.le_of_ble_eq_true rfl) rfl (q := 20) rfl ?_
      refine e_aload_n C dX6_told_20 rfl 0 rfl (q := 21) rfl ?_
      refine e_ifnull C dX6_told_21 (q := 24) rfl ?_
      refine e_aload_n C dX6_told_24 rfl 0 rfl (q := 25) rfl ?_
      refine e_iload_n C dX6_told_25 rfl 2 rfl (q := 26) rfl ?_
      refine e_iald C (k := k5) (n := 6) dX6_told_26 (isArr_okA hn h6).1 ((isArr_okA hn h6).2 _) (q := 27) rfl ?_
      exact e_ireturn C dX6_told_27 hret rfl
  · refine e_bipush C dX6_told_8 b8_m5 (q := 10) rfl ?_
    exact e_ireturn C dX6_told_10 hret rfl
set_option maxHeartbeats 4000000 in
set_option maxRecDepth 100000 in
theorem x_X6_duel {l : Launch} {ω : Om} {a1 : Int32} {a2 : Int32} {a3 : Int32} (hn : 56 ≤ oN ω)  {I : Mem} : CTi l ω yX6_duel cX6_duel 4 (some .int) 5 [.ref (oA ω 0), .int a1, .int a2, .int a3] (f_X6_duel a1 a2 a3 I) I := by
  refine ct_i (by decide) (Nat.le_of_ble_eq_true rfl) ?_
  intro κ hlau hret C
  refine e_lv [0, 1, 2, 3] (lv1 := [(0, .ref (oA ω 0)), (1, .int a1), (2, .int a2), (3, .int a3)]) rfl ?_
  unfold f_X6_duel
  refine e_aload_n C dX6_duel_0 rfl 0 rfl (q := 1) rfl ?_
  refine e_iload_n C dX6_duel_1 rfl 1 rfl (q := 2) rfl ?_
  refine e_callVi C (l := l) (k := 0) (av := [.int a1]) (st := []) hlau (x_X6_isHat (l := l) (ω := ω) (a1 := a1) hn (I := I)) dX6_duel_2 w_408 w_410 w_12 w_56 w_411 md_X6_isHat (by decide) (by decide) rfl (ltL hn (Nat.le_of_ble_eq_true rfl)) rfl rfl (Nat.le_of_ble_eq_true rfl) (q := 5) rfl (fun v2 J1 => ?_)
  refine e_ifeq C (tgt := 21) (q := 8) dX6_duel_5 rfl rfl ?_ ?_
  · refine e_bipush C dX6_duel_21 b8_m5 (q := 23) rfl ?_
    exact e_ireturn C dX6_duel_23 hret rfl
  · refine e_aload_n C dX6_duel_8 rfl 0 rfl (q := 9) rfl ?_
    refine e_iload_n C dX6_duel_9 rfl 2 rfl (q := 10) rfl ?_
    refine e_callVi C (l := l) (k := 0) (av := [.int a2]) (st := []) hlau (x_X6_isHat (l := l) (ω := ω) (a1 := a2) hn (I := J1)) dX6_duel_10 w_408 w_410 w_12 w_56 w_411 md_X6_isHat (by decide) (by decide) rfl (ltL hn (Nat.le_of_ble_eq_true rfl)) rfl rfl (Nat.le_of_ble_eq_true rfl) (q := 13) rfl (fun v4 J3 => ?_)
    refine e_ifeq C (tgt := 21) (q := 16) dX6_duel_13 rfl rfl ?_ ?_
    · refine e_bipush C dX6_duel_21 b8_m5 (q := 23) rfl ?_
      exact e_ireturn C dX6_duel_23 hret rfl
    · refine e_iload_n C dX6_duel_16 rfl 1 rfl (q := 17) rfl ?_
      refine e_iload_n C dX6_duel_17 rfl 2 rfl (q := 18) rfl ?_
      refine e_icmpne C (tgt := 24) (q := 21) dX6_duel_18 rfl rfl ?_ ?_
      · refine e_iload_n C dX6_duel_24 rfl 3 rfl (q := 25) rfl ?_
        refine e_if (fun h5 => ?_) (fun h5 => ?_)
        · refine e_tabIn C (v := 0) (off := 31) (tgt := 56) dX6_duel_25 (by rw [h5]; rfl) (by decide) rfl rfl ?_
          refine e_aload_n C dX6_duel_56 rfl 0 rfl (q := 57) rfl ?_
          refine e_getf C (k := 0) (j := 1) (T := TX6) (N := 10) (v := .ref (oA ω 2)) dX6_duel_57 (ltL hn (Nat.le_of_ble_eq_true rfl)) rfl rfl (by decide) in_X6 w_347 rfl (q := 60) rfl ?_
          refine e_iload_n C dX6_duel_60 rfl 1 rfl (q := 61) rfl ?_
          refine e_iload_n C dX6_duel_61 rfl 2 rfl (q := 62) rfl ?_
          refine e_callVi C (l := l) (k := 2) (av := [.int a1, .int a2]) (st := []) hlau (x_X2_hits (l := l) (ω := ω) (ρ := 0) (a1 := a1) (a2 := a2) hn (by decide) (I := J3)) dX6_duel_62 w_478 w_479 w_480 w_57 w_481 md_X2_hits (by decide) (by decide) rfl (ltL hn (Nat.le_of_ble_eq_true rfl)) (cOb_Rg (ρ := 0) (by decide) _) rfl (Nat.le_of_ble_eq_true rfl) (q := 65) rfl (fun v18 J17 => ?_)
          exact e_ireturn C dX6_duel_65 hret rfl
        · refine e_if (fun h6 => ?_) (fun h6 => ?_)
          · refine e_tabIn C (v := 1) (off := 41) (tgt := 66) dX6_duel_25 (by rw [h6]; rfl) (by decide) rfl rfl ?_
            refine e_aload_n C dX6_duel_66 rfl 0 rfl (q := 67) rfl ?_
            refine e_getf C (k := 0) (j := 1) (T := TX6) (N := 10) (v := .ref (oA ω 2)) dX6_duel_67 (ltL hn (Nat.le_of_ble_eq_true rfl)) rfl rfl (by decide) in_X6 w_347 rfl (q := 70) rfl ?_
            refine e_iload_n C dX6_duel_70 rfl 1 rfl (q := 71) rfl ?_
            refine e_iload_n C dX6_duel_71 rfl 2 rfl (q := 72) rfl ?_
            refine e_callVi C (l := l) (k := 2) (av := [.int a1, .int a2]) (st := []) hlau (x_X2_hits (l := l) (ω := ω) (ρ := 0) (a1 := a1) (a2 := a2) hn (by decide) (I := J3)) dX6_duel_72 w_478 w_479 w_480 w_57 w_481 md_X2_hits (by decide) (by decide) rfl (ltL hn (Nat.le_of_ble_eq_true rfl)) (cOb_Rg (ρ := 0) (by decide) _) rfl (Nat.le_of_ble_eq_true rfl) (q := 75) rfl (fun v12 J11 => ?_)
            refine e_aload_n C dX6_duel_75 rfl 0 rfl (q := 76) rfl ?_
            refine e_getf C (k := 0) (j := 1) (T := TX6) (N := 10) (v := .ref (oA ω 2)) dX6_duel_76 (ltL hn (Nat.le_of_ble_eq_true rfl)) rfl rfl (by decide) in_X6 w_347 rfl (q := 79) rfl ?_
            refine e_iload_n C dX6_duel_79 rfl 2 rfl (q := 80) rfl ?_
            refine e_callVi C (l := l) (k := 2) (av := [.int a2]) (st := [.int v12]) hlau (x_X2_soft (l := l) (ω := ω) (ρ := 0) (a1 := a2) hn (by decide) (I := J11)) dX6_duel_80 w_467 w_468 w_469 w_57 w_470 md_X2_soft (by decide) (by decide) rfl (ltL hn (Nat.le_of_ble_eq_true rfl)) (cOb_Rg (ρ := 0) (by decide) _) rfl (Nat.le_of_ble_eq_true rfl) (q := 83) rfl (fun v14 J13 => ?_)
            refine e_callSi C (l := l) (av := [.int v12, .int v14]) (st := []) hlau (x_X2_blow (l := l) (ω := ω) (a0 := v12) (a1 := v14) hn (I := J13)) dX6_duel_83 w_485 w_486 w_57 w_487 md_X2_blow (by decide) (by decide) rfl (Nat.le_of_ble_eq_true rfl) (q := 86) rfl (fun v16 J15 => ?_)
            exact e_ireturn C dX6_duel_86 hret rfl
          · refine e_if (fun h7 => ?_) (fun h7 => ?_)
            · refine e_tabIn C (v := 2) (off := 62) (tgt := 87) dX6_duel_25 (by rw [h7]; rfl) (by decide) rfl rfl ?_
              refine e_aload_n C dX6_duel_87 rfl 0 rfl (q := 88) rfl ?_
              refine e_getf C (k := 0) (j := 1) (T := TX6) (N := 10) (v := .ref (oA ω 2)) dX6_duel_88 (ltL hn (Nat.le_of_ble_eq_true rfl)) rfl rfl (by decide) in_X6 w_347 rfl (q := 91) rfl ?_
              refine e_iload_n C dX6_duel_91 rfl 1 rfl (q := 92) rfl ?_
              refine e_iload_n C dX6_duel_92 rfl 2 rfl (q := 93) rfl ?_
              refine e_callVi C (l := l) (k := 2) (av := [.int a1, .int a2]) (st := []) hlau (x_X2_far (l := l) (ω := ω) (ρ := 0) (a1 := a1) (a2 := a2) hn (by decide) (I := J3)) dX6_duel_93 w_490 w_461 w_462 w_57 w_463 md_X2_far (by decide) (by decide) rfl (ltL hn (Nat.le_of_ble_eq_true rfl)) (cOb_Rg (ρ := 0) (by decide) _) rfl (Nat.le_of_ble_eq_true rfl) (q := 96) rfl (fun v10 J9 => ?_)
              exact e_ireturn C dX6_duel_96 hret rfl
            · refine e_if (fun h8 => ?_) (fun h8 => ?_)
              · refine e_tabIn C (v := 3) (off := 72) (tgt := 97) dX6_duel_25 (by rw [h8]; rfl) (by decide) rfl rfl ?_
                refine e_aload_n C dX6_duel_97 rfl 0 rfl (q := 98) rfl ?_
                refine e_getf C (k := 0) (j := 1) (T := TX6) (N := 10) (v := .ref (oA ω 2)) dX6_duel_98 (ltL hn (Nat.le_of_ble_eq_true rfl)) rfl rfl (by decide) in_X6 w_347 rfl (q := 101) rfl ?_
                refine e_getf C (k := 2) (j := 7) (T := TX2) (N := 11) (v := .ref (oA ω 9)) dX6_duel_101 (ltL hn (Nat.le_of_ble_eq_true rfl)) (cOb_Rg (ρ := 0) (by decide) _) rfl (by decide) in_X2 w_106 rfl (q := 104) rfl ?_
                refine e_iload_n C dX6_duel_104 rfl 1 rfl (q := 105) rfl ?_
                refine e_bipush C dX6_duel_105 b8_6 (q := 107) rfl ?_
                refine e_imul C dX6_duel_107 (q := 108) rfl ?_
                refine e_iload_n C dX6_duel_108 rfl 2 rfl (q := 109) rfl ?_
                refine e_iadd C dX6_duel_109 (q := 110) rfl ?_
                refine e_iald C (k := 9) (n := 36) dX6_duel_110 (ltL hn (Nat.le_of_ble_eq_true rfl)) rfl (q := 111) rfl ?_
                exact e_ireturn C dX6_duel_111 hret rfl
              · refine e_tabOut C (tgt := 112) dX6_duel_25 (by have g0 := i32_ne h5; have g1 := i32_ne h6; have g2 := i32_ne h7; have g3 := i32_ne h8; have f0 : ((0 : Int32)).toInt = 0 := rfl; have f1 : ((1 : Int32)).toInt = 1 := rfl; have f2 : ((2 : Int32)).toInt = 2 := rfl; have f3 : ((3 : Int32)).toInt = 3 := rfl; omega) rfl ?_
                refine e_bipush C dX6_duel_112 b8_m7 (q := 114) rfl ?_
                exact e_ireturn C dX6_duel_114 hret rfl
      · refine e_bipush C dX6_duel_21 b8_m5 (q := 23) rfl ?_
        exact e_ireturn C dX6_duel_23 hret rfl
set_option maxHeartbeats 4000000 in
set_option maxRecDepth 100000 in
theorem x_X6_round {l : Launch} {ω : Om}  (hn : 56 ≤ oN ω)  {I : Mem} : CTi l ω yX6_round cX6_round 1 (some .int) 6 [.ref (oA ω 0)] (f_X6_round  I) I := by
  refine ct_i (by decide) (Nat.le_of_ble_eq_true rfl) ?_
  intro κ hlau hret C
  refine e_lv [0] (lv1 := [(0, .ref (oA ω 0))]) rfl ?_
  unfold f_X6_round
  refine e_aload_n C dX6_round_0 rfl 0 rfl (q := 1) rfl ?_
  refine e_getf C (k := 0) (j := 1) (T := TX6) (N := 10) (v := .ref (oA ω 2)) dX6_round_1 (ltL hn (Nat.le_of_ble_eq_true rfl)) rfl rfl (by decide) in_X6 w_347 rfl (q := 4) rfl ?_
  refine e_getf C (k := 2) (j := 9) (T := TX2) (N := 11) (v := .int (I 2 9)) dX6_round_4 (ltL hn (Nat.le_of_ble_eq_true rfl)) (cOb_Rg (ρ := 0) (by decide) _) rfl (by decide) in_X2 w_109 rfl (q := 7) rfl ?_
  refine e_sipush C dX6_round_7 b16_999 (q := 10) rfl ?_
  refine e_icmplt C (tgt := 18) (q := 13) dX6_round_10 rfl rfl ?_ ?_
  · refine e_aload_n C dX6_round_18 rfl 0 rfl (q := 19) rfl ?_
    refine e_getf C (k := 0) (j := 1) (T := TX6) (N := 10) (v := .ref (oA ω 2)) dX6_round_19 (ltL hn (Nat.le_of_ble_eq_true rfl)) rfl rfl (by decide) in_X6 w_347 rfl (q := 22) rfl ?_
    refine e_callVi C (l := l) (k := 2) (av := []) (st := []) hlau (x_X2_play (l := l) (ω := ω) (ρ := 0) hn (by decide) (I := I)) dX6_round_22 w_495 w_496 w_497 w_57 w_498 md_X2_play (by decide) (by decide) rfl (ltL hn (Nat.le_of_ble_eq_true rfl)) (cOb_Rg (ρ := 0) (by decide) _) rfl (Nat.le_of_ble_eq_true rfl) (q := 25) rfl (fun v2 J1 => ?_)
    exact e_ireturn C dX6_round_25 hret rfl
  · refine e_bipush C dX6_round_13 b8_m3 (q := 15) rfl ?_
    refine e_goto C (tgt := 25) dX6_round_15 rfl ?_
    exact e_ireturn C dX6_round_25 hret rfl
set_option maxHeartbeats 4000000 in
set_option maxRecDepth 100000 in
theorem x_X6_bell {l : Launch} {ω : Om} {a1 : Int32} (hn : 56 ≤ oN ω)  {I : Mem} : CTi l ω yX6_bell cX6_bell 3 (some .int) 2 [.ref (oA ω 0), .int a1] (f_X6_bell a1 I) I := by
  refine ct_i (by decide) (Nat.le_of_ble_eq_true rfl) ?_
  intro κ hlau hret C
  refine e_lv [0, 1] (lv1 := [(0, .ref (oA ω 0)), (1, .int a1)]) rfl ?_
  unfold f_X6_bell
  refine e_iload_n C dX6_bell_0 rfl 1 rfl (q := 1) rfl ?_
  refine e_iconst C dX6_bell_1 ic_0 (q := 2) rfl ?_
  refine e_sipush C dX6_bell_2 b16_999 (q := 5) rfl ?_
  refine e_callSi C (l := l) (av := [.int a1, .int (0 : Int32), .int (999 : Int32)]) (st := []) hlau (x_X6_within (l := l) (ω := ω) (a0 := a1) (a1 := (0 : Int32)) (a2 := (999 : Int32)) hn (I := I)) dX6_bell_5 w_390 w_391 w_56 w_392 md_X6_within (by decide) (by decide) rfl (Nat.le_of_ble_eq_true rfl) (q := 8) rfl (fun v2 J1 => ?_)
  refine e_ifne C (tgt := 14) (q := 11) dX6_bell_8 rfl rfl ?_ ?_
  · refine e_aload_n C dX6_bell_14 rfl 0 rfl (q := 15) rfl ?_
    refine e_getf C (k := 0) (j := 1) (T := TX6) (N := 10) (v := .ref (oA ω 2)) dX6_bell_15 (ltL hn (Nat.le_of_ble_eq_true rfl)) rfl rfl (by decide) in_X6 w_347 rfl (q := 18) rfl ?_
    refine e_getf C (k := 2) (j := 9) (T := TX2) (N := 11) (v := .int (J1 2 9)) dX6_bell_18 (ltL hn (Nat.le_of_ble_eq_true rfl)) (cOb_Rg (ρ := 0) (by decide) _) rfl (by decide) in_X2 w_109 rfl (q := 21) rfl ?_
    refine e_nmi (fun v3 => ?_)
    refine e_istore_n C (lv1 := [(2, .int v3), (0, .ref (oA ω 0)), (1, .int a1)]) dX6_bell_21 rfl (Nat.le_of_ble_eq_true rfl) rfl (q := 22) rfl ?_
    refine e_aload_n C dX6_bell_22 rfl 1 rfl (q := 23) rfl ?_
    refine e_getf C (k := 0) (j := 1) (T := TX6) (N := 10) (v := .ref (oA ω 2)) dX6_bell_23 (ltL hn (Nat.le_of_ble_eq_true rfl)) rfl rfl (by decide) in_X6 w_347 rfl (q := 26) rfl ?_
    refine e_iload_n C dX6_bell_26 rfl 2 rfl (q := 27) rfl ?_
    refine e_putf C (k := 2) (j := 9) (T := TX2) (N := 11) dX6_bell_27 (ltL hn (Nat.le_of_ble_eq_true rfl)) (cOb_Rg (ρ := 0) (by decide) _) rfl (by decide) in_X2 w_109 tyX2_ok nmX2 rfl rfl rfl (show 9 < 11 by decide) (set_Rg_9_ (ρ := 0) (by decide) _) (q := 30) rfl ?_
    refine e_nmM (fun J4 => ?_)
    refine e_iload_n C dX6_bell_30 rfl 0 rfl (q := 31) rfl ?_
    exact e_ireturn C dX6_bell_31 hret rfl
  · refine e_bipush C dX6_bell_11 b8_m2 (q := 13) rfl ?_
    exact e_ireturn C dX6_bell_13 hret rfl
set_option maxHeartbeats 4000000 in
set_option maxRecDepth 100000 in
theorem x_X6_imagine {l : Launch} {ω : Om}  (hn : 56 ≤ oN ω)  {I : Mem} : CTv l ω yX6_imagine cX6_imagine 1 none 2 [.ref (oA ω 0)] (f_X6_imagine  I) I := by
  refine ct_v (by decide) (Nat.le_of_ble_eq_true rfl) ?_
  intro κ hlau hret C
  refine e_lv [0] (lv1 := [(0, .ref (oA ω 0))]) rfl ?_
  unfold f_X6_imagine
  refine e_aload_n C dX6_imagine_0 rfl 0 rfl (q := 1) rfl ?_
  refine e_getf C (k := 0) (j := 2) (T := TX6) (N := 10) (v := .ref (oA ω 10)) dX6_imagine_1 (ltL hn (Nat.le_of_ble_eq_true rfl)) rfl rfl (by decide) in_X6 w_348 rfl (q := 4) rfl ?_
  refine e_aload_n C dX6_imagine_4 rfl 0 rfl (q := 5) rfl ?_
  refine e_getf C (k := 0) (j := 1) (T := TX6) (N := 10) (v := .ref (oA ω 2)) dX6_imagine_5 (ltL hn (Nat.le_of_ble_eq_true rfl)) rfl rfl (by decide) in_X6 w_347 rfl (q := 8) rfl ?_
  refine e_callVv C (l := l) (k := 10) (av := [.ref (oA ω 2)]) (st := []) hlau (x_X2_become (l := l) (ω := ω) (ρ := 1) (r1 := 0) hn (by decide) (by decide) (I := I)) dX6_imagine_8 w_524 w_525 w_526 w_57 w_527 md_X2_become (by decide) (by decide) rfl (ltL hn (Nat.le_of_ble_eq_true rfl)) (cOb_Rg (ρ := 1) (by decide) _) rfl (Nat.le_of_ble_eq_true rfl) (q := 11) rfl (fun _ J1 => ?_)
  exact e_vreturn C dX6_imagine_11 hret
set_option maxHeartbeats 4000000 in
set_option maxRecDepth 100000 in
theorem xb_X6_run_b82 {l : Launch} {κ : Kx} {ω : Om} {a1 : Int32} {a2 : Int32} (C : CX κ ω cX6_run 8 6 yX6_run.cls) (hlau : κ.2.1 = l) (hret : κ.2.2.2.2.2.2.2.2.1.sig.returnType = (some .int)) (hn : 56 ≤ oN ω)  : ∀ (n : Nat) (x7 : Int32) (x4 : Int32) (x3 : Int32) (I : Mem), EE κ ω 8 (Gi κ ω) (f_X6_run_b82 a1 a2 n x7 x4 x3 I) I 82 [(7, .int x7), (4, .int x4), (3, .int x3), (0, .ref (oA ω 0)), (1, .int a1), (2, .int a2)] [] := by
  intro n
  induction n with
  | zero => intro x7 x4 x3 I; exact e_none
  | succ n ih =>
    intro x7 x4 x3 I
    rw [f_X6_run_b82]
    refine e_iload C dX6_run_82 0 rfl (q := 84) rfl ?_
    refine e_iload_n C dX6_run_84 rfl 4 rfl (q := 85) rfl ?_
    refine e_icmpge C (tgt := 102) (q := 88) dX6_run_85 rfl rfl ?_ ?_
    · refine e_iload_n C dX6_run_102 rfl 2 rfl (q := 103) rfl ?_
      refine e_if (fun h12 => ?_) (fun h12 => ?_)
      · refine e_tabIn C (v := 1) (off := 25) (tgt := 128) dX6_run_103 (by rw [h12]; rfl) (by decide) rfl rfl ?_
        refine e_aload_n C dX6_run_128 rfl 3 rfl (q := 129) rfl ?_
        refine e_getf C (k := 0) (j := 2) (T := TX6) (N := 10) (v := .ref (oA ω 10)) dX6_run_129 (ltL hn (Nat.le_of_ble_eq_true rfl)) rfl rfl (by decide) in_X6 w_348 rfl (q := 132) rfl ?_
        refine e_getf C (k := 10) (j := 3) (T := TX2) (N := 11) (v := .ref (oA ω 13)) dX6_run_132 (ltL hn (Nat.le_of_ble_eq_true rfl)) (cOb_Rg (ρ := 1) (by decide) _) rfl (by decide) in_X2 w_95 rfl (q := 135) rfl ?_
        refine e_iload C dX6_run_135 1 rfl (q := 137) rfl ?_
        refine e_iald C (k := 13) (n := 6) dX6_run_137 (ltL hn (Nat.le_of_ble_eq_true rfl)) rfl (q := 138) rfl ?_
        exact e_ireturn C dX6_run_138 hret rfl
      · refine e_if (fun h13 => ?_) (fun h13 => ?_)
        · refine e_tabIn C (v := 2) (off := 36) (tgt := 139) dX6_run_103 (by rw [h13]; rfl) (by decide) rfl rfl ?_
          refine e_aload_n C dX6_run_139 rfl 3 rfl (q := 140) rfl ?_
          refine e_getf C (k := 0) (j := 2) (T := TX6) (N := 10) (v := .ref (oA ω 10)) dX6_run_140 (ltL hn (Nat.le_of_ble_eq_true rfl)) rfl rfl (by decide) in_X6 w_348 rfl (q := 143) rfl ?_
          refine e_getf C (k := 10) (j := 4) (T := TX2) (N := 11) (v := .ref (oA ω 14)) dX6_run_143 (ltL hn (Nat.le_of_ble_eq_true rfl)) (cOb_Rg (ρ := 1) (by decide) _) rfl (by decide) in_X2 w_98 rfl (q := 146) rfl ?_
          refine e_iload C dX6_run_146 1 rfl (q := 148) rfl ?_
          refine e_iald C (k := 14) (n := 6) dX6_run_148 (ltL hn (Nat.le_of_ble_eq_true rfl)) rfl (q := 149) rfl ?_
          exact e_ireturn C dX6_run_149 hret rfl
        · refine e_if (fun h14 => ?_) (fun h14 => ?_)
          · refine e_tabIn C (v := 3) (off := 47) (tgt := 150) dX6_run_103 (by rw [h14]; rfl) (by decide) rfl rfl ?_
            refine e_aload_n C dX6_run_150 rfl 3 rfl (q := 151) rfl ?_
            refine e_getf C (k := 0) (j := 2) (T := TX6) (N := 10) (v := .ref (oA ω 10)) dX6_run_151 (ltL hn (Nat.le_of_ble_eq_true rfl)) rfl rfl (by decide) in_X6 w_348 rfl (q := 154) rfl ?_
            refine e_getf C (k := 10) (j := 6) (T := TX2) (N := 11) (v := .ref (oA ω 16)) dX6_run_154 (ltL hn (Nat.le_of_ble_eq_true rfl)) (cOb_Rg (ρ := 1) (by decide) _) rfl (by decide) in_X2 w_104 rfl (q := 157) rfl ?_
            refine e_iload C dX6_run_157 1 rfl (q := 159) rfl ?_
            refine e_iald C (k := 16) (n := 6) dX6_run_159 (ltL hn (Nat.le_of_ble_eq_true rfl)) rfl (q := 160) rfl ?_
            exact e_ireturn C dX6_run_160 hret rfl
          · refine e_tabOut C (tgt := 161) dX6_run_103 (by have g0 := i32_ne h12; have g1 := i32_ne h13; have g2 := i32_ne h14; have f0 : ((1 : Int32)).toInt = 1 := rfl; have f1 : ((2 : Int32)).toInt = 2 := rfl; have f2 : ((3 : Int32)).toInt = 3 := rfl; omega) rfl ?_
            refine e_iload_n C dX6_run_161 rfl 5 rfl (q := 162) rfl ?_
            refine e_ifne C (tgt := 175) (q := 165) dX6_run_162 rfl rfl ?_ ?_
            · refine e_aload_n C dX6_run_175 rfl 3 rfl (q := 176) rfl ?_
              refine e_getf C (k := 0) (j := 2) (T := TX6) (N := 10) (v := .ref (oA ω 10)) dX6_run_176 (ltL hn (Nat.le_of_ble_eq_true rfl)) rfl rfl (by decide) in_X6 w_348 rfl (q := 179) rfl ?_
              refine e_callVi C (l := l) (k := 10) (av := []) (st := []) hlau (x_X2_tallySum (l := l) (ω := ω) (ρ := 1) hn (by decide) (I := I)) dX6_run_179 w_535 w_536 w_537 w_57 w_538 md_X2_tallySum (by decide) (by decide) rfl (ltL hn (Nat.le_of_ble_eq_true rfl)) (cOb_Rg (ρ := 1) (by decide) _) rfl (Nat.le_of_ble_eq_true rfl) (q := 182) rfl (fun v9 J8 => ?_)
              exact e_ireturn C dX6_run_182 hret rfl
            · refine e_aload_n C dX6_run_165 rfl 3 rfl (q := 166) rfl ?_
              refine e_getf C (k := 0) (j := 2) (T := TX6) (N := 10) (v := .ref (oA ω 10)) dX6_run_166 (ltL hn (Nat.le_of_ble_eq_true rfl)) rfl rfl (by decide) in_X6 w_348 rfl (q := 169) rfl ?_
              refine e_callVi C (l := l) (k := 10) (av := []) (st := []) hlau (x_X2_upBits (l := l) (ω := ω) (ρ := 1) hn (by decide) (I := I)) dX6_run_169 w_531 w_532 w_533 w_57 w_534 md_X2_upBits (by decide) (by decide) rfl (ltL hn (Nat.le_of_ble_eq_true rfl)) (cOb_Rg (ρ := 1) (by decide) _) rfl (Nat.le_of_ble_eq_true rfl) (q := 172) rfl (fun v11 J10 => ?_)
              refine e_goto C (tgt := 182) dX6_run_172 rfl ?_
              exact e_ireturn C dX6_run_182 hret rfl
    · refine e_aload_n C dX6_run_88 rfl 3 rfl (q := 89) rfl ?_
      refine e_getf C (k := 0) (j := 2) (T := TX6) (N := 10) (v := .ref (oA ω 10)) dX6_run_89 (ltL hn (Nat.le_of_ble_eq_true rfl)) rfl rfl (by decide) in_X6 w_348 rfl (q := 92) rfl ?_
      refine e_callVi C (l := l) (k := 10) (av := []) (st := []) hlau (x_X2_play (l := l) (ω := ω) (ρ := 1) hn (by decide) (I := I)) dX6_run_92 w_495 w_496 w_497 w_57 w_498 md_X2_play (by decide) (by decide) rfl (ltL hn (Nat.le_of_ble_eq_true rfl)) (cOb_Rg (ρ := 1) (by decide) _) rfl (Nat.le_of_ble_eq_true rfl) (q := 95) rfl (fun v16 J15 => ?_)
      refine e_pop C dX6_run_95 rfl (q := 96) rfl ?_
      refine e_iinc C (v := x7 + (1 : Int32)) (lv1 := [(7, .int (x7 + (1 : Int32))), (4, .int x4), (3, .int x3), (0, .ref (oA ω 0)), (1, .int a1), (2, .int a2)]) dX6_run_96 0 rfl (Nat.le_of_ble_eq_true rfl) (by rw [ic_1]) rfl (q := 99) rfl ?_
      refine e_goto C (tgt := 82) dX6_run_99 rfl ?_
      exact ih (x7 + (1 : Int32)) x4 x3 _
set_option maxHeartbeats 4000000 in
set_option maxRecDepth 100000 in
theorem xb_X6_run_b75 {l : Launch} {κ : Kx} {ω : Om} {a1 : Int32} {a2 : Int32} (C : CX κ ω cX6_run 8 6 yX6_run.cls) (hlau : κ.2.1 = l) (hret : κ.2.2.2.2.2.2.2.2.1.sig.returnType = (some .int)) (hn : 56 ≤ oN ω)  : ∀ (x4 : Int32) (x3 : Int32) (I : Mem), EE κ ω 8 (Gi κ ω) (f_X6_run_b75 a1 a2 x4 x3 I) I 75 [(4, .int x4), (3, .int x3), (0, .ref (oA ω 0)), (1, .int a1), (2, .int a2)] [] := by
  intro x4 x3 I
  unfold f_X6_run_b75
  refine e_aload_n C dX6_run_75 rfl 2 rfl (q := 76) rfl ?_
  refine e_callVv C (l := l) (k := 0) (av := []) (st := []) hlau (x_X6_imagine (l := l) (ω := ω) hn (I := I)) dX6_run_76 w_520 w_522 w_15 w_56 w_523 md_X6_imagine (by decide) (by decide) rfl (ltL hn (Nat.le_of_ble_eq_true rfl)) rfl rfl (Nat.le_of_ble_eq_true rfl) (q := 79) rfl (fun _ J7 => ?_)
  refine e_iconst C dX6_run_79 ic_0 (q := 80) rfl ?_
  refine e_istore C (lv1 := [(7, .int (0 : Int32)), (4, .int x4), (3, .int x3), (0, .ref (oA ω 0)), (1, .int a1), (2, .int a2)]) dX6_run_80 (Nat.le_of_ble_eq_true rfl) rfl (q := 82) rfl ?_
  exact xb_X6_run_b82 C hlau hret hn FU (0 : Int32) x4 x3 _
set_option maxHeartbeats 4000000 in
set_option maxRecDepth 100000 in
theorem xb_X6_run_b50 {l : Launch} {κ : Kx} {ω : Om} {a1 : Int32} {a2 : Int32} (C : CX κ ω cX6_run 8 6 yX6_run.cls) (hlau : κ.2.1 = l) (hret : κ.2.2.2.2.2.2.2.2.1.sig.returnType = (some .int)) (hn : 56 ≤ oN ω)  : ∀ (x5 : Int32) (x4 : Int32) (x3 : Int32) (s0 : Int32) (I : Mem), EE κ ω 8 (Gi κ ω) (f_X6_run_b50 a1 a2 x5 x4 x3 s0 I) I 50 [(5, .int x5), (4, .int x4), (3, .int x3), (0, .ref (oA ω 0)), (1, .int a1), (2, .int a2)] [.int s0] := by
  intro x5 x4 x3 s0 I
  unfold f_X6_run_b50
  refine e_istore C (lv1 := [(6, .int s0), (5, .int x5), (4, .int x4), (3, .int x3), (0, .ref (oA ω 0)), (1, .int a1), (2, .int a2)]) dX6_run_50 (Nat.le_of_ble_eq_true rfl) rfl (q := 52) rfl ?_
  refine e_iload_n C dX6_run_52 rfl 5 rfl (q := 53) rfl ?_
  refine e_iconst C dX6_run_53 ic_0 (q := 54) rfl ?_
  refine e_bipush C dX6_run_54 b8_60 (q := 56) rfl ?_
  refine e_callSi C (l := l) (av := [.int a1, .int (0 : Int32), .int (60 : Int32)]) (st := []) hlau (x_X6_within (l := l) (ω := ω) (a0 := a1) (a1 := (0 : Int32)) (a2 := (60 : Int32)) hn (I := I)) dX6_run_56 w_390 w_391 w_56 w_392 md_X6_within (by decide) (by decide) rfl (Nat.le_of_ble_eq_true rfl) (q := 59) rfl (fun v6 J5 => ?_)
  refine e_ifeq C (tgt := 72) (q := 62) dX6_run_59 rfl rfl ?_ ?_
  · refine e_bipush C dX6_run_72 b8_m2 (q := 74) rfl ?_
    exact e_ireturn C dX6_run_74 hret rfl
  · refine e_iload C dX6_run_62 1 rfl (q := 64) rfl ?_
    refine e_ifne C (tgt := 75) (q := 67) dX6_run_64 rfl rfl ?_ ?_
    · exact e_lv [2, 3, 4, 5, 6] (lv1 := [(4, .int x4), (3, .int x3), (0, .ref (oA ω 0)), (1, .int a1), (2, .int a2)]) rfl (xb_X6_run_b75 C hlau hret hn x4 x3 _)
    · refine e_iload C dX6_run_67 0 rfl (q := 69) rfl ?_
      refine e_ifne C (tgt := 75) (q := 72) dX6_run_69 rfl rfl ?_ ?_
      · exact e_lv [2, 3, 4, 5, 6] (lv1 := [(4, .int x4), (3, .int x3), (0, .ref (oA ω 0)), (1, .int a1), (2, .int a2)]) rfl (xb_X6_run_b75 C hlau hret hn x4 x3 _)
      · refine e_bipush C dX6_run_72 b8_m2 (q := 74) rfl ?_
        exact e_ireturn C dX6_run_74 hret rfl
set_option maxHeartbeats 4000000 in
set_option maxRecDepth 100000 in
theorem xb_X6_run_b49 {l : Launch} {κ : Kx} {ω : Om} {a1 : Int32} {a2 : Int32} (C : CX κ ω cX6_run 8 6 yX6_run.cls) (hlau : κ.2.1 = l) (hret : κ.2.2.2.2.2.2.2.2.1.sig.returnType = (some .int)) (hn : 56 ≤ oN ω)  : ∀ (x5 : Int32) (x4 : Int32) (x3 : Int32) (I : Mem), EE κ ω 8 (Gi κ ω) (f_X6_run_b49 a1 a2 x5 x4 x3 I) I 49 [(5, .int x5), (4, .int x4), (3, .int x3), (0, .ref (oA ω 0)), (1, .int a1), (2, .int a2)] [] := by
  intro x5 x4 x3 I
  unfold f_X6_run_b49
  refine e_iconst C dX6_run_49 ic_0 (q := 50) rfl ?_
  exact xb_X6_run_b50 C hlau hret hn x5 x4 x3 (0 : Int32) _
set_option maxHeartbeats 4000000 in
set_option maxRecDepth 100000 in
theorem xb_X6_run_b25 {l : Launch} {κ : Kx} {ω : Om} {a1 : Int32} {a2 : Int32} (C : CX κ ω cX6_run 8 6 yX6_run.cls) (hlau : κ.2.1 = l) (hret : κ.2.2.2.2.2.2.2.2.1.sig.returnType = (some .int)) (hn : 56 ≤ oN ω)  : ∀ (x4 : Int32) (x3 : Int32) (s0 : Int32) (I : Mem), EE κ ω 8 (Gi κ ω) (f_X6_run_b25 a1 a2 x4 x3 s0 I) I 25 [(4, .int x4), (3, .int x3), (0, .ref (oA ω 0)), (1, .int a1), (2, .int a2)] [.int s0] := by
  intro x4 x3 s0 I
  unfold f_X6_run_b25
  refine e_istore C (lv1 := [(5, .int s0), (4, .int x4), (3, .int x3), (0, .ref (oA ω 0)), (1, .int a1), (2, .int a2)]) dX6_run_25 (Nat.le_of_ble_eq_true rfl) rfl (q := 27) rfl ?_
  refine e_iload_n C dX6_run_27 rfl 2 rfl (q := 28) rfl ?_
  refine e_iconst C dX6_run_28 ic_1 (q := 29) rfl ?_
  refine e_iconst C dX6_run_29 ic_3 (q := 30) rfl ?_
  refine e_callSi C (l := l) (av := [.int x3, .int (1 : Int32), .int (3 : Int32)]) (st := []) hlau (x_X6_within (l := l) (ω := ω) (a0 := x3) (a1 := (1 : Int32)) (a2 := (3 : Int32)) hn (I := I)) dX6_run_30 w_390 w_391 w_56 w_392 md_X6_within (by decide) (by decide) rfl (Nat.le_of_ble_eq_true rfl) (q := 33) rfl (fun v4 J3 => ?_)
  refine e_ifeq C (tgt := 49) (q := 36) dX6_run_33 rfl rfl ?_ ?_
  · exact xb_X6_run_b49 C hlau hret hn s0 x4 x3 _
  · refine e_aload_n C dX6_run_36 rfl 3 rfl (q := 37) rfl ?_
    refine e_iload C dX6_run_37 1 rfl (q := 39) rfl ?_
    refine e_callVi C (l := l) (k := 0) (av := [.int x4]) (st := []) hlau (x_X6_isHat (l := l) (ω := ω) (a1 := x4) hn (I := J3)) dX6_run_39 w_408 w_410 w_12 w_56 w_411 md_X6_isHat (by decide) (by decide) rfl (ltL hn (Nat.le_of_ble_eq_true rfl)) rfl rfl (Nat.le_of_ble_eq_true rfl) (q := 42) rfl (fun v18 J17 => ?_)
    refine e_ifeq C (tgt := 49) (q := 45) dX6_run_42 rfl rfl ?_ ?_
    · exact xb_X6_run_b49 C hlau hret hn s0 x4 x3 _
    · refine e_iconst C dX6_run_45 ic_1 (q := 46) rfl ?_
      refine e_goto C (tgt := 50) dX6_run_46 rfl ?_
      exact xb_X6_run_b50 C hlau hret hn s0 x4 x3 (1 : Int32) _
set_option maxHeartbeats 4000000 in
set_option maxRecDepth 100000 in
theorem xb_X6_run_b20 {l : Launch} {κ : Kx} {ω : Om} {a1 : Int32} {a2 : Int32} (C : CX κ ω cX6_run 8 6 yX6_run.cls) (hlau : κ.2.1 = l) (hret : κ.2.2.2.2.2.2.2.2.1.sig.returnType = (some .int)) (hn : 56 ≤ oN ω)  : ∀ (x4 : Int32) (x3 : Int32) (I : Mem), EE κ ω 8 (Gi κ ω) (f_X6_run_b20 a1 a2 x4 x3 I) I 20 [(4, .int x4), (3, .int x3), (0, .ref (oA ω 0)), (1, .int a1), (2, .int a2)] [] := by
  intro x4 x3 I
  unfold f_X6_run_b20
  refine e_iconst C dX6_run_20 ic_1 (q := 21) rfl ?_
  refine e_goto C (tgt := 25) dX6_run_21 rfl ?_
  exact xb_X6_run_b25 C hlau hret hn x4 x3 (1 : Int32) _
set_option maxHeartbeats 4000000 in
set_option maxRecDepth 100000 in
theorem x_X6_run {l : Launch} {ω : Om} {a1 : Int32} {a2 : Int32} (hn : 56 ≤ oN ω)  {I : Mem} : CTi l ω yX6_run cX6_run 8 (some .int) 6 [.ref (oA ω 0), .int a1, .int a2] (f_X6_run a1 a2 I) I := by
  refine ct_i (by decide) (Nat.le_of_ble_eq_true rfl) ?_
  intro κ hlau hret C
  refine e_lv [0, 1, 2] (lv1 := [(0, .ref (oA ω 0)), (1, .int a1), (2, .int a2)]) rfl ?_
  unfold f_X6_run
  refine e_iload_n C dX6_run_0 rfl 2 rfl (q := 1) rfl ?_
  refine e_bipush C dX6_run_1 b8_10 (q := 3) rfl ?_
  refine e_idiv C dX6_run_3 (by decide) (q := 4) rfl ?_
  refine e_nmi (fun v1 => ?_)
  refine e_istore_n C (lv1 := [(3, .int v1), (0, .ref (oA ω 0)), (1, .int a1), (2, .int a2)]) dX6_run_4 rfl (Nat.le_of_ble_eq_true rfl) rfl (q := 5) rfl ?_
  refine e_iload_n C dX6_run_5 rfl 3 rfl (q := 6) rfl ?_
  refine e_bipush C dX6_run_6 b8_10 (q := 8) rfl ?_
  refine e_irem C dX6_run_8 (by decide) (q := 9) rfl ?_
  refine e_nmi (fun v2 => ?_)
  refine e_istore C (lv1 := [(4, .int v2), (3, .int v1), (0, .ref (oA ω 0)), (1, .int a1), (2, .int a2)]) dX6_run_9 (Nat.le_of_ble_eq_true rfl) rfl (q := 11) rfl ?_
  refine e_iload_n C dX6_run_11 rfl 4 rfl (q := 12) rfl ?_
  refine e_ifeq C (tgt := 20) (q := 15) dX6_run_12 rfl rfl ?_ ?_
  · exact xb_X6_run_b20 C hlau hret hn v2 v1 _
  · refine e_iload_n C dX6_run_15 rfl 4 rfl (q := 16) rfl ?_
    refine e_iconst C dX6_run_16 ic_1 (q := 17) rfl ?_
    refine e_icmpne C (tgt := 24) (q := 20) dX6_run_17 rfl rfl ?_ ?_
    · refine e_iconst C dX6_run_24 ic_0 (q := 25) rfl ?_
      exact xb_X6_run_b25 C hlau hret hn v2 v1 (0 : Int32) _
    · exact xb_X6_run_b20 C hlau hret hn v2 v1 _
set_option maxHeartbeats 4000000 in
set_option maxRecDepth 100000 in
theorem xb_X6_when_b63 {l : Launch} {κ : Kx} {ω : Om} {a1 : Int32} (C : CX κ ω cX6_when 3 6 yX6_when.cls) (hlau : κ.2.1 = l) (hret : κ.2.2.2.2.2.2.2.2.1.sig.returnType = (some .int)) (hn : 56 ≤ oN ω)  {K23 : Int32 → Mem → Option (Int32 × Mem)} (hK23 : ∀ (x2 : Int32) (J : Mem), EE κ ω 3 (Gi κ ω) (K23 x2 J) J 23 [(2, .int x2), (0, .ref (oA ω 0)), (1, .int a1)] []) : ∀ (x2 : Int32) (I : Mem), EE κ ω 3 (Gi κ ω) (f_X6_when_b63 a1 K23 x2 I) I 63 [(2, .int x2), (0, .ref (oA ω 0)), (1, .int a1)] [] := by
  intro x2 I
  unfold f_X6_when_b63
  refine e_aload_n C dX6_when_63 rfl 1 rfl (q := 64) rfl ?_
  refine e_getf C (k := 0) (j := 2) (T := TX6) (N := 10) (v := .ref (oA ω 10)) dX6_when_64 (ltL hn (Nat.le_of_ble_eq_true rfl)) rfl rfl (by decide) in_X6 w_348 rfl (q := 67) rfl ?_
  refine e_callVi C (l := l) (k := 10) (av := []) (st := []) hlau (x_X2_play (l := l) (ω := ω) (ρ := 1) hn (by decide) (I := I)) dX6_when_67 w_495 w_496 w_497 w_57 w_498 md_X2_play (by decide) (by decide) rfl (ltL hn (Nat.le_of_ble_eq_true rfl)) (cOb_Rg (ρ := 1) (by decide) _) rfl (Nat.le_of_ble_eq_true rfl) (q := 70) rfl (fun v5 J4 => ?_)
  refine e_pop C dX6_when_70 rfl (q := 71) rfl ?_
  refine e_iinc C (v := x2 + (1 : Int32)) (lv1 := [(2, .int (x2 + (1 : Int32))), (0, .ref (oA ω 0)), (1, .int a1)]) dX6_when_71 0 rfl (Nat.le_of_ble_eq_true rfl) (by rw [ic_1]) rfl (q := 74) rfl ?_
  refine e_goto C (tgt := 23) dX6_when_74 rfl ?_
  exact hK23 (x2 + (1 : Int32)) _
set_option maxHeartbeats 4000000 in
set_option maxRecDepth 100000 in
theorem xb_X6_when_b23 {l : Launch} {κ : Kx} {ω : Om} {a1 : Int32} (C : CX κ ω cX6_when 3 6 yX6_when.cls) (hlau : κ.2.1 = l) (hret : κ.2.2.2.2.2.2.2.2.1.sig.returnType = (some .int)) (hn : 56 ≤ oN ω)  : ∀ (n : Nat) (x2 : Int32) (I : Mem), EE κ ω 3 (Gi κ ω) (f_X6_when_b23 a1 n x2 I) I 23 [(2, .int x2), (0, .ref (oA ω 0)), (1, .int a1)] [] := by
  intro n
  induction n with
  | zero => intro x2 I; exact e_none
  | succ n ih =>
    intro x2 I
    rw [f_X6_when_b23]
    refine e_iload_n C dX6_when_23 rfl 0 rfl (q := 24) rfl ?_
    refine e_bipush C dX6_when_24 b8_60 (q := 26) rfl ?_
    refine e_icmpgt C (tgt := 77) (q := 29) dX6_when_26 rfl rfl ?_ ?_
    · refine e_iconst C dX6_when_77 ic_m1 (q := 78) rfl ?_
      exact e_ireturn C dX6_when_78 hret rfl
    · refine e_iload_n C dX6_when_29 rfl 2 rfl (q := 30) rfl ?_
      refine e_bipush C dX6_when_30 b8_6 (q := 32) rfl ?_
      refine e_icmpne C (tgt := 49) (q := 35) dX6_when_32 rfl rfl ?_ ?_
      · refine e_aload_n C dX6_when_49 rfl 1 rfl (q := 50) rfl ?_
        refine e_getf C (k := 0) (j := 2) (T := TX6) (N := 10) (v := .ref (oA ω 10)) dX6_when_50 (ltL hn (Nat.le_of_ble_eq_true rfl)) rfl rfl (by decide) in_X6 w_348 rfl (q := 53) rfl ?_
        refine e_getf C (k := 10) (j := 4) (T := TX2) (N := 11) (v := .ref (oA ω 14)) dX6_when_53 (ltL hn (Nat.le_of_ble_eq_true rfl)) (cOb_Rg (ρ := 1) (by decide) _) rfl (by decide) in_X2 w_98 rfl (q := 56) rfl ?_
        refine e_iload_n C dX6_when_56 rfl 2 rfl (q := 57) rfl ?_
        refine e_iald C (k := 14) (n := 6) dX6_when_57 (ltL hn (Nat.le_of_ble_eq_true rfl)) rfl (q := 58) rfl ?_
        refine e_ifne C (tgt := 63) (q := 61) dX6_when_58 rfl rfl ?_ ?_
        · exact xb_X6_when_b63 C hlau hret hn ih x2 _
        · refine e_iload_n C dX6_when_61 rfl 0 rfl (q := 62) rfl ?_
          exact e_ireturn C dX6_when_62 hret rfl
      · refine e_aload_n C dX6_when_35 rfl 1 rfl (q := 36) rfl ?_
        refine e_getf C (k := 0) (j := 2) (T := TX6) (N := 10) (v := .ref (oA ω 10)) dX6_when_36 (ltL hn (Nat.le_of_ble_eq_true rfl)) rfl rfl (by decide) in_X6 w_348 rfl (q := 39) rfl ?_
        refine e_callVi C (l := l) (k := 10) (av := []) (st := []) hlau (x_X2_upCount (l := l) (ω := ω) (ρ := 1) hn (by decide) (I := I)) dX6_when_39 w_382 w_383 w_384 w_57 w_385 md_X2_upCount (by decide) (by decide) rfl (ltL hn (Nat.le_of_ble_eq_true rfl)) (cOb_Rg (ρ := 1) (by decide) _) rfl (Nat.le_of_ble_eq_true rfl) (q := 42) rfl (fun v7 J6 => ?_)
        refine e_iconst C dX6_when_42 ic_2 (q := 43) rfl ?_
        refine e_icmpge C (tgt := 63) (q := 46) dX6_when_43 rfl rfl ?_ ?_
        · exact xb_X6_when_b63 C hlau hret hn ih x2 _
        · refine e_goto C (tgt := 61) dX6_when_46 rfl ?_
          refine e_iload_n C dX6_when_61 rfl 0 rfl (q := 62) rfl ?_
          exact e_ireturn C dX6_when_62 hret rfl
set_option maxHeartbeats 4000000 in
set_option maxRecDepth 100000 in
theorem xb_X6_when_b17 {l : Launch} {κ : Kx} {ω : Om} {a1 : Int32} (C : CX κ ω cX6_when 3 6 yX6_when.cls) (hlau : κ.2.1 = l) (hret : κ.2.2.2.2.2.2.2.2.1.sig.returnType = (some .int)) (hn : 56 ≤ oN ω)  : ∀  (I : Mem), EE κ ω 3 (Gi κ ω) (f_X6_when_b17 a1  I) I 17 [(0, .ref (oA ω 0)), (1, .int a1)] [] := by
  intro  I
  unfold f_X6_when_b17
  refine e_aload_n C dX6_when_17 rfl 0 rfl (q := 18) rfl ?_
  refine e_callVv C (l := l) (k := 0) (av := []) (st := []) hlau (x_X6_imagine (l := l) (ω := ω) hn (I := I)) dX6_when_18 w_520 w_522 w_15 w_56 w_523 md_X6_imagine (by decide) (by decide) rfl (ltL hn (Nat.le_of_ble_eq_true rfl)) rfl rfl (Nat.le_of_ble_eq_true rfl) (q := 21) rfl (fun _ J3 => ?_)
  refine e_iconst C dX6_when_21 ic_0 (q := 22) rfl ?_
  refine e_istore_n C (lv1 := [(2, .int (0 : Int32)), (0, .ref (oA ω 0)), (1, .int a1)]) dX6_when_22 rfl (Nat.le_of_ble_eq_true rfl) rfl (q := 23) rfl ?_
  exact xb_X6_when_b23 C hlau hret hn FU (0 : Int32) _
set_option maxHeartbeats 4000000 in
set_option maxRecDepth 100000 in
theorem x_X6_when {l : Launch} {ω : Om} {a1 : Int32} (hn : 56 ≤ oN ω)  {I : Mem} : CTi l ω yX6_when cX6_when 3 (some .int) 6 [.ref (oA ω 0), .int a1] (f_X6_when a1 I) I := by
  refine ct_i (by decide) (Nat.le_of_ble_eq_true rfl) ?_
  intro κ hlau hret C
  refine e_lv [0, 1] (lv1 := [(0, .ref (oA ω 0)), (1, .int a1)]) rfl ?_
  unfold f_X6_when
  refine e_aload_n C dX6_when_0 rfl 0 rfl (q := 1) rfl ?_
  refine e_iload_n C dX6_when_1 rfl 1 rfl (q := 2) rfl ?_
  refine e_callVi C (l := l) (k := 0) (av := [.int a1]) (st := []) hlau (x_X6_isHat (l := l) (ω := ω) (a1 := a1) hn (I := I)) dX6_when_2 w_408 w_410 w_12 w_56 w_411 md_X6_isHat (by decide) (by decide) rfl (ltL hn (Nat.le_of_ble_eq_true rfl)) rfl rfl (Nat.le_of_ble_eq_true rfl) (q := 5) rfl (fun v2 J1 => ?_)
  refine e_ifne C (tgt := 17) (q := 8) dX6_when_5 rfl rfl ?_ ?_
  · exact xb_X6_when_b17 C hlau hret hn _
  · refine e_iload_n C dX6_when_8 rfl 1 rfl (q := 9) rfl ?_
    refine e_bipush C dX6_when_9 b8_6 (q := 11) rfl ?_
    refine e_icmpeq C (tgt := 17) (q := 14) dX6_when_11 rfl rfl ?_ ?_
    · exact xb_X6_when_b17 C hlau hret hn _
    · refine e_bipush C dX6_when_14 b8_m5 (q := 16) rfl ?_
      exact e_ireturn C dX6_when_16 hret rfl
set_option maxHeartbeats 4000000 in
set_option maxRecDepth 100000 in
theorem xb_X6_lowestBit_b2 {l : Launch} {κ : Kx} {ω : Om} {a0 : Int32} (C : CX κ ω cX6_lowestBit 2 1 yX6_lowestBit.cls) (hlau : κ.2.1 = l) (hret : κ.2.2.2.2.2.2.2.2.1.sig.returnType = (some .int)) (hn : 56 ≤ oN ω)  : ∀ (n : Nat) (x1 : Int32) (I : Mem), EE κ ω 2 (Gi κ ω) (f_X6_lowestBit_b2 a0 n x1 I) I 2 [(1, .int x1), (0, .int a0)] [] := by
  intro n
  induction n with
  | zero => intro x1 I; exact e_none
  | succ n ih =>
    intro x1 I
    rw [f_X6_lowestBit_b2]
    refine e_iload_n C dX6_lowestBit_2 rfl 0 rfl (q := 3) rfl ?_
    refine e_bipush C dX6_lowestBit_3 b8_6 (q := 5) rfl ?_
    refine e_icmpge C (tgt := 24) (q := 8) dX6_lowestBit_5 rfl rfl ?_ ?_
    · refine e_iconst C dX6_lowestBit_24 ic_m1 (q := 25) rfl ?_
      exact e_ireturn C dX6_lowestBit_25 hret rfl
    · refine e_iload_n C dX6_lowestBit_8 rfl 1 rfl (q := 9) rfl ?_
      refine e_iload_n C dX6_lowestBit_9 rfl 0 rfl (q := 10) rfl ?_
      refine e_ishr C dX6_lowestBit_10 (q := 11) rfl ?_
      refine e_iconst C dX6_lowestBit_11 ic_1 (q := 12) rfl ?_
      refine e_iand C dX6_lowestBit_12 (q := 13) rfl ?_
      refine e_ifeq C (tgt := 18) (q := 16) dX6_lowestBit_13 rfl rfl ?_ ?_
      · refine e_iinc C (v := x1 + (1 : Int32)) (lv1 := [(1, .int (x1 + (1 : Int32))), (0, .int a0)]) dX6_lowestBit_18 0 rfl (Nat.le_of_ble_eq_true rfl) (by rw [ic_1]) rfl (q := 21) rfl ?_
        refine e_goto C (tgt := 2) dX6_lowestBit_21 rfl ?_
        exact ih (x1 + (1 : Int32)) _
      · refine e_iload_n C dX6_lowestBit_16 rfl 0 rfl (q := 17) rfl ?_
        exact e_ireturn C dX6_lowestBit_17 hret rfl
set_option maxHeartbeats 4000000 in
set_option maxRecDepth 100000 in
theorem x_X6_lowestBit {l : Launch} {ω : Om} {a0 : Int32} (hn : 56 ≤ oN ω)  {I : Mem} : CTi l ω yX6_lowestBit cX6_lowestBit 2 (some .int) 1 [.int a0] (f_X6_lowestBit a0 I) I := by
  refine ct_i (by decide) (Nat.le_of_ble_eq_true rfl) ?_
  intro κ hlau hret C
  refine e_lv [0] (lv1 := [(0, .int a0)]) rfl ?_
  unfold f_X6_lowestBit
  refine e_iconst C dX6_lowestBit_0 ic_0 (q := 1) rfl ?_
  refine e_istore_n C (lv1 := [(1, .int (0 : Int32)), (0, .int a0)]) dX6_lowestBit_1 rfl (Nat.le_of_ble_eq_true rfl) rfl (q := 2) rfl ?_
  exact xb_X6_lowestBit_b2 C hlau hret hn FU (0 : Int32) _
set_option maxHeartbeats 4000000 in
set_option maxRecDepth 100000 in
theorem xb_X6_end_b23 {l : Launch} {κ : Kx} {ω : Om} {a1 : Int32} (C : CX κ ω cX6_end 6 6 yX6_end.cls) (hlau : κ.2.1 = l) (hret : κ.2.2.2.2.2.2.2.2.1.sig.returnType = (some .int)) (hn : 56 ≤ oN ω)  : ∀ (n : Nat) (x4 : Int32) (x3 : Int32) (x2 : Int32) (I : Mem), EE κ ω 6 (Gi κ ω) (f_X6_end_b23 a1 n x4 x3 x2 I) I 23 [(4, .int x4), (3, .int x3), (2, .int x2), (0, .ref (oA ω 0)), (1, .int a1)] [] := by
  intro n
  induction n with
  | zero => intro x4 x3 x2 I; exact e_none
  | succ n ih =>
    intro x4 x3 x2 I
    rw [f_X6_end_b23]
    refine e_iload C dX6_end_23 0 rfl (q := 25) rfl ?_
    refine e_bipush C dX6_end_25 b8_60 (q := 27) rfl ?_
    refine e_icmpge C (tgt := 60) (q := 30) dX6_end_27 rfl rfl ?_ ?_
    · refine e_aload_n C dX6_end_60 rfl 3 rfl (q := 61) rfl ?_
      refine e_getf C (k := 0) (j := 2) (T := TX6) (N := 10) (v := .ref (oA ω 10)) dX6_end_61 (ltL hn (Nat.le_of_ble_eq_true rfl)) rfl rfl (by decide) in_X6 w_348 rfl (q := 64) rfl ?_
      refine e_callVi C (l := l) (k := 10) (av := []) (st := []) hlau (x_X2_mostFelt (l := l) (ω := ω) (ρ := 1) hn (by decide) (I := I)) dX6_end_64 w_547 w_548 w_549 w_57 w_550 md_X2_mostFelt (by decide) (by decide) rfl (ltL hn (Nat.le_of_ble_eq_true rfl)) (cOb_Rg (ρ := 1) (by decide) _) rfl (Nat.le_of_ble_eq_true rfl) (q := 67) rfl (fun v5 J4 => ?_)
      refine e_istore C (lv1 := [(4, .int v5), (3, .int x3), (2, .int x2), (0, .ref (oA ω 0)), (1, .int a1)]) dX6_end_67 (Nat.le_of_ble_eq_true rfl) rfl (q := 69) rfl ?_
      refine e_iload_n C dX6_end_69 rfl 4 rfl (q := 70) rfl ?_
      refine e_if (fun h6 => ?_) (fun h6 => ?_)
      · refine e_tabIn C (v := 0) (off := 26) (tgt := 96) dX6_end_70 (by rw [h6]; rfl) (by decide) rfl rfl ?_
        refine e_iload C dX6_end_96 0 rfl (q := 98) rfl ?_
        exact e_ireturn C dX6_end_98 hret rfl
      · refine e_if (fun h7 => ?_) (fun h7 => ?_)
        · refine e_tabIn C (v := 1) (off := 29) (tgt := 99) dX6_end_70 (by rw [h7]; rfl) (by decide) rfl rfl ?_
          refine e_iload C dX6_end_99 0 rfl (q := 101) rfl ?_
          refine e_iconst C dX6_end_101 ic_m1 (q := 102) rfl ?_
          refine e_icmpne C (tgt := 109) (q := 105) dX6_end_102 rfl rfl ?_ ?_
          · refine e_aload_n C dX6_end_109 rfl 3 rfl (q := 110) rfl ?_
            refine e_getf C (k := 0) (j := 2) (T := TX6) (N := 10) (v := .ref (oA ω 10)) dX6_end_110 (ltL hn (Nat.le_of_ble_eq_true rfl)) rfl rfl (by decide) in_X6 w_348 rfl (q := 113) rfl ?_
            refine e_getf C (k := 10) (j := 4) (T := TX2) (N := 11) (v := .ref (oA ω 14)) dX6_end_113 (ltL hn (Nat.le_of_ble_eq_true rfl)) (cOb_Rg (ρ := 1) (by decide) _) rfl (by decide) in_X2 w_98 rfl (q := 116) rfl ?_
            refine e_iload C dX6_end_116 0 rfl (q := 118) rfl ?_
            refine e_iald C (k := 14) (n := 6) dX6_end_118 (ltL hn (Nat.le_of_ble_eq_true rfl)) rfl (q := 119) rfl ?_
            exact e_ireturn C dX6_end_119 hret rfl
          · refine e_iconst C dX6_end_105 ic_0 (q := 106) rfl ?_
            refine e_goto C (tgt := 119) dX6_end_106 rfl ?_
            exact e_ireturn C dX6_end_119 hret rfl
        · refine e_if (fun h8 => ?_) (fun h8 => ?_)
          · refine e_tabIn C (v := 2) (off := 50) (tgt := 120) dX6_end_70 (by rw [h8]; rfl) (by decide) rfl rfl ?_
            refine e_iload_n C dX6_end_120 rfl 2 rfl (q := 121) rfl ?_
            refine e_callSi C (l := l) (av := [.int x2]) (st := []) hlau (x_X6_lowestBit (l := l) (ω := ω) (a0 := x2) hn (I := J4)) dX6_end_121 w_551 w_552 w_56 w_553 md_X6_lowestBit (by decide) (by decide) rfl (Nat.le_of_ble_eq_true rfl) (q := 124) rfl (fun v10 J9 => ?_)
            exact e_ireturn C dX6_end_124 hret rfl
          · refine e_tabOut C (tgt := 125) dX6_end_70 (by have g0 := i32_ne h6; have g1 := i32_ne h7; have g2 := i32_ne h8; have f0 : ((0 : Int32)).toInt = 0 := rfl; have f1 : ((1 : Int32)).toInt = 1 := rfl; have f2 : ((2 : Int32)).toInt = 2 := rfl; omega) rfl ?_
            refine e_iload_n C dX6_end_125 rfl 1 rfl (q := 126) rfl ?_
            exact e_ireturn C dX6_end_126 hret rfl
    · refine e_aload_n C dX6_end_30 rfl 3 rfl (q := 31) rfl ?_
      refine e_getf C (k := 0) (j := 2) (T := TX6) (N := 10) (v := .ref (oA ω 10)) dX6_end_31 (ltL hn (Nat.le_of_ble_eq_true rfl)) rfl rfl (by decide) in_X6 w_348 rfl (q := 34) rfl ?_
      refine e_callVi C (l := l) (k := 10) (av := []) (st := []) hlau (x_X2_play (l := l) (ω := ω) (ρ := 1) hn (by decide) (I := I)) dX6_end_34 w_495 w_496 w_497 w_57 w_498 md_X2_play (by decide) (by decide) rfl (ltL hn (Nat.le_of_ble_eq_true rfl)) (cOb_Rg (ρ := 1) (by decide) _) rfl (Nat.le_of_ble_eq_true rfl) (q := 37) rfl (fun v12 J11 => ?_)
      refine e_istore C (lv1 := [(5, .int v12), (4, .int x4), (3, .int x3), (2, .int x2), (0, .ref (oA ω 0)), (1, .int a1)]) dX6_end_37 (Nat.le_of_ble_eq_true rfl) rfl (q := 39) rfl ?_
      refine e_iload_n C dX6_end_39 rfl 3 rfl (q := 40) rfl ?_
      refine e_ifne C (tgt := 54) (q := 43) dX6_end_40 rfl rfl ?_ ?_
      · refine e_iinc C (v := x4 + (1 : Int32)) (lv1 := [(4, .int (x4 + (1 : Int32))), (5, .int v12), (3, .int x3), (2, .int x2), (0, .ref (oA ω 0)), (1, .int a1)]) dX6_end_54 1 rfl (Nat.le_of_ble_eq_true rfl) (by rw [ic_1]) rfl (q := 57) rfl ?_
        refine e_goto C (tgt := 23) dX6_end_57 rfl ?_
        exact e_lv [0, 2, 3, 4, 5] (lv1 := [(4, .int (x4 + (1 : Int32))), (3, .int x3), (2, .int x2), (0, .ref (oA ω 0)), (1, .int a1)]) rfl (ih (x4 + (1 : Int32)) x3 x2 _)
      · refine e_iload C dX6_end_43 0 rfl (q := 45) rfl ?_
        refine e_ifeq C (tgt := 54) (q := 48) dX6_end_45 rfl rfl ?_ ?_
        · refine e_iinc C (v := x4 + (1 : Int32)) (lv1 := [(4, .int (x4 + (1 : Int32))), (5, .int v12), (3, .int x3), (2, .int x2), (0, .ref (oA ω 0)), (1, .int a1)]) dX6_end_54 1 rfl (Nat.le_of_ble_eq_true rfl) (by rw [ic_1]) rfl (q := 57) rfl ?_
          refine e_goto C (tgt := 23) dX6_end_57 rfl ?_
          exact e_lv [0, 2, 3, 4, 5] (lv1 := [(4, .int (x4 + (1 : Int32))), (3, .int x3), (2, .int x2), (0, .ref (oA ω 0)), (1, .int a1)]) rfl (ih (x4 + (1 : Int32)) x3 x2 _)
        · refine e_iload C dX6_end_48 0 rfl (q := 50) rfl ?_
          refine e_istore_n C (lv1 := [(2, .int v12), (5, .int v12), (4, .int x4), (3, .int x3), (0, .ref (oA ω 0)), (1, .int a1)]) dX6_end_50 rfl (Nat.le_of_ble_eq_true rfl) rfl (q := 51) rfl ?_
          refine e_iload C dX6_end_51 2 rfl (q := 53) rfl ?_
          refine e_istore_n C (lv1 := [(3, .int x4), (2, .int v12), (5, .int v12), (4, .int x4), (0, .ref (oA ω 0)), (1, .int a1)]) dX6_end_53 rfl (Nat.le_of_ble_eq_true rfl) rfl (q := 54) rfl ?_
          refine e_iinc C (v := x4 + (1 : Int32)) (lv1 := [(4, .int (x4 + (1 : Int32))), (3, .int x4), (2, .int v12), (5, .int v12), (0, .ref (oA ω 0)), (1, .int a1)]) dX6_end_54 3 rfl (Nat.le_of_ble_eq_true rfl) (by rw [ic_1]) rfl (q := 57) rfl ?_
          refine e_goto C (tgt := 23) dX6_end_57 rfl ?_
          exact e_lv [0, 1, 2, 4, 5] (lv1 := [(4, .int (x4 + (1 : Int32))), (3, .int x4), (2, .int v12), (0, .ref (oA ω 0)), (1, .int a1)]) rfl (ih (x4 + (1 : Int32)) x4 v12 _)
set_option maxHeartbeats 4000000 in
set_option maxRecDepth 100000 in
theorem x_X6_end {l : Launch} {ω : Om} {a1 : Int32} (hn : 56 ≤ oN ω)  {I : Mem} : CTi l ω yX6_end cX6_end 6 (some .int) 6 [.ref (oA ω 0), .int a1] (f_X6_end a1 I) I := by
  refine ct_i (by decide) (Nat.le_of_ble_eq_true rfl) ?_
  intro κ hlau hret C
  refine e_lv [0, 1] (lv1 := [(0, .ref (oA ω 0)), (1, .int a1)]) rfl ?_
  unfold f_X6_end
  refine e_iload_n C dX6_end_0 rfl 1 rfl (q := 1) rfl ?_
  refine e_iconst C dX6_end_1 ic_0 (q := 2) rfl ?_
  refine e_iconst C dX6_end_2 ic_3 (q := 3) rfl ?_
  refine e_callSi C (l := l) (av := [.int a1, .int (0 : Int32), .int (3 : Int32)]) (st := []) hlau (x_X6_within (l := l) (ω := ω) (a0 := a1) (a1 := (0 : Int32)) (a2 := (3 : Int32)) hn (I := I)) dX6_end_3 w_390 w_391 w_56 w_392 md_X6_within (by decide) (by decide) rfl (Nat.le_of_ble_eq_true rfl) (q := 6) rfl (fun v2 J1 => ?_)
  refine e_ifne C (tgt := 12) (q := 9) dX6_end_6 rfl rfl ?_ ?_
  · refine e_aload_n C dX6_end_12 rfl 0 rfl (q := 13) rfl ?_
    refine e_callVv C (l := l) (k := 0) (av := []) (st := []) hlau (x_X6_imagine (l := l) (ω := ω) hn (I := J1)) dX6_end_13 w_520 w_522 w_15 w_56 w_523 md_X6_imagine (by decide) (by decide) rfl (ltL hn (Nat.le_of_ble_eq_true rfl)) rfl rfl (Nat.le_of_ble_eq_true rfl) (q := 16) rfl (fun _ J3 => ?_)
    refine e_iconst C dX6_end_16 ic_0 (q := 17) rfl ?_
    refine e_istore_n C (lv1 := [(2, .int (0 : Int32)), (0, .ref (oA ω 0)), (1, .int a1)]) dX6_end_17 rfl (Nat.le_of_ble_eq_true rfl) rfl (q := 18) rfl ?_
    refine e_iconst C dX6_end_18 ic_m1 (q := 19) rfl ?_
    refine e_istore_n C (lv1 := [(3, .int (-1 : Int32)), (2, .int (0 : Int32)), (0, .ref (oA ω 0)), (1, .int a1)]) dX6_end_19 rfl (Nat.le_of_ble_eq_true rfl) rfl (q := 20) rfl ?_
    refine e_iconst C dX6_end_20 ic_0 (q := 21) rfl ?_
    refine e_istore C (lv1 := [(4, .int (0 : Int32)), (3, .int (-1 : Int32)), (2, .int (0 : Int32)), (0, .ref (oA ω 0)), (1, .int a1)]) dX6_end_21 (Nat.le_of_ble_eq_true rfl) rfl (q := 23) rfl ?_
    exact xb_X6_end_b23 C hlau hret hn FU (0 : Int32) (-1 : Int32) (0 : Int32) _
  · refine e_bipush C dX6_end_9 b8_m2 (q := 11) rfl ?_
    exact e_ireturn C dX6_end_11 hret rfl
set_option maxHeartbeats 4000000 in
set_option maxRecDepth 100000 in
theorem xb_X6_feltBehind_b33 {l : Launch} {κ : Kx} {ω : Om} {a1 : Int32} {a2 : Int32} (C : CX κ ω cX6_feltBehind 4 6 yX6_feltBehind.cls) (hlau : κ.2.1 = l) (hret : κ.2.2.2.2.2.2.2.2.1.sig.returnType = (some .int)) (hn : 56 ≤ oN ω)  : ∀  (I : Mem), EE κ ω 4 (Gi κ ω) (f_X6_feltBehind_b33 a1 a2  I) I 33 [(0, .ref (oA ω 0)), (1, .int a1)] [] := by
  intro  I
  unfold f_X6_feltBehind_b33
  refine e_aload_n C dX6_feltBehind_33 rfl 0 rfl (q := 34) rfl ?_
  refine e_getf C (k := 0) (j := 2) (T := TX6) (N := 10) (v := .ref (oA ω 10)) dX6_feltBehind_34 (ltL hn (Nat.le_of_ble_eq_true rfl)) rfl rfl (by decide) in_X6 w_348 rfl (q := 37) rfl ?_
  refine e_getf C (k := 10) (j := 4) (T := TX2) (N := 11) (v := .ref (oA ω 14)) dX6_feltBehind_37 (ltL hn (Nat.le_of_ble_eq_true rfl)) (cOb_Rg (ρ := 1) (by decide) _) rfl (by decide) in_X2 w_98 rfl (q := 40) rfl ?_
  refine e_iload_n C dX6_feltBehind_40 rfl 1 rfl (q := 41) rfl ?_
  refine e_iald C (k := 14) (n := 6) dX6_feltBehind_41 (ltL hn (Nat.le_of_ble_eq_true rfl)) rfl (q := 42) rfl ?_
  exact e_ireturn C dX6_feltBehind_42 hret rfl
set_option maxHeartbeats 4000000 in
set_option maxRecDepth 100000 in
theorem xb_X6_feltBehind_b2 {l : Launch} {κ : Kx} {ω : Om} {a1 : Int32} {a2 : Int32} (C : CX κ ω cX6_feltBehind 4 6 yX6_feltBehind.cls) (hlau : κ.2.1 = l) (hret : κ.2.2.2.2.2.2.2.2.1.sig.returnType = (some .int)) (hn : 56 ≤ oN ω)  : ∀ (n : Nat) (x3 : Int32) (I : Mem), EE κ ω 4 (Gi κ ω) (f_X6_feltBehind_b2 a1 a2 n x3 I) I 2 [(3, .int x3), (0, .ref (oA ω 0)), (1, .int a1), (2, .int a2)] [] := by
  intro n
  induction n with
  | zero => intro x3 I; exact e_none
  | succ n ih =>
    intro x3 I
    rw [f_X6_feltBehind_b2]
    refine e_iload_n C dX6_feltBehind_2 rfl 0 rfl (q := 3) rfl ?_
    refine e_iload_n C dX6_feltBehind_3 rfl 3 rfl (q := 4) rfl ?_
    refine e_icmpge C (tgt := 33) (q := 7) dX6_feltBehind_4 rfl rfl ?_ ?_
    · exact e_lv [1, 2] (lv1 := [(0, .ref (oA ω 0)), (1, .int a1)]) rfl (xb_X6_feltBehind_b33 C hlau hret hn _)
    · refine e_aload_n C dX6_feltBehind_7 rfl 1 rfl (q := 8) rfl ?_
      refine e_getf C (k := 0) (j := 2) (T := TX6) (N := 10) (v := .ref (oA ω 10)) dX6_feltBehind_8 (ltL hn (Nat.le_of_ble_eq_true rfl)) rfl rfl (by decide) in_X6 w_348 rfl (q := 11) rfl ?_
      refine e_getf C (k := 10) (j := 4) (T := TX2) (N := 11) (v := .ref (oA ω 14)) dX6_feltBehind_11 (ltL hn (Nat.le_of_ble_eq_true rfl)) (cOb_Rg (ρ := 1) (by decide) _) rfl (by decide) in_X2 w_98 rfl (q := 14) rfl ?_
      refine e_iload_n C dX6_feltBehind_14 rfl 2 rfl (q := 15) rfl ?_
      refine e_iald C (k := 14) (n := 6) dX6_feltBehind_15 (ltL hn (Nat.le_of_ble_eq_true rfl)) rfl (q := 16) rfl ?_
      refine e_ifle C (tgt := 33) (q := 19) dX6_feltBehind_16 rfl rfl ?_ ?_
      · exact e_lv [1, 2] (lv1 := [(0, .ref (oA ω 0)), (1, .int a1)]) rfl (xb_X6_feltBehind_b33 C hlau hret hn _)
      · refine e_aload_n C dX6_feltBehind_19 rfl 1 rfl (q := 20) rfl ?_
        refine e_getf C (k := 0) (j := 2) (T := TX6) (N := 10) (v := .ref (oA ω 10)) dX6_feltBehind_20 (ltL hn (Nat.le_of_ble_eq_true rfl)) rfl rfl (by decide) in_X6 w_348 rfl (q := 23) rfl ?_
        refine e_callVi C (l := l) (k := 10) (av := []) (st := []) hlau (x_X2_play (l := l) (ω := ω) (ρ := 1) hn (by decide) (I := I)) dX6_feltBehind_23 w_495 w_496 w_497 w_57 w_498 md_X2_play (by decide) (by decide) rfl (ltL hn (Nat.le_of_ble_eq_true rfl)) (cOb_Rg (ρ := 1) (by decide) _) rfl (Nat.le_of_ble_eq_true rfl) (q := 26) rfl (fun v2 J1 => ?_)
        refine e_pop C dX6_feltBehind_26 rfl (q := 27) rfl ?_
        refine e_iinc C (v := x3 + (1 : Int32)) (lv1 := [(3, .int (x3 + (1 : Int32))), (0, .ref (oA ω 0)), (1, .int a1), (2, .int a2)]) dX6_feltBehind_27 0 rfl (Nat.le_of_ble_eq_true rfl) (by rw [ic_1]) rfl (q := 30) rfl ?_
        refine e_goto C (tgt := 2) dX6_feltBehind_30 rfl ?_
        exact ih (x3 + (1 : Int32)) _
set_option maxHeartbeats 4000000 in
set_option maxRecDepth 100000 in
theorem x_X6_feltBehind {l : Launch} {ω : Om} {a1 : Int32} {a2 : Int32} (hn : 56 ≤ oN ω)  {I : Mem} : CTi l ω yX6_feltBehind cX6_feltBehind 4 (some .int) 6 [.ref (oA ω 0), .int a1, .int a2] (f_X6_feltBehind a1 a2 I) I := by
  refine ct_i (by decide) (Nat.le_of_ble_eq_true rfl) ?_
  intro κ hlau hret C
  refine e_lv [0, 1, 2] (lv1 := [(0, .ref (oA ω 0)), (1, .int a1), (2, .int a2)]) rfl ?_
  unfold f_X6_feltBehind
  refine e_iconst C dX6_feltBehind_0 ic_0 (q := 1) rfl ?_
  refine e_istore_n C (lv1 := [(3, .int (0 : Int32)), (0, .ref (oA ω 0)), (1, .int a1), (2, .int a2)]) dX6_feltBehind_1 rfl (Nat.le_of_ble_eq_true rfl) rfl (q := 2) rfl ?_
  exact xb_X6_feltBehind_b2 C hlau hret hn FU (0 : Int32) _
set_option maxHeartbeats 4000000 in
set_option maxRecDepth 100000 in
theorem x_J6_bitCount_0f7a4 {l : Launch} {ω : Om} {a0 : Int32} (hn : 56 ≤ oN ω)  {I : Mem} : CTi l ω yJ6_bitCount_0f7a4 cJ6_bitCount_0f7a4 1 (some .int) 1 [.int a0] (f_J6_bitCount_0f7a4 a0 I) I := by
  refine ct_i (by decide) (Nat.le_of_ble_eq_true rfl) ?_
  intro κ hlau hret C
  refine e_lv [0] (lv1 := [(0, .int a0)]) rfl ?_
  unfold f_J6_bitCount_0f7a4
  refine e_iload_n C dJ6_bitCount_0f7a4_0 rfl 0 rfl (q := 1) rfl ?_
  refine e_iload_n C dJ6_bitCount_0f7a4_1 rfl 0 rfl (q := 2) rfl ?_
  refine e_iconst C dJ6_bitCount_0f7a4_2 ic_1 (q := 3) rfl ?_
  refine e_iushr C dJ6_bitCount_0f7a4_3 (q := 4) rfl ?_
  refine e_ldcw C dJ6_bitCount_0f7a4_4 w_569 (q := 7) rfl ?_
  refine e_iand C dJ6_bitCount_0f7a4_7 (q := 8) rfl ?_
  refine e_isub C dJ6_bitCount_0f7a4_8 (q := 9) rfl ?_
  refine e_nmi (fun v1 => ?_)
  refine e_istore_n C (lv1 := [(0, .int v1)]) dJ6_bitCount_0f7a4_9 rfl (Nat.le_of_ble_eq_true rfl) rfl (q := 10) rfl ?_
  refine e_iload_n C dJ6_bitCount_0f7a4_10 rfl 0 rfl (q := 11) rfl ?_
  refine e_ldcw C dJ6_bitCount_0f7a4_11 w_570 (q := 14) rfl ?_
  refine e_iand C dJ6_bitCount_0f7a4_14 (q := 15) rfl ?_
  refine e_iload_n C dJ6_bitCount_0f7a4_15 rfl 0 rfl (q := 16) rfl ?_
  refine e_iconst C dJ6_bitCount_0f7a4_16 ic_2 (q := 17) rfl ?_
  refine e_iushr C dJ6_bitCount_0f7a4_17 (q := 18) rfl ?_
  refine e_ldcw C dJ6_bitCount_0f7a4_18 w_570 (q := 21) rfl ?_
  refine e_iand C dJ6_bitCount_0f7a4_21 (q := 22) rfl ?_
  refine e_iadd C dJ6_bitCount_0f7a4_22 (q := 23) rfl ?_
  refine e_nmi (fun v2 => ?_)
  refine e_istore_n C (lv1 := [(0, .int v2)]) dJ6_bitCount_0f7a4_23 rfl (Nat.le_of_ble_eq_true rfl) rfl (q := 24) rfl ?_
  refine e_iload_n C dJ6_bitCount_0f7a4_24 rfl 0 rfl (q := 25) rfl ?_
  refine e_iload_n C dJ6_bitCount_0f7a4_25 rfl 0 rfl (q := 26) rfl ?_
  refine e_iconst C dJ6_bitCount_0f7a4_26 ic_4 (q := 27) rfl ?_
  refine e_iushr C dJ6_bitCount_0f7a4_27 (q := 28) rfl ?_
  refine e_iadd C dJ6_bitCount_0f7a4_28 (q := 29) rfl ?_
  refine e_ldcw C dJ6_bitCount_0f7a4_29 w_571 (q := 32) rfl ?_
  refine e_iand C dJ6_bitCount_0f7a4_32 (q := 33) rfl ?_
  refine e_nmi (fun v3 => ?_)
  refine e_istore_n C (lv1 := [(0, .int v3)]) dJ6_bitCount_0f7a4_33 rfl (Nat.le_of_ble_eq_true rfl) rfl (q := 34) rfl ?_
  refine e_iload_n C dJ6_bitCount_0f7a4_34 rfl 0 rfl (q := 35) rfl ?_
  refine e_iload_n C dJ6_bitCount_0f7a4_35 rfl 0 rfl (q := 36) rfl ?_
  refine e_bipush C dJ6_bitCount_0f7a4_36 b8_8 (q := 38) rfl ?_
  refine e_iushr C dJ6_bitCount_0f7a4_38 (q := 39) rfl ?_
  refine e_iadd C dJ6_bitCount_0f7a4_39 (q := 40) rfl ?_
  refine e_nmi (fun v4 => ?_)
  refine e_istore_n C (lv1 := [(0, .int v4)]) dJ6_bitCount_0f7a4_40 rfl (Nat.le_of_ble_eq_true rfl) rfl (q := 41) rfl ?_
  refine e_iload_n C dJ6_bitCount_0f7a4_41 rfl 0 rfl (q := 42) rfl ?_
  refine e_iload_n C dJ6_bitCount_0f7a4_42 rfl 0 rfl (q := 43) rfl ?_
  refine e_bipush C dJ6_bitCount_0f7a4_43 b8_16 (q := 45) rfl ?_
  refine e_iushr C dJ6_bitCount_0f7a4_45 (q := 46) rfl ?_
  refine e_iadd C dJ6_bitCount_0f7a4_46 (q := 47) rfl ?_
  refine e_nmi (fun v5 => ?_)
  refine e_istore_n C (lv1 := [(0, .int v5)]) dJ6_bitCount_0f7a4_47 rfl (Nat.le_of_ble_eq_true rfl) rfl (q := 48) rfl ?_
  refine e_iload_n C dJ6_bitCount_0f7a4_48 rfl 0 rfl (q := 49) rfl ?_
  refine e_bipush C dJ6_bitCount_0f7a4_49 b8_63 (q := 51) rfl ?_
  refine e_iand C dJ6_bitCount_0f7a4_51 (q := 52) rfl ?_
  exact e_ireturn C dJ6_bitCount_0f7a4_52 hret rfl
set_option maxHeartbeats 4000000 in
set_option maxRecDepth 100000 in
theorem xb_X6_beaten_b28 {l : Launch} {κ : Kx} {ω : Om} {a1 : Int32} {a2 : Int32} (C : CX κ ω cX6_beaten 5 7 yX6_beaten.cls) (hlau : κ.2.1 = l) (hret : κ.2.2.2.2.2.2.2.2.1.sig.returnType = (some .int)) (hn : 56 ≤ oN ω)  : ∀ (n : Nat) (x4 : Int32) (x3 : Int32) (I : Mem), EE κ ω 5 (Gi κ ω) (f_X6_beaten_b28 a1 a2 n x4 x3 I) I 28 [(4, .int x4), (3, .int x3), (0, .ref (oA ω 0)), (1, .int a1), (2, .int a2)] [] := by
  intro n
  induction n with
  | zero => intro x4 x3 I; exact e_none
  | succ n ih =>
    intro x4 x3 I
    rw [f_X6_beaten_b28]
    refine e_iload C dX6_beaten_28 0 rfl (q := 30) rfl ?_
    refine e_aload_n C dX6_beaten_30 rfl 2 rfl (q := 31) rfl ?_
    refine e_getf C (k := 0) (j := 1) (T := TX6) (N := 10) (v := .ref (oA ω 2)) dX6_beaten_31 (ltL hn (Nat.le_of_ble_eq_true rfl)) rfl rfl (by decide) in_X6 w_347 rfl (q := 34) rfl ?_
    refine e_getf C (k := 2) (j := 8) (T := TX2) (N := 11) (v := .int (I 2 8)) dX6_beaten_34 (ltL hn (Nat.le_of_ble_eq_true rfl)) (cOb_Rg (ρ := 0) (by decide) _) rfl (by decide) in_X2 w_107 rfl (q := 37) rfl ?_
    refine e_icmpge C (tgt := 96) (q := 40) dX6_beaten_37 rfl rfl ?_ ?_
    · refine e_iload_n C dX6_beaten_96 rfl 4 rfl (q := 97) rfl ?_
      refine e_ifne C (tgt := 104) (q := 100) dX6_beaten_97 rfl rfl ?_ ?_
      · refine e_iload_n C dX6_beaten_104 rfl 1 rfl (q := 105) rfl ?_
        refine e_callSi C (l := l) (av := [.int x3]) (st := []) hlau (x_J6_bitCount_0f7a4 (l := l) (ω := ω) (a0 := x3) hn (I := I)) dX6_beaten_105 w_566 w_567 w_70 w_568 md_J6_bitCount_0f7a4 (by decide) (by decide) rfl (Nat.le_of_ble_eq_true rfl) (q := 108) rfl (fun v6 J5 => ?_)
        exact e_ireturn C dX6_beaten_108 hret rfl
      · refine e_iload_n C dX6_beaten_100 rfl 1 rfl (q := 101) rfl ?_
        refine e_goto C (tgt := 108) dX6_beaten_101 rfl ?_
        exact e_ireturn C dX6_beaten_108 hret rfl
    · refine e_aload_n C dX6_beaten_40 rfl 2 rfl (q := 41) rfl ?_
      refine e_callVv C (l := l) (k := 0) (av := []) (st := []) hlau (x_X6_imagine (l := l) (ω := ω) hn (I := I)) dX6_beaten_41 w_520 w_522 w_15 w_56 w_523 md_X6_imagine (by decide) (by decide) rfl (ltL hn (Nat.le_of_ble_eq_true rfl)) rfl rfl (Nat.le_of_ble_eq_true rfl) (q := 44) rfl (fun _ J7 => ?_)
      refine e_aload_n C dX6_beaten_44 rfl 2 rfl (q := 45) rfl ?_
      refine e_getf C (k := 0) (j := 2) (T := TX6) (N := 10) (v := .ref (oA ω 10)) dX6_beaten_45 (ltL hn (Nat.le_of_ble_eq_true rfl)) rfl rfl (by decide) in_X6 w_348 rfl (q := 48) rfl ?_
      refine e_iload_n C dX6_beaten_48 rfl 3 rfl (q := 49) rfl ?_
      refine e_iload C dX6_beaten_49 0 rfl (q := 51) rfl ?_
      refine e_callVv C (l := l) (k := 10) (av := [.int a1, .int x4]) (st := []) hlau (x_X2_leaveOnly (l := l) (ω := ω) (ρ := 1) (a1 := a1) (a2 := x4) hn (by decide) (I := J7)) dX6_beaten_51 w_558 w_559 w_560 w_57 w_561 md_X2_leaveOnly (by decide) (by decide) rfl (ltL hn (Nat.le_of_ble_eq_true rfl)) (cOb_Rg (ρ := 1) (by decide) _) rfl (Nat.le_of_ble_eq_true rfl) (q := 54) rfl (fun _ J8 => ?_)
      refine e_iload C dX6_beaten_54 0 rfl (q := 56) rfl ?_
      refine e_iload_n C dX6_beaten_56 rfl 3 rfl (q := 57) rfl ?_
      refine e_icmpeq C (tgt := 90) (q := 60) dX6_beaten_57 rfl rfl ?_ ?_
      · refine e_iinc C (v := x4 + (1 : Int32)) (lv1 := [(4, .int (x4 + (1 : Int32))), (3, .int x3), (0, .ref (oA ω 0)), (1, .int a1), (2, .int a2)]) dX6_beaten_90 0 rfl (Nat.le_of_ble_eq_true rfl) (by rw [ic_1]) rfl (q := 93) rfl ?_
        refine e_goto C (tgt := 28) dX6_beaten_93 rfl ?_
        exact ih (x4 + (1 : Int32)) x3 _
      · refine e_aload_n C dX6_beaten_60 rfl 2 rfl (q := 61) rfl ?_
        refine e_iload_n C dX6_beaten_61 rfl 3 rfl (q := 62) rfl ?_
        refine e_bipush C dX6_beaten_62 b8_60 (q := 64) rfl ?_
        refine e_callVi C (l := l) (k := 0) (av := [.int a1, .int (60 : Int32)]) (st := []) hlau (x_X6_feltBehind (l := l) (ω := ω) (a1 := a1) (a2 := (60 : Int32)) hn (I := J8)) dX6_beaten_64 w_562 w_564 w_16 w_56 w_565 md_X6_feltBehind (by decide) (by decide) rfl (ltL hn (Nat.le_of_ble_eq_true rfl)) rfl rfl (Nat.le_of_ble_eq_true rfl) (q := 67) rfl (fun v10 J9 => ?_)
        refine e_ifle C (tgt := 90) (q := 70) dX6_beaten_67 rfl rfl ?_ ?_
        · refine e_iinc C (v := x4 + (1 : Int32)) (lv1 := [(4, .int (x4 + (1 : Int32))), (3, .int x3), (0, .ref (oA ω 0)), (1, .int a1), (2, .int a2)]) dX6_beaten_90 0 rfl (Nat.le_of_ble_eq_true rfl) (by rw [ic_1]) rfl (q := 93) rfl ?_
          refine e_goto C (tgt := 28) dX6_beaten_93 rfl ?_
          exact ih (x4 + (1 : Int32)) x3 _
        · refine e_aload_n C dX6_beaten_70 rfl 2 rfl (q := 71) rfl ?_
          refine e_getf C (k := 0) (j := 2) (T := TX6) (N := 10) (v := .ref (oA ω 10)) dX6_beaten_71 (ltL hn (Nat.le_of_ble_eq_true rfl)) rfl rfl (by decide) in_X6 w_348 rfl (q := 74) rfl ?_
          refine e_getf C (k := 10) (j := 4) (T := TX2) (N := 11) (v := .ref (oA ω 14)) dX6_beaten_74 (ltL hn (Nat.le_of_ble_eq_true rfl)) (cOb_Rg (ρ := 1) (by decide) _) rfl (by decide) in_X2 w_98 rfl (q := 77) rfl ?_
          refine e_iload C dX6_beaten_77 0 rfl (q := 79) rfl ?_
          refine e_iald C (k := 14) (n := 6) dX6_beaten_79 (ltL hn (Nat.le_of_ble_eq_true rfl)) rfl (q := 80) rfl ?_
          refine e_ifne C (tgt := 90) (q := 83) dX6_beaten_80 rfl rfl ?_ ?_
          · refine e_iinc C (v := x4 + (1 : Int32)) (lv1 := [(4, .int (x4 + (1 : Int32))), (3, .int x3), (0, .ref (oA ω 0)), (1, .int a1), (2, .int a2)]) dX6_beaten_90 0 rfl (Nat.le_of_ble_eq_true rfl) (by rw [ic_1]) rfl (q := 93) rfl ?_
            refine e_goto C (tgt := 28) dX6_beaten_93 rfl ?_
            exact ih (x4 + (1 : Int32)) x3 _
          · refine e_iload_n C dX6_beaten_83 rfl 1 rfl (q := 84) rfl ?_
            refine e_iconst C dX6_beaten_84 ic_1 (q := 85) rfl ?_
            refine e_iload C dX6_beaten_85 0 rfl (q := 87) rfl ?_
            refine e_ishl C dX6_beaten_87 (q := 88) rfl ?_
            refine e_ior C dX6_beaten_88 (q := 89) rfl ?_
            refine e_nmi (fun v11 => ?_)
            refine e_istore_n C (lv1 := [(3, .int v11), (4, .int x4), (0, .ref (oA ω 0)), (1, .int a1), (2, .int a2)]) dX6_beaten_89 rfl (Nat.le_of_ble_eq_true rfl) rfl (q := 90) rfl ?_
            refine e_iinc C (v := x4 + (1 : Int32)) (lv1 := [(4, .int (x4 + (1 : Int32))), (3, .int v11), (0, .ref (oA ω 0)), (1, .int a1), (2, .int a2)]) dX6_beaten_90 1 rfl (Nat.le_of_ble_eq_true rfl) (by rw [ic_1]) rfl (q := 93) rfl ?_
            refine e_goto C (tgt := 28) dX6_beaten_93 rfl ?_
            exact ih (x4 + (1 : Int32)) v11 _
set_option maxHeartbeats 4000000 in
set_option maxRecDepth 100000 in
theorem x_X6_beaten {l : Launch} {ω : Om} {a1 : Int32} {a2 : Int32} (hn : 56 ≤ oN ω)  {I : Mem} : CTi l ω yX6_beaten cX6_beaten 5 (some .int) 7 [.ref (oA ω 0), .int a1, .int a2] (f_X6_beaten a1 a2 I) I := by
  refine ct_i (by decide) (Nat.le_of_ble_eq_true rfl) ?_
  intro κ hlau hret C
  refine e_lv [0, 1, 2] (lv1 := [(0, .ref (oA ω 0)), (1, .int a1), (2, .int a2)]) rfl ?_
  unfold f_X6_beaten
  refine e_aload_n C dX6_beaten_0 rfl 0 rfl (q := 1) rfl ?_
  refine e_iload_n C dX6_beaten_1 rfl 1 rfl (q := 2) rfl ?_
  refine e_callVi C (l := l) (k := 0) (av := [.int a1]) (st := []) hlau (x_X6_isHat (l := l) (ω := ω) (a1 := a1) hn (I := I)) dX6_beaten_2 w_408 w_410 w_12 w_56 w_411 md_X6_isHat (by decide) (by decide) rfl (ltL hn (Nat.le_of_ble_eq_true rfl)) rfl rfl (Nat.le_of_ble_eq_true rfl) (q := 5) rfl (fun v2 J1 => ?_)
  refine e_ifne C (tgt := 11) (q := 8) dX6_beaten_5 rfl rfl ?_ ?_
  · refine e_iload_n C dX6_beaten_11 rfl 2 rfl (q := 12) rfl ?_
    refine e_iconst C dX6_beaten_12 ic_0 (q := 13) rfl ?_
    refine e_iconst C dX6_beaten_13 ic_1 (q := 14) rfl ?_
    refine e_callSi C (l := l) (av := [.int a2, .int (0 : Int32), .int (1 : Int32)]) (st := []) hlau (x_X6_within (l := l) (ω := ω) (a0 := a2) (a1 := (0 : Int32)) (a2 := (1 : Int32)) hn (I := J1)) dX6_beaten_14 w_390 w_391 w_56 w_392 md_X6_within (by decide) (by decide) rfl (Nat.le_of_ble_eq_true rfl) (q := 17) rfl (fun v4 J3 => ?_)
    refine e_ifne C (tgt := 23) (q := 20) dX6_beaten_17 rfl rfl ?_ ?_
    · refine e_iconst C dX6_beaten_23 ic_0 (q := 24) rfl ?_
      refine e_istore_n C (lv1 := [(3, .int (0 : Int32)), (0, .ref (oA ω 0)), (1, .int a1), (2, .int a2)]) dX6_beaten_24 rfl (Nat.le_of_ble_eq_true rfl) rfl (q := 25) rfl ?_
      refine e_iconst C dX6_beaten_25 ic_0 (q := 26) rfl ?_
      refine e_istore C (lv1 := [(4, .int (0 : Int32)), (3, .int (0 : Int32)), (0, .ref (oA ω 0)), (1, .int a1), (2, .int a2)]) dX6_beaten_26 (Nat.le_of_ble_eq_true rfl) rfl (q := 28) rfl ?_
      exact xb_X6_beaten_b28 C hlau hret hn FU (0 : Int32) (0 : Int32) _
    · refine e_bipush C dX6_beaten_20 b8_m7 (q := 22) rfl ?_
      exact e_ireturn C dX6_beaten_22 hret rfl
  · refine e_bipush C dX6_beaten_8 b8_m5 (q := 10) rfl ?_
    exact e_ireturn C dX6_beaten_10 hret rfl
set_option maxHeartbeats 4000000 in
set_option maxRecDepth 100000 in
theorem xb_X6_toss_b42 {l : Launch} {κ : Kx} {ω : Om} {a1 : Int32} {a2 : Int32} {a3 : Int32} (C : CX κ ω cX6_toss 8 7 yX6_toss.cls) (hlau : κ.2.1 = l) (hret : κ.2.2.2.2.2.2.2.2.1.sig.returnType = (some .int)) (hn : 56 ≤ oN ω)  : ∀ (n : Nat) (x6 : Int32) (x5 : Int32) (x4 : Int32) (I : Mem), EE κ ω 8 (Gi κ ω) (f_X6_toss_b42 a1 a2 a3 n x6 x5 x4 I) I 42 [(6, .int x6), (5, .int x5), (4, .int x4), (0, .ref (oA ω 0)), (1, .int a1), (2, .int a2), (3, .int a3)] [] := by
  intro n
  induction n with
  | zero => intro x6 x5 x4 I; exact e_none
  | succ n ih =>
    intro x6 x5 x4 I
    rw [f_X6_toss_b42]
    refine e_iload C dX6_toss_42 0 rfl (q := 44) rfl ?_
    refine e_bipush C dX6_toss_44 b8_64 (q := 46) rfl ?_
    refine e_icmpge C (tgt := 93) (q := 49) dX6_toss_46 rfl rfl ?_ ?_
    · refine e_iload_n C dX6_toss_93 rfl 6 rfl (q := 94) rfl ?_
      refine e_ifne C (tgt := 102) (q := 97) dX6_toss_94 rfl rfl ?_ ?_
      · refine e_iload C dX6_toss_102 1 rfl (q := 104) rfl ?_
        exact e_ireturn C dX6_toss_104 hret rfl
      · refine e_iload C dX6_toss_97 2 rfl (q := 99) rfl ?_
        refine e_goto C (tgt := 104) dX6_toss_99 rfl ?_
        exact e_ireturn C dX6_toss_104 hret rfl
    · refine e_aload_n C dX6_toss_49 rfl 3 rfl (q := 50) rfl ?_
      refine e_callVv C (l := l) (k := 0) (av := []) (st := []) hlau (x_X6_imagine (l := l) (ω := ω) hn (I := I)) dX6_toss_50 w_520 w_522 w_15 w_56 w_523 md_X6_imagine (by decide) (by decide) rfl (ltL hn (Nat.le_of_ble_eq_true rfl)) rfl rfl (Nat.le_of_ble_eq_true rfl) (q := 53) rfl (fun _ J7 => ?_)
      refine e_aload_n C dX6_toss_53 rfl 3 rfl (q := 54) rfl ?_
      refine e_getf C (k := 0) (j := 2) (T := TX6) (N := 10) (v := .ref (oA ω 10)) dX6_toss_54 (ltL hn (Nat.le_of_ble_eq_true rfl)) rfl rfl (by decide) in_X6 w_348 rfl (q := 57) rfl ?_
      refine e_getf C (k := 10) (j := 3) (T := TX2) (N := 11) (v := .ref (oA ω 13)) dX6_toss_57 (ltL hn (Nat.le_of_ble_eq_true rfl)) (cOb_Rg (ρ := 1) (by decide) _) rfl (by decide) in_X2 w_95 rfl (q := 60) rfl ?_
      refine e_iload_n C dX6_toss_60 rfl 4 rfl (q := 61) rfl ?_
      refine e_iload C dX6_toss_61 0 rfl (q := 63) rfl ?_
      refine e_iast C (k := 13) (n := 6) dX6_toss_63 (ltL hn (Nat.le_of_ble_eq_true rfl)) (fun _ => rfl) (q := 64) rfl ?_
      refine e_nmM (fun J8 => ?_)
      refine e_aload_n C dX6_toss_64 rfl 3 rfl (q := 65) rfl ?_
      refine e_iload_n C dX6_toss_65 rfl 4 rfl (q := 66) rfl ?_
      refine e_iload_n C dX6_toss_66 rfl 5 rfl (q := 67) rfl ?_
      refine e_callVi C (l := l) (k := 0) (av := [.int a1, .int a2]) (st := []) hlau (x_X6_feltBehind (l := l) (ω := ω) (a1 := a1) (a2 := a2) hn (I := J8)) dX6_toss_67 w_562 w_564 w_16 w_56 w_565 md_X6_feltBehind (by decide) (by decide) rfl (ltL hn (Nat.le_of_ble_eq_true rfl)) rfl rfl (Nat.le_of_ble_eq_true rfl) (q := 70) rfl (fun v10 J9 => ?_)
      refine e_istore C (lv1 := [(7, .int v10), (6, .int x6), (5, .int x5), (4, .int x4), (0, .ref (oA ω 0)), (1, .int a1), (2, .int a2), (3, .int a3)]) dX6_toss_70 (Nat.le_of_ble_eq_true rfl) rfl (q := 72) rfl ?_
      refine e_iload C dX6_toss_72 0 rfl (q := 74) rfl ?_
      refine e_iload C dX6_toss_74 2 rfl (q := 76) rfl ?_
      refine e_icmple C (tgt := 87) (q := 79) dX6_toss_76 rfl rfl ?_ ?_
      · refine e_iinc C (v := x6 + (1 : Int32)) (lv1 := [(6, .int (x6 + (1 : Int32))), (7, .int v10), (5, .int x5), (4, .int x4), (0, .ref (oA ω 0)), (1, .int a1), (2, .int a2), (3, .int a3)]) dX6_toss_87 1 rfl (Nat.le_of_ble_eq_true rfl) (by rw [ic_1]) rfl (q := 90) rfl ?_
        refine e_goto C (tgt := 42) dX6_toss_90 rfl ?_
        exact e_lv [0, 2, 3, 4, 5, 6, 7] (lv1 := [(6, .int (x6 + (1 : Int32))), (5, .int x5), (4, .int x4), (0, .ref (oA ω 0)), (1, .int a1), (2, .int a2), (3, .int a3)]) rfl (ih (x6 + (1 : Int32)) x5 x4 _)
      · refine e_iload C dX6_toss_79 0 rfl (q := 81) rfl ?_
        refine e_istore C (lv1 := [(5, .int v10), (7, .int v10), (6, .int x6), (4, .int x4), (0, .ref (oA ω 0)), (1, .int a1), (2, .int a2), (3, .int a3)]) dX6_toss_81 (Nat.le_of_ble_eq_true rfl) rfl (q := 83) rfl ?_
        refine e_iload C dX6_toss_83 2 rfl (q := 85) rfl ?_
        refine e_istore C (lv1 := [(4, .int x6), (5, .int v10), (7, .int v10), (6, .int x6), (0, .ref (oA ω 0)), (1, .int a1), (2, .int a2), (3, .int a3)]) dX6_toss_85 (Nat.le_of_ble_eq_true rfl) rfl (q := 87) rfl ?_
        refine e_iinc C (v := x6 + (1 : Int32)) (lv1 := [(6, .int (x6 + (1 : Int32))), (4, .int x6), (5, .int v10), (7, .int v10), (0, .ref (oA ω 0)), (1, .int a1), (2, .int a2), (3, .int a3)]) dX6_toss_87 3 rfl (Nat.le_of_ble_eq_true rfl) (by rw [ic_1]) rfl (q := 90) rfl ?_
        refine e_goto C (tgt := 42) dX6_toss_90 rfl ?_
        exact e_lv [0, 2, 1, 4, 5, 6, 7] (lv1 := [(6, .int (x6 + (1 : Int32))), (5, .int v10), (4, .int x6), (0, .ref (oA ω 0)), (1, .int a1), (2, .int a2), (3, .int a3)]) rfl (ih (x6 + (1 : Int32)) v10 x6 _)
set_option maxHeartbeats 4000000 in
set_option maxRecDepth 100000 in
theorem x_X6_toss {l : Launch} {ω : Om} {a1 : Int32} {a2 : Int32} {a3 : Int32} (hn : 56 ≤ oN ω)  {I : Mem} : CTi l ω yX6_toss cX6_toss 8 (some .int) 7 [.ref (oA ω 0), .int a1, .int a2, .int a3] (f_X6_toss a1 a2 a3 I) I := by
  refine ct_i (by decide) (Nat.le_of_ble_eq_true rfl) ?_
  intro κ hlau hret C
  refine e_lv [0, 1, 2, 3] (lv1 := [(0, .ref (oA ω 0)), (1, .int a1), (2, .int a2), (3, .int a3)]) rfl ?_
  unfold f_X6_toss
  refine e_aload_n C dX6_toss_0 rfl 0 rfl (q := 1) rfl ?_
  refine e_iload_n C dX6_toss_1 rfl 1 rfl (q := 2) rfl ?_
  refine e_callVi C (l := l) (k := 0) (av := [.int a1]) (st := []) hlau (x_X6_isHat (l := l) (ω := ω) (a1 := a1) hn (I := I)) dX6_toss_2 w_408 w_410 w_12 w_56 w_411 md_X6_isHat (by decide) (by decide) rfl (ltL hn (Nat.le_of_ble_eq_true rfl)) rfl rfl (Nat.le_of_ble_eq_true rfl) (q := 5) rfl (fun v2 J1 => ?_)
  refine e_ifne C (tgt := 11) (q := 8) dX6_toss_5 rfl rfl ?_ ?_
  · refine e_iload_n C dX6_toss_11 rfl 2 rfl (q := 12) rfl ?_
    refine e_iconst C dX6_toss_12 ic_0 (q := 13) rfl ?_
    refine e_bipush C dX6_toss_13 b8_40 (q := 15) rfl ?_
    refine e_callSi C (l := l) (av := [.int a2, .int (0 : Int32), .int (40 : Int32)]) (st := []) hlau (x_X6_within (l := l) (ω := ω) (a0 := a2) (a1 := (0 : Int32)) (a2 := (40 : Int32)) hn (I := J1)) dX6_toss_15 w_390 w_391 w_56 w_392 md_X6_within (by decide) (by decide) rfl (Nat.le_of_ble_eq_true rfl) (q := 18) rfl (fun v4 J3 => ?_)
    refine e_ifeq C (tgt := 30) (q := 21) dX6_toss_18 rfl rfl ?_ ?_
    · refine e_bipush C dX6_toss_30 b8_m7 (q := 32) rfl ?_
      exact e_ireturn C dX6_toss_32 hret rfl
    · refine e_iload_n C dX6_toss_21 rfl 3 rfl (q := 22) rfl ?_
      refine e_iconst C dX6_toss_22 ic_0 (q := 23) rfl ?_
      refine e_iconst C dX6_toss_23 ic_1 (q := 24) rfl ?_
      refine e_callSi C (l := l) (av := [.int a3, .int (0 : Int32), .int (1 : Int32)]) (st := []) hlau (x_X6_within (l := l) (ω := ω) (a0 := a3) (a1 := (0 : Int32)) (a2 := (1 : Int32)) hn (I := J3)) dX6_toss_24 w_390 w_391 w_56 w_392 md_X6_within (by decide) (by decide) rfl (Nat.le_of_ble_eq_true rfl) (q := 27) rfl (fun v6 J5 => ?_)
      refine e_ifne C (tgt := 33) (q := 30) dX6_toss_27 rfl rfl ?_ ?_
      · refine e_iconst C dX6_toss_33 ic_0 (q := 34) rfl ?_
        refine e_istore C (lv1 := [(4, .int (0 : Int32)), (0, .ref (oA ω 0)), (1, .int a1), (2, .int a2), (3, .int a3)]) dX6_toss_34 (Nat.le_of_ble_eq_true rfl) rfl (q := 36) rfl ?_
        refine e_iconst C dX6_toss_36 ic_m1 (q := 37) rfl ?_
        refine e_istore C (lv1 := [(5, .int (-1 : Int32)), (4, .int (0 : Int32)), (0, .ref (oA ω 0)), (1, .int a1), (2, .int a2), (3, .int a3)]) dX6_toss_37 (Nat.le_of_ble_eq_true rfl) rfl (q := 39) rfl ?_
        refine e_iconst C dX6_toss_39 ic_0 (q := 40) rfl ?_
        refine e_istore C (lv1 := [(6, .int (0 : Int32)), (5, .int (-1 : Int32)), (4, .int (0 : Int32)), (0, .ref (oA ω 0)), (1, .int a1), (2, .int a2), (3, .int a3)]) dX6_toss_40 (Nat.le_of_ble_eq_true rfl) rfl (q := 42) rfl ?_
        exact xb_X6_toss_b42 C hlau hret hn FU (0 : Int32) (-1 : Int32) (0 : Int32) _
      · refine e_bipush C dX6_toss_30 b8_m7 (q := 32) rfl ?_
        exact e_ireturn C dX6_toss_32 hret rfl
  · refine e_bipush C dX6_toss_8 b8_m5 (q := 10) rfl ?_
    exact e_ireturn C dX6_toss_10 hret rfl
set_option maxHeartbeats 4000000 in
set_option maxRecDepth 100000 in
theorem xb_X6_rid_b51 {l : Launch} {κ : Kx} {ω : Om} {a1 : Int32} {a2 : Int32} {a3 : Int32} (C : CX κ ω cX6_rid 8 7 yX6_rid.cls) (hlau : κ.2.1 = l) (hret : κ.2.2.2.2.2.2.2.2.1.sig.returnType = (some .int)) (hn : 56 ≤ oN ω)  : ∀ (n : Nat) (x6 : Int32) (x5 : Int32) (x4 : Int32) (I : Mem), EE κ ω 8 (Gi κ ω) (f_X6_rid_b51 a1 a2 a3 n x6 x5 x4 I) I 51 [(6, .int x6), (5, .int x5), (4, .int x4), (0, .ref (oA ω 0)), (1, .int a1), (2, .int a2), (3, .int a3)] [] := by
  intro n
  induction n with
  | zero => intro x6 x5 x4 I; exact e_none
  | succ n ih =>
    intro x6 x5 x4 I
    rw [f_X6_rid_b51]
    refine e_iload C dX6_rid_51 0 rfl (q := 53) rfl ?_
    refine e_aload_n C dX6_rid_53 rfl 3 rfl (q := 54) rfl ?_
    refine e_getf C (k := 0) (j := 1) (T := TX6) (N := 10) (v := .ref (oA ω 2)) dX6_rid_54 (ltL hn (Nat.le_of_ble_eq_true rfl)) rfl rfl (by decide) in_X6 w_347 rfl (q := 57) rfl ?_
    refine e_getf C (k := 2) (j := 8) (T := TX2) (N := 11) (v := .int (I 2 8)) dX6_rid_57 (ltL hn (Nat.le_of_ble_eq_true rfl)) (cOb_Rg (ρ := 0) (by decide) _) rfl (by decide) in_X2 w_107 rfl (q := 60) rfl ?_
    refine e_icmpge C (tgt := 126) (q := 63) dX6_rid_60 rfl rfl ?_ ?_
    · refine e_iload_n C dX6_rid_126 rfl 6 rfl (q := 127) rfl ?_
      refine e_ifne C (tgt := 135) (q := 130) dX6_rid_127 rfl rfl ?_ ?_
      · refine e_iload C dX6_rid_135 2 rfl (q := 137) rfl ?_
        exact e_ireturn C dX6_rid_137 hret rfl
      · refine e_iload C dX6_rid_130 1 rfl (q := 132) rfl ?_
        refine e_goto C (tgt := 137) dX6_rid_132 rfl ?_
        exact e_ireturn C dX6_rid_137 hret rfl
    · refine e_iload C dX6_rid_63 0 rfl (q := 65) rfl ?_
      refine e_iload_n C dX6_rid_65 rfl 4 rfl (q := 66) rfl ?_
      refine e_icmpeq C (tgt := 120) (q := 69) dX6_rid_66 rfl rfl ?_ ?_
      · refine e_iinc C (v := x6 + (1 : Int32)) (lv1 := [(6, .int (x6 + (1 : Int32))), (5, .int x5), (4, .int x4), (0, .ref (oA ω 0)), (1, .int a1), (2, .int a2), (3, .int a3)]) dX6_rid_120 0 rfl (Nat.le_of_ble_eq_true rfl) (by rw [ic_1]) rfl (q := 123) rfl ?_
        refine e_goto C (tgt := 51) dX6_rid_123 rfl ?_
        exact ih (x6 + (1 : Int32)) x5 x4 _
      · refine e_aload_n C dX6_rid_69 rfl 3 rfl (q := 70) rfl ?_
        refine e_getf C (k := 0) (j := 1) (T := TX6) (N := 10) (v := .ref (oA ω 2)) dX6_rid_70 (ltL hn (Nat.le_of_ble_eq_true rfl)) rfl rfl (by decide) in_X6 w_347 rfl (q := 73) rfl ?_
        refine e_getf C (k := 2) (j := 4) (T := TX2) (N := 11) (v := .ref (oA ω 6)) dX6_rid_73 (ltL hn (Nat.le_of_ble_eq_true rfl)) (cOb_Rg (ρ := 0) (by decide) _) rfl (by decide) in_X2 w_98 rfl (q := 76) rfl ?_
        refine e_iload C dX6_rid_76 0 rfl (q := 78) rfl ?_
        refine e_iald C (k := 6) (n := 6) dX6_rid_78 (ltL hn (Nat.le_of_ble_eq_true rfl)) rfl (q := 79) rfl ?_
        refine e_ifle C (tgt := 120) (q := 82) dX6_rid_79 rfl rfl ?_ ?_
        · refine e_iinc C (v := x6 + (1 : Int32)) (lv1 := [(6, .int (x6 + (1 : Int32))), (5, .int x5), (4, .int x4), (0, .ref (oA ω 0)), (1, .int a1), (2, .int a2), (3, .int a3)]) dX6_rid_120 0 rfl (Nat.le_of_ble_eq_true rfl) (by rw [ic_1]) rfl (q := 123) rfl ?_
          refine e_goto C (tgt := 51) dX6_rid_123 rfl ?_
          exact ih (x6 + (1 : Int32)) x5 x4 _
        · refine e_aload_n C dX6_rid_82 rfl 3 rfl (q := 83) rfl ?_
          refine e_callVv C (l := l) (k := 0) (av := []) (st := []) hlau (x_X6_imagine (l := l) (ω := ω) hn (I := I)) dX6_rid_83 w_520 w_522 w_15 w_56 w_523 md_X6_imagine (by decide) (by decide) rfl (ltL hn (Nat.le_of_ble_eq_true rfl)) rfl rfl (Nat.le_of_ble_eq_true rfl) (q := 86) rfl (fun _ J10 => ?_)
          refine e_aload_n C dX6_rid_86 rfl 3 rfl (q := 87) rfl ?_
          refine e_getf C (k := 0) (j := 2) (T := TX6) (N := 10) (v := .ref (oA ω 10)) dX6_rid_87 (ltL hn (Nat.le_of_ble_eq_true rfl)) rfl rfl (by decide) in_X6 w_348 rfl (q := 90) rfl ?_
          refine e_getf C (k := 10) (j := 4) (T := TX2) (N := 11) (v := .ref (oA ω 14)) dX6_rid_90 (ltL hn (Nat.le_of_ble_eq_true rfl)) (cOb_Rg (ρ := 1) (by decide) _) rfl (by decide) in_X2 w_98 rfl (q := 93) rfl ?_
          refine e_iload C dX6_rid_93 0 rfl (q := 95) rfl ?_
          refine e_iconst C dX6_rid_95 ic_0 (q := 96) rfl ?_
          refine e_iast C (k := 14) (n := 6) dX6_rid_96 (ltL hn (Nat.le_of_ble_eq_true rfl)) (fun _ => rfl) (q := 97) rfl ?_
          refine e_nmM (fun J11 => ?_)
          refine e_aload_n C dX6_rid_97 rfl 3 rfl (q := 98) rfl ?_
          refine e_iload_n C dX6_rid_98 rfl 4 rfl (q := 99) rfl ?_
          refine e_iload_n C dX6_rid_99 rfl 5 rfl (q := 100) rfl ?_
          refine e_callVi C (l := l) (k := 0) (av := [.int a1, .int a2]) (st := []) hlau (x_X6_feltBehind (l := l) (ω := ω) (a1 := a1) (a2 := a2) hn (I := J11)) dX6_rid_100 w_562 w_564 w_16 w_56 w_565 md_X6_feltBehind (by decide) (by decide) rfl (ltL hn (Nat.le_of_ble_eq_true rfl)) rfl rfl (Nat.le_of_ble_eq_true rfl) (q := 103) rfl (fun v13 J12 => ?_)
          refine e_istore C (lv1 := [(7, .int v13), (6, .int x6), (5, .int x5), (4, .int x4), (0, .ref (oA ω 0)), (1, .int a1), (2, .int a2), (3, .int a3)]) dX6_rid_103 (Nat.le_of_ble_eq_true rfl) rfl (q := 105) rfl ?_
          refine e_iload C dX6_rid_105 0 rfl (q := 107) rfl ?_
          refine e_iload C dX6_rid_107 3 rfl (q := 109) rfl ?_
          refine e_icmple C (tgt := 120) (q := 112) dX6_rid_109 rfl rfl ?_ ?_
          · refine e_iinc C (v := x6 + (1 : Int32)) (lv1 := [(6, .int (x6 + (1 : Int32))), (7, .int v13), (5, .int x5), (4, .int x4), (0, .ref (oA ω 0)), (1, .int a1), (2, .int a2), (3, .int a3)]) dX6_rid_120 1 rfl (Nat.le_of_ble_eq_true rfl) (by rw [ic_1]) rfl (q := 123) rfl ?_
            refine e_goto C (tgt := 51) dX6_rid_123 rfl ?_
            exact e_lv [0, 2, 3, 4, 5, 6, 7] (lv1 := [(6, .int (x6 + (1 : Int32))), (5, .int x5), (4, .int x4), (0, .ref (oA ω 0)), (1, .int a1), (2, .int a2), (3, .int a3)]) rfl (ih (x6 + (1 : Int32)) x5 x4 _)
          · refine e_iload C dX6_rid_112 0 rfl (q := 114) rfl ?_
            refine e_istore C (lv1 := [(4, .int v13), (7, .int v13), (6, .int x6), (5, .int x5), (0, .ref (oA ω 0)), (1, .int a1), (2, .int a2), (3, .int a3)]) dX6_rid_114 (Nat.le_of_ble_eq_true rfl) rfl (q := 116) rfl ?_
            refine e_iload C dX6_rid_116 2 rfl (q := 118) rfl ?_
            refine e_istore C (lv1 := [(5, .int x6), (4, .int v13), (7, .int v13), (6, .int x6), (0, .ref (oA ω 0)), (1, .int a1), (2, .int a2), (3, .int a3)]) dX6_rid_118 (Nat.le_of_ble_eq_true rfl) rfl (q := 120) rfl ?_
            refine e_iinc C (v := x6 + (1 : Int32)) (lv1 := [(6, .int (x6 + (1 : Int32))), (5, .int x6), (4, .int v13), (7, .int v13), (0, .ref (oA ω 0)), (1, .int a1), (2, .int a2), (3, .int a3)]) dX6_rid_120 3 rfl (Nat.le_of_ble_eq_true rfl) (by rw [ic_1]) rfl (q := 123) rfl ?_
            refine e_goto C (tgt := 51) dX6_rid_123 rfl ?_
            exact e_lv [0, 1, 2, 4, 5, 6, 7] (lv1 := [(6, .int (x6 + (1 : Int32))), (5, .int x6), (4, .int v13), (0, .ref (oA ω 0)), (1, .int a1), (2, .int a2), (3, .int a3)]) rfl (ih (x6 + (1 : Int32)) x6 v13 _)
set_option maxHeartbeats 4000000 in
set_option maxRecDepth 100000 in
theorem x_X6_rid {l : Launch} {ω : Om} {a1 : Int32} {a2 : Int32} {a3 : Int32} (hn : 56 ≤ oN ω)  {I : Mem} : CTi l ω yX6_rid cX6_rid 8 (some .int) 7 [.ref (oA ω 0), .int a1, .int a2, .int a3] (f_X6_rid a1 a2 a3 I) I := by
  refine ct_i (by decide) (Nat.le_of_ble_eq_true rfl) ?_
  intro κ hlau hret C
  refine e_lv [0, 1, 2, 3] (lv1 := [(0, .ref (oA ω 0)), (1, .int a1), (2, .int a2), (3, .int a3)]) rfl ?_
  unfold f_X6_rid
  refine e_aload_n C dX6_rid_0 rfl 0 rfl (q := 1) rfl ?_
  refine e_iload_n C dX6_rid_1 rfl 1 rfl (q := 2) rfl ?_
  refine e_callVi C (l := l) (k := 0) (av := [.int a1]) (st := []) hlau (x_X6_isHat (l := l) (ω := ω) (a1 := a1) hn (I := I)) dX6_rid_2 w_408 w_410 w_12 w_56 w_411 md_X6_isHat (by decide) (by decide) rfl (ltL hn (Nat.le_of_ble_eq_true rfl)) rfl rfl (Nat.le_of_ble_eq_true rfl) (q := 5) rfl (fun v2 J1 => ?_)
  refine e_ifne C (tgt := 11) (q := 8) dX6_rid_5 rfl rfl ?_ ?_
  · refine e_iload_n C dX6_rid_11 rfl 2 rfl (q := 12) rfl ?_
    refine e_iconst C dX6_rid_12 ic_0 (q := 13) rfl ?_
    refine e_bipush C dX6_rid_13 b8_40 (q := 15) rfl ?_
    refine e_callSi C (l := l) (av := [.int a2, .int (0 : Int32), .int (40 : Int32)]) (st := []) hlau (x_X6_within (l := l) (ω := ω) (a0 := a2) (a1 := (0 : Int32)) (a2 := (40 : Int32)) hn (I := J1)) dX6_rid_15 w_390 w_391 w_56 w_392 md_X6_within (by decide) (by decide) rfl (Nat.le_of_ble_eq_true rfl) (q := 18) rfl (fun v4 J3 => ?_)
    refine e_ifeq C (tgt := 30) (q := 21) dX6_rid_18 rfl rfl ?_ ?_
    · refine e_bipush C dX6_rid_30 b8_m7 (q := 32) rfl ?_
      exact e_ireturn C dX6_rid_32 hret rfl
    · refine e_iload_n C dX6_rid_21 rfl 3 rfl (q := 22) rfl ?_
      refine e_iconst C dX6_rid_22 ic_0 (q := 23) rfl ?_
      refine e_iconst C dX6_rid_23 ic_1 (q := 24) rfl ?_
      refine e_callSi C (l := l) (av := [.int a3, .int (0 : Int32), .int (1 : Int32)]) (st := []) hlau (x_X6_within (l := l) (ω := ω) (a0 := a3) (a1 := (0 : Int32)) (a2 := (1 : Int32)) hn (I := J3)) dX6_rid_24 w_390 w_391 w_56 w_392 md_X6_within (by decide) (by decide) rfl (Nat.le_of_ble_eq_true rfl) (q := 27) rfl (fun v6 J5 => ?_)
      refine e_ifne C (tgt := 33) (q := 30) dX6_rid_27 rfl rfl ?_ ?_
      · refine e_aload_n C dX6_rid_33 rfl 0 rfl (q := 34) rfl ?_
        refine e_callVv C (l := l) (k := 0) (av := []) (st := []) hlau (x_X6_imagine (l := l) (ω := ω) hn (I := J5)) dX6_rid_34 w_520 w_522 w_15 w_56 w_523 md_X6_imagine (by decide) (by decide) rfl (ltL hn (Nat.le_of_ble_eq_true rfl)) rfl rfl (Nat.le_of_ble_eq_true rfl) (q := 37) rfl (fun _ J7 => ?_)
        refine e_aload_n C dX6_rid_37 rfl 0 rfl (q := 38) rfl ?_
        refine e_iload_n C dX6_rid_38 rfl 1 rfl (q := 39) rfl ?_
        refine e_iload_n C dX6_rid_39 rfl 2 rfl (q := 40) rfl ?_
        refine e_callVi C (l := l) (k := 0) (av := [.int a1, .int a2]) (st := []) hlau (x_X6_feltBehind (l := l) (ω := ω) (a1 := a1) (a2 := a2) hn (I := J7)) dX6_rid_40 w_562 w_564 w_16 w_56 w_565 md_X6_feltBehind (by decide) (by decide) rfl (ltL hn (Nat.le_of_ble_eq_true rfl)) rfl rfl (Nat.le_of_ble_eq_true rfl) (q := 43) rfl (fun v9 J8 => ?_)
        refine e_istore C (lv1 := [(4, .int v9), (0, .ref (oA ω 0)), (1, .int a1), (2, .int a2), (3, .int a3)]) dX6_rid_43 (Nat.le_of_ble_eq_true rfl) rfl (q := 45) rfl ?_
        refine e_iconst C dX6_rid_45 ic_m1 (q := 46) rfl ?_
        refine e_istore C (lv1 := [(5, .int (-1 : Int32)), (4, .int v9), (0, .ref (oA ω 0)), (1, .int a1), (2, .int a2), (3, .int a3)]) dX6_rid_46 (Nat.le_of_ble_eq_true rfl) rfl (q := 48) rfl ?_
        refine e_iconst C dX6_rid_48 ic_0 (q := 49) rfl ?_
        refine e_istore C (lv1 := [(6, .int (0 : Int32)), (5, .int (-1 : Int32)), (4, .int v9), (0, .ref (oA ω 0)), (1, .int a1), (2, .int a2), (3, .int a3)]) dX6_rid_49 (Nat.le_of_ble_eq_true rfl) rfl (q := 51) rfl ?_
        exact xb_X6_rid_b51 C hlau hret hn FU (0 : Int32) (-1 : Int32) v9 _
      · refine e_bipush C dX6_rid_30 b8_m7 (q := 32) rfl ?_
        exact e_ireturn C dX6_rid_32 hret rfl
  · refine e_bipush C dX6_rid_8 b8_m5 (q := 10) rfl ?_
    exact e_ireturn C dX6_rid_10 hret rfl
set_option maxHeartbeats 4000000 in
set_option maxRecDepth 100000 in
theorem xb_X6_lasts_b26 {l : Launch} {κ : Kx} {ω : Om} {a1 : Int32} {a2 : Int32} (C : CX κ ω cX6_lasts 4 7 yX6_lasts.cls) (hlau : κ.2.1 = l) (hret : κ.2.2.2.2.2.2.2.2.1.sig.returnType = (some .int)) (hn : 56 ≤ oN ω)  : ∀ (n : Nat) (x3 : Int32) (I : Mem), EE κ ω 4 (Gi κ ω) (f_X6_lasts_b26 a1 a2 n x3 I) I 26 [(3, .int x3), (0, .ref (oA ω 0)), (1, .int a1), (2, .int a2)] [] := by
  intro n
  induction n with
  | zero => intro x3 I; exact e_none
  | succ n ih =>
    intro x3 I
    rw [f_X6_lasts_b26]
    refine e_iload_n C dX6_lasts_26 rfl 0 rfl (q := 27) rfl ?_
    refine e_bipush C dX6_lasts_27 b8_99 (q := 29) rfl ?_
    refine e_icmpgt C (tgt := 63) (q := 32) dX6_lasts_29 rfl rfl ?_ ?_
    · refine e_iconst C dX6_lasts_63 ic_m1 (q := 64) rfl ?_
      exact e_ireturn C dX6_lasts_64 hret rfl
    · refine e_aload_n C dX6_lasts_32 rfl 1 rfl (q := 33) rfl ?_
      refine e_callVv C (l := l) (k := 0) (av := []) (st := []) hlau (x_X6_imagine (l := l) (ω := ω) hn (I := I)) dX6_lasts_33 w_520 w_522 w_15 w_56 w_523 md_X6_imagine (by decide) (by decide) rfl (ltL hn (Nat.le_of_ble_eq_true rfl)) rfl rfl (Nat.le_of_ble_eq_true rfl) (q := 36) rfl (fun _ J5 => ?_)
      refine e_aload_n C dX6_lasts_36 rfl 1 rfl (q := 37) rfl ?_
      refine e_getf C (k := 0) (j := 2) (T := TX6) (N := 10) (v := .ref (oA ω 10)) dX6_lasts_37 (ltL hn (Nat.le_of_ble_eq_true rfl)) rfl rfl (by decide) in_X6 w_348 rfl (q := 40) rfl ?_
      refine e_getf C (k := 10) (j := 4) (T := TX2) (N := 11) (v := .ref (oA ω 14)) dX6_lasts_40 (ltL hn (Nat.le_of_ble_eq_true rfl)) (cOb_Rg (ρ := 1) (by decide) _) rfl (by decide) in_X2 w_98 rfl (q := 43) rfl ?_
      refine e_iload_n C dX6_lasts_43 rfl 2 rfl (q := 44) rfl ?_
      refine e_iload_n C dX6_lasts_44 rfl 0 rfl (q := 45) rfl ?_
      refine e_iast C (k := 14) (n := 6) dX6_lasts_45 (ltL hn (Nat.le_of_ble_eq_true rfl)) (fun _ => rfl) (q := 46) rfl ?_
      refine e_nmM (fun J6 => ?_)
      refine e_aload_n C dX6_lasts_46 rfl 1 rfl (q := 47) rfl ?_
      refine e_iload_n C dX6_lasts_47 rfl 2 rfl (q := 48) rfl ?_
      refine e_iload_n C dX6_lasts_48 rfl 3 rfl (q := 49) rfl ?_
      refine e_callVi C (l := l) (k := 0) (av := [.int a1, .int a2]) (st := []) hlau (x_X6_feltBehind (l := l) (ω := ω) (a1 := a1) (a2 := a2) hn (I := J6)) dX6_lasts_49 w_562 w_564 w_16 w_56 w_565 md_X6_feltBehind (by decide) (by decide) rfl (ltL hn (Nat.le_of_ble_eq_true rfl)) rfl rfl (Nat.le_of_ble_eq_true rfl) (q := 52) rfl (fun v8 J7 => ?_)
      refine e_ifle C (tgt := 57) (q := 55) dX6_lasts_52 rfl rfl ?_ ?_
      · refine e_iinc C (v := x3 + (1 : Int32)) (lv1 := [(3, .int (x3 + (1 : Int32))), (0, .ref (oA ω 0)), (1, .int a1), (2, .int a2)]) dX6_lasts_57 0 rfl (Nat.le_of_ble_eq_true rfl) (by rw [ic_1]) rfl (q := 60) rfl ?_
        refine e_goto C (tgt := 26) dX6_lasts_60 rfl ?_
        exact ih (x3 + (1 : Int32)) _
      · refine e_iload_n C dX6_lasts_55 rfl 0 rfl (q := 56) rfl ?_
        exact e_ireturn C dX6_lasts_56 hret rfl
set_option maxHeartbeats 4000000 in
set_option maxRecDepth 100000 in
theorem x_X6_lasts {l : Launch} {ω : Om} {a1 : Int32} {a2 : Int32} (hn : 56 ≤ oN ω)  {I : Mem} : CTi l ω yX6_lasts cX6_lasts 4 (some .int) 7 [.ref (oA ω 0), .int a1, .int a2] (f_X6_lasts a1 a2 I) I := by
  refine ct_i (by decide) (Nat.le_of_ble_eq_true rfl) ?_
  intro κ hlau hret C
  refine e_lv [0, 1, 2] (lv1 := [(0, .ref (oA ω 0)), (1, .int a1), (2, .int a2)]) rfl ?_
  unfold f_X6_lasts
  refine e_aload_n C dX6_lasts_0 rfl 0 rfl (q := 1) rfl ?_
  refine e_iload_n C dX6_lasts_1 rfl 1 rfl (q := 2) rfl ?_
  refine e_callVi C (l := l) (k := 0) (av := [.int a1]) (st := []) hlau (x_X6_isHat (l := l) (ω := ω) (a1 := a1) hn (I := I)) dX6_lasts_2 w_408 w_410 w_12 w_56 w_411 md_X6_isHat (by decide) (by decide) rfl (ltL hn (Nat.le_of_ble_eq_true rfl)) rfl rfl (Nat.le_of_ble_eq_true rfl) (q := 5) rfl (fun v2 J1 => ?_)
  refine e_ifne C (tgt := 11) (q := 8) dX6_lasts_5 rfl rfl ?_ ?_
  · refine e_iload_n C dX6_lasts_11 rfl 2 rfl (q := 12) rfl ?_
    refine e_iconst C dX6_lasts_12 ic_0 (q := 13) rfl ?_
    refine e_bipush C dX6_lasts_13 b8_40 (q := 15) rfl ?_
    refine e_callSi C (l := l) (av := [.int a2, .int (0 : Int32), .int (40 : Int32)]) (st := []) hlau (x_X6_within (l := l) (ω := ω) (a0 := a2) (a1 := (0 : Int32)) (a2 := (40 : Int32)) hn (I := J1)) dX6_lasts_15 w_390 w_391 w_56 w_392 md_X6_within (by decide) (by decide) rfl (Nat.le_of_ble_eq_true rfl) (q := 18) rfl (fun v4 J3 => ?_)
    refine e_ifne C (tgt := 24) (q := 21) dX6_lasts_18 rfl rfl ?_ ?_
    · refine e_iconst C dX6_lasts_24 ic_0 (q := 25) rfl ?_
      refine e_istore_n C (lv1 := [(3, .int (0 : Int32)), (0, .ref (oA ω 0)), (1, .int a1), (2, .int a2)]) dX6_lasts_25 rfl (Nat.le_of_ble_eq_true rfl) rfl (q := 26) rfl ?_
      exact xb_X6_lasts_b26 C hlau hret hn FU (0 : Int32) _
    · refine e_bipush C dX6_lasts_21 b8_m7 (q := 23) rfl ?_
      exact e_ireturn C dX6_lasts_23 hret rfl
  · refine e_bipush C dX6_lasts_8 b8_m5 (q := 10) rfl ?_
    exact e_ireturn C dX6_lasts_10 hret rfl
set_option maxHeartbeats 4000000 in
set_option maxRecDepth 100000 in
theorem xb_X6_lowestTerms_b51 {l : Launch} {κ : Kx} {ω : Om} {a0 : Int32} {a1 : Int32} {a2 : Int32} (C : CX κ ω cX6_lowestTerms 4 2 yX6_lowestTerms.cls) (hlau : κ.2.1 = l) (hret : κ.2.2.2.2.2.2.2.2.1.sig.returnType = (some .long)) (hn : 56 ≤ oN ω)  : ∀ (x3 : Int32) (s0 : Int32) (I : Mem), EE κ ω 4 (Gl κ ω) (f_X6_lowestTerms_b51 a0 a1 a2 x3 s0 I) I 51 [(3, .int x3)] [.int s0] := by
  intro x3 s0 I
  unfold f_X6_lowestTerms_b51
  refine e_iload_n C dX6_lowestTerms_51 rfl 0 rfl (q := 52) rfl ?_
  refine e_grdn (fun h3 => ?_)
  refine e_idiv C dX6_lowestTerms_52 h3 (q := 53) rfl ?_
  refine e_i2l C dX6_lowestTerms_53 (q := 54) rfl ?_
  exact e_lreturn C dX6_lowestTerms_54 hret
set_option maxHeartbeats 4000000 in
set_option maxRecDepth 100000 in
theorem xb_X6_lowestTerms_b42 {l : Launch} {κ : Kx} {ω : Om} {a0 : Int32} {a1 : Int32} {a2 : Int32} (C : CX κ ω cX6_lowestTerms 4 2 yX6_lowestTerms.cls) (hlau : κ.2.1 = l) (hret : κ.2.2.2.2.2.2.2.2.1.sig.returnType = (some .long)) (hn : 56 ≤ oN ω)  : ∀ (x3 : Int32) (I : Mem), EE κ ω 4 (Gl κ ω) (f_X6_lowestTerms_b42 a0 a1 a2 x3 I) I 42 [(3, .int x3), (0, .int a0), (1, .int a1), (2, .int a2)] [] := by
  intro x3 I
  unfold f_X6_lowestTerms_b42
  refine e_iload_n C dX6_lowestTerms_42 rfl 3 rfl (q := 43) rfl ?_
  refine e_ifne C (tgt := 50) (q := 46) dX6_lowestTerms_43 rfl rfl ?_ ?_
  · refine e_iload_n C dX6_lowestTerms_50 rfl 2 rfl (q := 51) rfl ?_
    exact e_lv [0] (lv1 := [(3, .int x3)]) rfl (xb_X6_lowestTerms_b51 C hlau hret hn x3 a1 _)
  · refine e_iload_n C dX6_lowestTerms_46 rfl 1 rfl (q := 47) rfl ?_
    refine e_goto C (tgt := 51) dX6_lowestTerms_47 rfl ?_
    exact e_lv [0] (lv1 := [(3, .int x3)]) rfl (xb_X6_lowestTerms_b51 C hlau hret hn x3 a0 _)
set_option maxHeartbeats 4000000 in
set_option maxRecDepth 100000 in
theorem xb_X6_lowestTerms_b19 {l : Launch} {κ : Kx} {ω : Om} {a0 : Int32} {a1 : Int32} {a2 : Int32} (C : CX κ ω cX6_lowestTerms 4 2 yX6_lowestTerms.cls) (hlau : κ.2.1 = l) (hret : κ.2.2.2.2.2.2.2.2.1.sig.returnType = (some .long)) (hn : 56 ≤ oN ω)  : ∀ (n : Nat) (x3 : Int32) (I : Mem), EE κ ω 4 (Gl κ ω) (f_X6_lowestTerms_b19 a0 a1 a2 n x3 I) I 19 [(3, .int x3), (0, .int a0), (1, .int a1), (2, .int a2)] [] := by
  intro n
  induction n with
  | zero => intro x3 I; exact e_none
  | succ n ih =>
    intro x3 I
    rw [f_X6_lowestTerms_b19]
    refine e_iload_n C dX6_lowestTerms_19 rfl 0 rfl (q := 20) rfl ?_
    refine e_iconst C dX6_lowestTerms_20 ic_1 (q := 21) rfl ?_
    refine e_icmple C (tgt := 42) (q := 24) dX6_lowestTerms_21 rfl rfl ?_ ?_
    · exact xb_X6_lowestTerms_b42 C hlau hret hn x3 _
    · refine e_iload_n C dX6_lowestTerms_24 rfl 1 rfl (q := 25) rfl ?_
      refine e_iload_n C dX6_lowestTerms_25 rfl 0 rfl (q := 26) rfl ?_
      refine e_grdn (fun h4 => ?_)
      refine e_irem C dX6_lowestTerms_26 h4 (q := 27) rfl ?_
      refine e_ifne C (tgt := 36) (q := 30) dX6_lowestTerms_27 rfl rfl ?_ ?_
      · refine e_iinc C (v := x3 + (-1 : Int32)) (lv1 := [(3, .int (x3 + (-1 : Int32))), (0, .int a0), (1, .int a1), (2, .int a2)]) dX6_lowestTerms_36 0 rfl (Nat.le_of_ble_eq_true rfl) (by rw [ic_m1]) rfl (q := 39) rfl ?_
        refine e_goto C (tgt := 19) dX6_lowestTerms_39 rfl ?_
        exact ih (x3 + (-1 : Int32)) _
      · refine e_iload_n C dX6_lowestTerms_30 rfl 2 rfl (q := 31) rfl ?_
        refine e_iload_n C dX6_lowestTerms_31 rfl 0 rfl (q := 32) rfl ?_
        refine e_grdn (fun h5 => ?_)
        refine e_irem C dX6_lowestTerms_32 h5 (q := 33) rfl ?_
        refine e_ifeq C (tgt := 42) (q := 36) dX6_lowestTerms_33 rfl rfl ?_ ?_
        · exact xb_X6_lowestTerms_b42 C hlau hret hn x3 _
        · refine e_iinc C (v := x3 + (-1 : Int32)) (lv1 := [(3, .int (x3 + (-1 : Int32))), (0, .int a0), (1, .int a1), (2, .int a2)]) dX6_lowestTerms_36 0 rfl (Nat.le_of_ble_eq_true rfl) (by rw [ic_m1]) rfl (q := 39) rfl ?_
          refine e_goto C (tgt := 19) dX6_lowestTerms_39 rfl ?_
          exact ih (x3 + (-1 : Int32)) _
set_option maxHeartbeats 4000000 in
set_option maxRecDepth 100000 in
theorem x_X6_lowestTerms {l : Launch} {ω : Om} {a0 : Int32} {a1 : Int32} {a2 : Int32} (hn : 56 ≤ oN ω)  {I : Mem} : CTl l ω yX6_lowestTerms cX6_lowestTerms 4 (some .long) 2 [.int a0, .int a1, .int a2] (f_X6_lowestTerms a0 a1 a2 I) I := by
  refine ct_l (by decide) (Nat.le_of_ble_eq_true rfl) ?_
  intro κ hlau hret C
  refine e_lv [0, 1, 2] (lv1 := [(0, .int a0), (1, .int a1), (2, .int a2)]) rfl ?_
  unfold f_X6_lowestTerms
  refine e_iload_n C dX6_lowestTerms_0 rfl 2 rfl (q := 1) rfl ?_
  refine e_iconst C dX6_lowestTerms_1 ic_0 (q := 2) rfl ?_
  refine e_iconst C dX6_lowestTerms_2 ic_1 (q := 3) rfl ?_
  refine e_callSi C (l := l) (av := [.int a2, .int (0 : Int32), .int (1 : Int32)]) (st := []) hlau (x_X6_within (l := l) (ω := ω) (a0 := a2) (a1 := (0 : Int32)) (a2 := (1 : Int32)) hn (I := I)) dX6_lowestTerms_3 w_390 w_391 w_56 w_392 md_X6_within (by decide) (by decide) rfl (Nat.le_of_ble_eq_true rfl) (q := 6) rfl (fun v2 J1 => ?_)
  refine e_ifeq C (tgt := 13) (q := 9) dX6_lowestTerms_6 rfl rfl ?_ ?_
  · refine e_ldc2 C dX6_lowestTerms_13 w_595 (q := 16) rfl ?_
    exact e_lreturn C dX6_lowestTerms_16 hret
  · refine e_iload_n C dX6_lowestTerms_9 rfl 1 rfl (q := 10) rfl ?_
    refine e_ifgt C (tgt := 17) (q := 13) dX6_lowestTerms_10 rfl rfl ?_ ?_
    · refine e_iload_n C dX6_lowestTerms_17 rfl 1 rfl (q := 18) rfl ?_
      refine e_istore_n C (lv1 := [(3, .int a1), (0, .int a0), (1, .int a1), (2, .int a2)]) dX6_lowestTerms_18 rfl (Nat.le_of_ble_eq_true rfl) rfl (q := 19) rfl ?_
      exact xb_X6_lowestTerms_b19 C hlau hret hn FU a1 _
    · refine e_ldc2 C dX6_lowestTerms_13 w_595 (q := 16) rfl ?_
      exact e_lreturn C dX6_lowestTerms_16 hret
set_option maxHeartbeats 4000000 in
set_option maxRecDepth 100000 in
theorem x_X6_betting {l : Launch} {ω : Om} {a1 : Int32} {a2 : Int32} (hn : 56 ≤ oN ω)  {I : Mem} : CTl l ω yX6_betting cX6_betting 3 (some .long) 3 [.ref (oA ω 0), .int a1, .int a2] (f_X6_betting a1 a2 I) I := by
  refine ct_l (by decide) (Nat.le_of_ble_eq_true rfl) ?_
  intro κ hlau hret C
  refine e_lv [0, 1, 2] (lv1 := [(0, .ref (oA ω 0)), (1, .int a1), (2, .int a2)]) rfl ?_
  unfold f_X6_betting
  refine e_aload_n C dX6_betting_0 rfl 0 rfl (q := 1) rfl ?_
  refine e_iload_n C dX6_betting_1 rfl 1 rfl (q := 2) rfl ?_
  refine e_callVi C (l := l) (k := 0) (av := [.int a1]) (st := []) hlau (x_X6_isHat (l := l) (ω := ω) (a1 := a1) hn (I := I)) dX6_betting_2 w_408 w_410 w_12 w_56 w_411 md_X6_isHat (by decide) (by decide) rfl (ltL hn (Nat.le_of_ble_eq_true rfl)) rfl rfl (Nat.le_of_ble_eq_true rfl) (q := 5) rfl (fun v2 J1 => ?_)
  refine e_ifeq C (tgt := 31) (q := 8) dX6_betting_5 rfl rfl ?_ ?_
  · refine e_ldc2 C dX6_betting_31 w_595 (q := 34) rfl ?_
    exact e_lreturn C dX6_betting_34 hret
  · refine e_aload_n C dX6_betting_8 rfl 0 rfl (q := 9) rfl ?_
    refine e_getf C (k := 0) (j := 1) (T := TX6) (N := 10) (v := .ref (oA ω 2)) dX6_betting_9 (ltL hn (Nat.le_of_ble_eq_true rfl)) rfl rfl (by decide) in_X6 w_347 rfl (q := 12) rfl ?_
    refine e_getf C (k := 2) (j := 4) (T := TX2) (N := 11) (v := .ref (oA ω 6)) dX6_betting_12 (ltL hn (Nat.le_of_ble_eq_true rfl)) (cOb_Rg (ρ := 0) (by decide) _) rfl (by decide) in_X2 w_98 rfl (q := 15) rfl ?_
    refine e_iload_n C dX6_betting_15 rfl 1 rfl (q := 16) rfl ?_
    refine e_iald C (k := 6) (n := 6) dX6_betting_16 (ltL hn (Nat.le_of_ble_eq_true rfl)) rfl (q := 17) rfl ?_
    refine e_aload_n C dX6_betting_17 rfl 0 rfl (q := 18) rfl ?_
    refine e_getf C (k := 0) (j := 1) (T := TX6) (N := 10) (v := .ref (oA ω 2)) dX6_betting_18 (ltL hn (Nat.le_of_ble_eq_true rfl)) rfl rfl (by decide) in_X6 w_347 rfl (q := 21) rfl ?_
    refine e_callVi C (l := l) (k := 2) (av := []) (st := [.int (J1 6 (a1).toNatClampNeg)]) hlau (x_X2_feltSum (l := l) (ω := ω) (ρ := 0) hn (by decide) (I := J1)) dX6_betting_21 w_588 w_589 w_590 w_57 w_591 md_X2_feltSum (by decide) (by decide) rfl (ltL hn (Nat.le_of_ble_eq_true rfl)) (cOb_Rg (ρ := 0) (by decide) _) rfl (Nat.le_of_ble_eq_true rfl) (q := 24) rfl (fun v4 J3 => ?_)
    refine e_iload_n C dX6_betting_24 rfl 2 rfl (q := 25) rfl ?_
    refine e_callSl C (l := l) (av := [.int (J1 6 (a1).toNatClampNeg), .int v4, .int a2]) (st := []) hlau (x_X6_lowestTerms (l := l) (ω := ω) (a0 := J1 6 (a1).toNatClampNeg) (a1 := v4) (a2 := a2) hn (I := J3)) dX6_betting_25 w_592 w_593 w_56 w_594 md_X6_lowestTerms (by decide) (by decide) rfl (Nat.le_of_ble_eq_true rfl) (q := 28) rfl (fun v6 J5 => ?_)
    refine e_goto C (tgt := 34) dX6_betting_28 rfl ?_
    exact e_lreturn C dX6_betting_34 hret
set_option maxHeartbeats 4000000 in
set_option maxRecDepth 100000 in
theorem x_X6_isSheet {l : Launch} {ω : Om} {a0 : Int32} (hn : 56 ≤ oN ω)  {I : Mem} : CTi l ω yX6_isSheet cX6_isSheet 1 (some .boolean) 2 [.int a0] (f_X6_isSheet a0 I) I := by
  refine ct_i (by decide) (Nat.le_of_ble_eq_true rfl) ?_
  intro κ hlau hret C
  refine e_lv [0] (lv1 := [(0, .int a0)]) rfl ?_
  unfold f_X6_isSheet
  refine e_iload_n C dX6_isSheet_0 rfl 0 rfl (q := 1) rfl ?_
  refine e_iconst C dX6_isSheet_1 ic_0 (q := 2) rfl ?_
  refine e_iconst C dX6_isSheet_2 ic_3 (q := 3) rfl ?_
  refine e_callSi C (l := l) (av := [.int a0, .int (0 : Int32), .int (3 : Int32)]) (st := []) hlau (x_X6_within (l := l) (ω := ω) (a0 := a0) (a1 := (0 : Int32)) (a2 := (3 : Int32)) hn (I := I)) dX6_isSheet_3 w_390 w_391 w_56 w_392 md_X6_within (by decide) (by decide) rfl (Nat.le_of_ble_eq_true rfl) (q := 6) rfl (fun v2 J1 => ?_)
  exact e_ireturn_t C dX6_isSheet_6 hret rfl rfl
set_option maxHeartbeats 4000000 in
set_option maxRecDepth 100000 in
theorem x_X6_refusalOf {l : Launch} {ω : Om} {a1 : Int32} (hn : 56 ≤ oN ω)  {I : Mem} : CTi l ω yX6_refusalOf cX6_refusalOf 2 (some .int) 3 [.ref (oA ω 0), .int a1] (f_X6_refusalOf a1 I) I := by
  refine ct_i (by decide) (Nat.le_of_ble_eq_true rfl) ?_
  intro κ hlau hret C
  refine e_lv [0, 1] (lv1 := [(0, .ref (oA ω 0)), (1, .int a1)]) rfl ?_
  unfold f_X6_refusalOf
  refine e_iload_n C dX6_refusalOf_0 rfl 1 rfl (q := 1) rfl ?_
  refine e_callSi C (l := l) (av := [.int a1]) (st := []) hlau (x_X6_isSheet (l := l) (ω := ω) (a0 := a1) hn (I := I)) dX6_refusalOf_1 w_608 w_609 w_56 w_610 md_X6_isSheet (by decide) (by decide) rfl (Nat.le_of_ble_eq_true rfl) (q := 4) rfl (fun v2 J1 => ?_)
  refine e_ifne C (tgt := 10) (q := 7) dX6_refusalOf_4 rfl rfl ?_ ?_
  · refine e_aload_n C dX6_refusalOf_10 rfl 0 rfl (q := 11) rfl ?_
    refine e_getf C (k := 0) (j := 6) (T := TX6) (N := 10) (v := .ref (oA ω 28)) dX6_refusalOf_11 (ltL hn (Nat.le_of_ble_eq_true rfl)) rfl rfl (by decide) in_X6 w_352 rfl (q := 14) rfl ?_
    refine e_iload_n C dX6_refusalOf_14 rfl 1 rfl (q := 15) rfl ?_
    refine e_aldS1 C hn dX6_refusalOf_15 (q := 16) rfl (fun h3 => ?_)
    refine e_callVi C (l := l) (k := (48 + 2 * a1.toNatClampNeg)) (av := []) (st := []) hlau (x_X3_isMissing (l := l) (ω := ω) (σ := a1.toNatClampNeg) hn h3 (I := J1)) dX6_refusalOf_16 w_611 w_612 w_613 w_60 w_614 md_X3_isMissing (by decide) (by decide) rfl (ltSh hn h3) (cOb_Sh (σ := a1.toNatClampNeg) h3 _) rfl (Nat.le_of_ble_eq_true rfl) (q := 19) rfl (fun v5 J4 => ?_)
    refine e_ifeq C (tgt := 25) (q := 22) dX6_refusalOf_19 rfl rfl ?_ ?_
    · refine e_aload_n C dX6_refusalOf_25 rfl 0 rfl (q := 26) rfl ?_
      refine e_getf C (k := 0) (j := 6) (T := TX6) (N := 10) (v := .ref (oA ω 28)) dX6_refusalOf_26 (ltL hn (Nat.le_of_ble_eq_true rfl)) rfl rfl (by decide) in_X6 w_352 rfl (q := 29) rfl ?_
      refine e_iload_n C dX6_refusalOf_29 rfl 1 rfl (q := 30) rfl ?_
      refine e_aldS1 C hn dX6_refusalOf_30 (q := 31) rfl (fun h6 => ?_)
      refine e_getf C (k := (48 + 2 * a1.toNatClampNeg)) (j := 2) (T := TX3) (N := 3) (v := .int (J4 (48 + 2 * a1.toNatClampNeg) 2)) dX6_refusalOf_31 (ltSh hn h6) (cOb_Sh (σ := a1.toNatClampNeg) h6 _) rfl (by decide) in_X3 w_196 rfl (q := 34) rfl ?_
      refine e_bipush C dX6_refusalOf_34 b8_20 (q := 36) rfl ?_
      refine e_icmple C (tgt := 44) (q := 39) dX6_refusalOf_36 rfl rfl ?_ ?_
      · refine e_iconst C dX6_refusalOf_44 ic_0 (q := 45) rfl ?_
        exact e_ireturn C dX6_refusalOf_45 hret rfl
      · refine e_bipush C dX6_refusalOf_39 b8_m2 (q := 41) rfl ?_
        refine e_goto C (tgt := 45) dX6_refusalOf_41 rfl ?_
        exact e_ireturn C dX6_refusalOf_45 hret rfl
    · refine e_bipush C dX6_refusalOf_22 b8_m11 (q := 24) rfl ?_
      exact e_ireturn C dX6_refusalOf_24 hret rfl
  · refine e_bipush C dX6_refusalOf_7 b8_m2 (q := 9) rfl ?_
    exact e_ireturn C dX6_refusalOf_9 hret rfl
set_option maxHeartbeats 4000000 in
set_option maxRecDepth 100000 in
theorem x_X6_refusalOf_ {l : Launch} {ω : Om} {a1 : Int32} {a2 : Int32} (hn : 56 ≤ oN ω)  {I : Mem} : CTi l ω yX6_refusalOf_ cX6_refusalOf_ 4 (some .int) 4 [.ref (oA ω 0), .int a1, .int a2] (f_X6_refusalOf_ a1 a2 I) I := by
  refine ct_i (by decide) (Nat.le_of_ble_eq_true rfl) ?_
  intro κ hlau hret C
  refine e_lv [0, 1, 2] (lv1 := [(0, .ref (oA ω 0)), (1, .int a1), (2, .int a2)]) rfl ?_
  unfold f_X6_refusalOf_
  refine e_aload_n C dX6_refusalOf__0 rfl 0 rfl (q := 1) rfl ?_
  refine e_iload_n C dX6_refusalOf__1 rfl 1 rfl (q := 2) rfl ?_
  refine e_callVi C (l := l) (k := 0) (av := [.int a1]) (st := []) hlau (x_X6_refusalOf (l := l) (ω := ω) (a1 := a1) hn (I := I)) dX6_refusalOf__2 w_604 w_606 w_18 w_56 w_607 md_X6_refusalOf (by decide) (by decide) rfl (ltL hn (Nat.le_of_ble_eq_true rfl)) rfl rfl (Nat.le_of_ble_eq_true rfl) (q := 5) rfl (fun v2 J1 => ?_)
  refine e_istore_n C (lv1 := [(3, .int v2), (0, .ref (oA ω 0)), (1, .int a1), (2, .int a2)]) dX6_refusalOf__5 rfl (Nat.le_of_ble_eq_true rfl) rfl (q := 6) rfl ?_
  refine e_iload_n C dX6_refusalOf__6 rfl 0 rfl (q := 7) rfl ?_
  refine e_ifne C (tgt := 23) (q := 10) dX6_refusalOf__7 rfl rfl ?_ ?_
  · refine e_iload_n C dX6_refusalOf__23 rfl 0 rfl (q := 24) rfl ?_
    exact e_ireturn C dX6_refusalOf__24 hret rfl
  · refine e_aload_n C dX6_refusalOf__10 rfl 1 rfl (q := 11) rfl ?_
    refine e_iload_n C dX6_refusalOf__11 rfl 3 rfl (q := 12) rfl ?_
    refine e_callVi C (l := l) (k := 0) (av := [.int a2]) (st := []) hlau (x_X6_isHat (l := l) (ω := ω) (a1 := a2) hn (I := J1)) dX6_refusalOf__12 w_408 w_410 w_12 w_56 w_411 md_X6_isHat (by decide) (by decide) rfl (ltL hn (Nat.le_of_ble_eq_true rfl)) rfl rfl (Nat.le_of_ble_eq_true rfl) (q := 15) rfl (fun v4 J3 => ?_)
    refine e_ifne C (tgt := 23) (q := 18) dX6_refusalOf__15 rfl rfl ?_ ?_
    · refine e_iload_n C dX6_refusalOf__23 rfl 0 rfl (q := 24) rfl ?_
      exact e_ireturn C dX6_refusalOf__24 hret rfl
    · refine e_bipush C dX6_refusalOf__18 b8_m5 (q := 20) rfl ?_
      refine e_goto C (tgt := 24) dX6_refusalOf__20 rfl ?_
      exact e_ireturn C dX6_refusalOf__24 hret rfl
set_option maxHeartbeats 4000000 in
set_option maxRecDepth 100000 in
theorem xb_X6_firstOtherwise_b10 {l : Launch} {κ : Kx} {ω : Om} {a1 : Int32} {a2 : Int32} (C : CX κ ω cX6_firstOtherwise 5 6 yX6_firstOtherwise.cls) (hlau : κ.2.1 = l) (hret : κ.2.2.2.2.2.2.2.2.1.sig.returnType = (some .int)) (hn : 56 ≤ oN ω)  : ∀ (n : Nat) (x4 : Int32) (x3 : Nat) (I : Mem) (hx3 : x3 < 4), EE κ ω 5 (Gi κ ω) (f_X6_firstOtherwise_b10 a1 a2 n x4 x3 I) I 10 [(4, .int x4), (3, .ref (oA ω (48 + 2 * x3))), (0, .ref (oA ω 0)), (2, .int a2)] [] := by
  intro n
  induction n with
  | zero => intro x4 x3 I hx3; exact e_none
  | succ n ih =>
    intro x4 x3 I hx3
    rw [f_X6_firstOtherwise_b10]
    refine e_iload C dX6_firstOtherwise_10 0 rfl (q := 12) rfl ?_
    refine e_aload_n C dX6_firstOtherwise_12 rfl 1 rfl (q := 13) rfl ?_
    refine e_getf C (k := (48 + 2 * x3)) (j := 2) (T := TX3) (N := 3) (v := .int (I (48 + 2 * x3) 2)) dX6_firstOtherwise_13 (ltSh hn hx3) (cOb_Sh (σ := x3) hx3 _) rfl (by decide) in_X3 w_196 rfl (q := 16) rfl ?_
    refine e_icmpge C (tgt := 55) (q := 19) dX6_firstOtherwise_16 rfl rfl ?_ ?_
    · refine e_iconst C dX6_firstOtherwise_55 ic_m1 (q := 56) rfl ?_
      exact e_ireturn C dX6_firstOtherwise_56 hret rfl
    · refine e_aload_n C dX6_firstOtherwise_19 rfl 2 rfl (q := 20) rfl ?_
      refine e_getf C (k := 0) (j := 2) (T := TX6) (N := 10) (v := .ref (oA ω 10)) dX6_firstOtherwise_20 (ltL hn (Nat.le_of_ble_eq_true rfl)) rfl rfl (by decide) in_X6 w_348 rfl (q := 23) rfl ?_
      refine e_callVi C (l := l) (k := 10) (av := []) (st := []) hlau (x_X2_play (l := l) (ω := ω) (ρ := 1) hn (by decide) (I := I)) dX6_firstOtherwise_23 w_495 w_496 w_497 w_57 w_498 md_X2_play (by decide) (by decide) rfl (ltL hn (Nat.le_of_ble_eq_true rfl)) (cOb_Rg (ρ := 1) (by decide) _) rfl (Nat.le_of_ble_eq_true rfl) (q := 26) rfl (fun v3 J2 => ?_)
      refine e_pop C dX6_firstOtherwise_26 rfl (q := 27) rfl ?_
      refine e_aload_n C dX6_firstOtherwise_27 rfl 2 rfl (q := 28) rfl ?_
      refine e_getf C (k := 0) (j := 2) (T := TX6) (N := 10) (v := .ref (oA ω 10)) dX6_firstOtherwise_28 (ltL hn (Nat.le_of_ble_eq_true rfl)) rfl rfl (by decide) in_X6 w_348 rfl (q := 31) rfl ?_
      refine e_getf C (k := 10) (j := 4) (T := TX2) (N := 11) (v := .ref (oA ω 14)) dX6_firstOtherwise_31 (ltL hn (Nat.le_of_ble_eq_true rfl)) (cOb_Rg (ρ := 1) (by decide) _) rfl (by decide) in_X2 w_98 rfl (q := 34) rfl ?_
      refine e_iload_n C dX6_firstOtherwise_34 rfl 3 rfl (q := 35) rfl ?_
      refine e_iald C (k := 14) (n := 6) dX6_firstOtherwise_35 (ltL hn (Nat.le_of_ble_eq_true rfl)) rfl (q := 36) rfl ?_
      refine e_aload_n C dX6_firstOtherwise_36 rfl 1 rfl (q := 37) rfl ?_
      refine e_getf C (k := (48 + 2 * x3)) (j := 0) (T := TX3) (N := 3) (v := .ref (oA ω (48 + 2 * x3 + 1))) dX6_firstOtherwise_37 (ltSh hn hx3) (cOb_Sh (σ := x3) hx3 _) rfl (by decide) in_X3 w_192 rfl (q := 40) rfl ?_
      refine e_iload C dX6_firstOtherwise_40 0 rfl (q := 42) rfl ?_
      refine e_iald C (k := (48 + 2 * x3 + 1)) (n := 40) dX6_firstOtherwise_42 (ltShj hn hx3) ((cAr_Sh1 hx3) _) (q := 43) rfl ?_
      refine e_icmpeq C (tgt := 49) (q := 46) dX6_firstOtherwise_43 rfl rfl ?_ ?_
      · refine e_iinc C (v := x4 + (1 : Int32)) (lv1 := [(4, .int (x4 + (1 : Int32))), (3, .ref (oA ω (48 + 2 * x3))), (0, .ref (oA ω 0)), (2, .int a2)]) dX6_firstOtherwise_49 0 rfl (Nat.le_of_ble_eq_true rfl) (by rw [ic_1]) rfl (q := 52) rfl ?_
        refine e_goto C (tgt := 10) dX6_firstOtherwise_52 rfl ?_
        exact ih (x4 + (1 : Int32)) x3 _ hx3
      · refine e_iload C dX6_firstOtherwise_46 0 rfl (q := 48) rfl ?_
        exact e_ireturn C dX6_firstOtherwise_48 hret rfl
set_option maxHeartbeats 4000000 in
set_option maxRecDepth 100000 in
theorem x_X6_firstOtherwise {l : Launch} {ω : Om} {a1 : Int32} {a2 : Int32} (hn : 56 ≤ oN ω)  {I : Mem} : CTi l ω yX6_firstOtherwise cX6_firstOtherwise 5 (some .int) 6 [.ref (oA ω 0), .int a1, .int a2] (f_X6_firstOtherwise a1 a2 I) I := by
  refine ct_i (by decide) (Nat.le_of_ble_eq_true rfl) ?_
  intro κ hlau hret C
  refine e_lv [0, 1, 2] (lv1 := [(0, .ref (oA ω 0)), (1, .int a1), (2, .int a2)]) rfl ?_
  unfold f_X6_firstOtherwise
  refine e_aload_n C dX6_firstOtherwise_0 rfl 0 rfl (q := 1) rfl ?_
  refine e_getf C (k := 0) (j := 6) (T := TX6) (N := 10) (v := .ref (oA ω 28)) dX6_firstOtherwise_1 (ltL hn (Nat.le_of_ble_eq_true rfl)) rfl rfl (by decide) in_X6 w_352 rfl (q := 4) rfl ?_
  refine e_iload_n C dX6_firstOtherwise_4 rfl 1 rfl (q := 5) rfl ?_
  refine e_aldS1 C hn dX6_firstOtherwise_5 (q := 6) rfl (fun h1 => ?_)
  refine e_astore_n C (lv1 := [(3, .ref (oA ω (48 + 2 * a1.toNatClampNeg))), (0, .ref (oA ω 0)), (1, .int a1), (2, .int a2)]) dX6_firstOtherwise_6 rfl (Nat.le_of_ble_eq_true rfl) rfl (q := 7) rfl ?_
  refine e_iconst C dX6_firstOtherwise_7 ic_0 (q := 8) rfl ?_
  refine e_istore C (lv1 := [(4, .int (0 : Int32)), (3, .ref (oA ω (48 + 2 * a1.toNatClampNeg))), (0, .ref (oA ω 0)), (1, .int a1), (2, .int a2)]) dX6_firstOtherwise_8 (Nat.le_of_ble_eq_true rfl) rfl (q := 10) rfl ?_
  exact e_lv [0, 1, 2, 4] (lv1 := [(4, .int (0 : Int32)), (3, .ref (oA ω (48 + 2 * a1.toNatClampNeg))), (0, .ref (oA ω 0)), (2, .int a2)]) rfl (xb_X6_firstOtherwise_b10 C hlau hret hn FU (0 : Int32) (a1.toNatClampNeg) _ h1)
set_option maxHeartbeats 4000000 in
set_option maxRecDepth 100000 in
theorem x_X6_judge {l : Launch} {ω : Om} {a1 : Int32} {a2 : Int32} (hn : 56 ≤ oN ω)  {I : Mem} : CTi l ω yX6_judge cX6_judge 4 (some .int) 7 [.ref (oA ω 0), .int a1, .int a2] (f_X6_judge a1 a2 I) I := by
  refine ct_i (by decide) (Nat.le_of_ble_eq_true rfl) ?_
  intro κ hlau hret C
  refine e_lv [0, 1, 2] (lv1 := [(0, .ref (oA ω 0)), (1, .int a1), (2, .int a2)]) rfl ?_
  unfold f_X6_judge
  refine e_aload_n C dX6_judge_0 rfl 0 rfl (q := 1) rfl ?_
  refine e_iload_n C dX6_judge_1 rfl 1 rfl (q := 2) rfl ?_
  refine e_iload_n C dX6_judge_2 rfl 2 rfl (q := 3) rfl ?_
  refine e_callVi C (l := l) (k := 0) (av := [.int a1, .int a2]) (st := []) hlau (x_X6_refusalOf_ (l := l) (ω := ω) (a1 := a1) (a2 := a2) hn (I := I)) dX6_judge_3 w_600 w_602 w_17 w_56 w_603 md_X6_refusalOf_ (by decide) (by decide) rfl (ltL hn (Nat.le_of_ble_eq_true rfl)) rfl rfl (Nat.le_of_ble_eq_true rfl) (q := 6) rfl (fun v2 J1 => ?_)
  refine e_istore_n C (lv1 := [(3, .int v2), (0, .ref (oA ω 0)), (1, .int a1), (2, .int a2)]) dX6_judge_6 rfl (Nat.le_of_ble_eq_true rfl) rfl (q := 7) rfl ?_
  refine e_iload_n C dX6_judge_7 rfl 0 rfl (q := 8) rfl ?_
  refine e_ifeq C (tgt := 13) (q := 11) dX6_judge_8 rfl rfl ?_ ?_
  · refine e_aload_n C dX6_judge_13 rfl 1 rfl (q := 14) rfl ?_
    refine e_callVv C (l := l) (k := 0) (av := []) (st := []) hlau (x_X6_imagine (l := l) (ω := ω) hn (I := J1)) dX6_judge_14 w_520 w_522 w_15 w_56 w_523 md_X6_imagine (by decide) (by decide) rfl (ltL hn (Nat.le_of_ble_eq_true rfl)) rfl rfl (Nat.le_of_ble_eq_true rfl) (q := 17) rfl (fun _ J3 => ?_)
    refine e_aload_n C dX6_judge_17 rfl 1 rfl (q := 18) rfl ?_
    refine e_iload_n C dX6_judge_18 rfl 2 rfl (q := 19) rfl ?_
    refine e_iload_n C dX6_judge_19 rfl 3 rfl (q := 20) rfl ?_
    refine e_callVi C (l := l) (k := 0) (av := [.int a1, .int a2]) (st := []) hlau (x_X6_firstOtherwise (l := l) (ω := ω) (a1 := a1) (a2 := a2) hn (I := J3)) dX6_judge_20 w_615 w_617 w_19 w_56 w_618 md_X6_firstOtherwise (by decide) (by decide) rfl (ltL hn (Nat.le_of_ble_eq_true rfl)) rfl rfl (Nat.le_of_ble_eq_true rfl) (q := 23) rfl (fun v5 J4 => ?_)
    exact e_ireturn C dX6_judge_23 hret rfl
  · refine e_iload_n C dX6_judge_11 rfl 0 rfl (q := 12) rfl ?_
    exact e_ireturn C dX6_judge_12 hret rfl
set_option maxHeartbeats 4000000 in
set_option maxRecDepth 100000 in
theorem xb_X6_kinds_b84 {l : Launch} {κ : Kx} {ω : Om} {a1 : Int32} {a2 : Int32} {a3 : Int32} {a4 : Int32} (C : CX κ ω cX6_kinds 9 7 yX6_kinds.cls) (hlau : κ.2.1 = l) (hret : κ.2.2.2.2.2.2.2.2.1.sig.returnType = (some .int)) (hn : 56 ≤ oN ω)  {K70 : Int32 → Int32 → Nat → Mem → Option (Int32 × Mem)} (hK70 : ∀ (x8 : Int32) (x7 : Int32) (x6 : Nat) (J : Mem) (hx6 : okA x6 = true), EE κ ω 9 (Gi κ ω) (K70 x8 x7 x6 J) J 70 [(8, .int x8), (7, .int x7), (6, .ref (oA ω x6)), (0, .ref (oA ω 0)), (1, .int a1), (2, .int a2), (3, .int a3), (4, .int a4)] []) : ∀ (x8 : Int32) (x7 : Int32) (x6 : Nat) (s0 : Int32) (s1 : Int32) (I : Mem) (hx6 : okA x6 = true), EE κ ω 9 (Gi κ ω) (f_X6_kinds_b84 a1 a2 a3 a4 K70 x8 x7 x6 s0 s1 I) I 84 [(8, .int x8), (7, .int x7), (6, .ref (oA ω x6)), (0, .ref (oA ω 0)), (1, .int a1), (2, .int a2), (3, .int a3), (4, .int a4)] [.int s0, .int s1] := by
  intro x8 x7 x6 s0 s1 I hx6
  unfold f_X6_kinds_b84
  refine e_icmpge C (tgt := 122) (q := 87) dX6_kinds_84 rfl rfl ?_ ?_
  · refine e_iload C dX6_kinds_122 1 rfl (q := 124) rfl ?_
    exact e_ireturn C dX6_kinds_124 hret rfl
  · refine e_aload_n C dX6_kinds_87 rfl 3 rfl (q := 88) rfl ?_
    refine e_callVv C (l := l) (k := 0) (av := []) (st := []) hlau (x_X6_imagine (l := l) (ω := ω) hn (I := I)) dX6_kinds_88 w_520 w_522 w_15 w_56 w_523 md_X6_imagine (by decide) (by decide) rfl (ltL hn (Nat.le_of_ble_eq_true rfl)) rfl rfl (Nat.le_of_ble_eq_true rfl) (q := 91) rfl (fun _ J7 => ?_)
    refine e_aload C dX6_kinds_91 2 rfl (q := 93) rfl ?_
    refine e_iload_n C dX6_kinds_93 rfl 6 rfl (q := 94) rfl ?_
    refine e_iload C dX6_kinds_94 0 rfl (q := 96) rfl ?_
    refine e_iast C (k := x6) (n := 6) dX6_kinds_96 (isArr_okA hn hx6).1 (isArr_okA hn hx6).2 (q := 97) rfl ?_
    refine e_nmM (fun J8 => ?_)
    refine e_aload_n C dX6_kinds_97 rfl 3 rfl (q := 98) rfl ?_
    refine e_iload_n C dX6_kinds_98 rfl 4 rfl (q := 99) rfl ?_
    refine e_iload_n C dX6_kinds_99 rfl 5 rfl (q := 100) rfl ?_
    refine e_callVi C (l := l) (k := 0) (av := [.int a1, .int a2]) (st := []) hlau (x_X6_firstOtherwise (l := l) (ω := ω) (a1 := a1) (a2 := a2) hn (I := J8)) dX6_kinds_100 w_615 w_617 w_19 w_56 w_618 md_X6_firstOtherwise (by decide) (by decide) rfl (ltL hn (Nat.le_of_ble_eq_true rfl)) rfl rfl (Nat.le_of_ble_eq_true rfl) (q := 103) rfl (fun v10 J9 => ?_)
    refine e_iconst C dX6_kinds_103 ic_m1 (q := 104) rfl ?_
    refine e_icmpne C (tgt := 116) (q := 107) dX6_kinds_104 rfl rfl ?_ ?_
    · refine e_iinc C (v := x8 + (1 : Int32)) (lv1 := [(8, .int (x8 + (1 : Int32))), (7, .int x7), (6, .ref (oA ω x6)), (0, .ref (oA ω 0)), (1, .int a1), (2, .int a2), (3, .int a3), (4, .int a4)]) dX6_kinds_116 0 rfl (Nat.le_of_ble_eq_true rfl) (by rw [ic_1]) rfl (q := 119) rfl ?_
      refine e_goto C (tgt := 70) dX6_kinds_119 rfl ?_
      exact hK70 (x8 + (1 : Int32)) x7 x6 _ hx6
    · refine e_iload C dX6_kinds_107 1 rfl (q := 109) rfl ?_
      refine e_iconst C dX6_kinds_109 ic_1 (q := 110) rfl ?_
      refine e_iload C dX6_kinds_110 0 rfl (q := 112) rfl ?_
      refine e_ishl C dX6_kinds_112 (q := 113) rfl ?_
      refine e_ior C dX6_kinds_113 (q := 114) rfl ?_
      refine e_nmi (fun v11 => ?_)
      refine e_istore C (lv1 := [(7, .int v11), (8, .int x8), (6, .ref (oA ω x6)), (0, .ref (oA ω 0)), (1, .int a1), (2, .int a2), (3, .int a3), (4, .int a4)]) dX6_kinds_114 (Nat.le_of_ble_eq_true rfl) rfl (q := 116) rfl ?_
      refine e_iinc C (v := x8 + (1 : Int32)) (lv1 := [(8, .int (x8 + (1 : Int32))), (7, .int v11), (6, .ref (oA ω x6)), (0, .ref (oA ω 0)), (1, .int a1), (2, .int a2), (3, .int a3), (4, .int a4)]) dX6_kinds_116 1 rfl (Nat.le_of_ble_eq_true rfl) (by rw [ic_1]) rfl (q := 119) rfl ?_
      refine e_goto C (tgt := 70) dX6_kinds_119 rfl ?_
      exact hK70 (x8 + (1 : Int32)) v11 x6 _ hx6
set_option maxHeartbeats 4000000 in
set_option maxRecDepth 100000 in
theorem xb_X6_kinds_b70 {l : Launch} {κ : Kx} {ω : Om} {a1 : Int32} {a2 : Int32} {a3 : Int32} {a4 : Int32} (C : CX κ ω cX6_kinds 9 7 yX6_kinds.cls) (hlau : κ.2.1 = l) (hret : κ.2.2.2.2.2.2.2.2.1.sig.returnType = (some .int)) (hn : 56 ≤ oN ω)  : ∀ (n : Nat) (x8 : Int32) (x7 : Int32) (x6 : Nat) (I : Mem) (hx6 : okA x6 = true), EE κ ω 9 (Gi κ ω) (f_X6_kinds_b70 a1 a2 a3 a4 n x8 x7 x6 I) I 70 [(8, .int x8), (7, .int x7), (6, .ref (oA ω x6)), (0, .ref (oA ω 0)), (1, .int a1), (2, .int a2), (3, .int a3), (4, .int a4)] [] := by
  intro n
  induction n with
  | zero => intro x8 x7 x6 I hx6; exact e_none
  | succ n ih =>
    intro x8 x7 x6 I hx6
    rw [f_X6_kinds_b70]
    refine e_iload C dX6_kinds_70 0 rfl (q := 72) rfl ?_
    refine e_iload C dX6_kinds_72 7 rfl (q := 74) rfl ?_
    refine e_ifne C (tgt := 82) (q := 77) dX6_kinds_74 rfl rfl ?_ ?_
    · refine e_bipush C dX6_kinds_82 b8_10 (q := 84) rfl ?_
      exact xb_X6_kinds_b84 C hlau hret hn ih x8 x7 x6 (10 : Int32) x8 _ hx6
    · refine e_bipush C dX6_kinds_77 b8_6 (q := 79) rfl ?_
      refine e_goto C (tgt := 84) dX6_kinds_79 rfl ?_
      exact xb_X6_kinds_b84 C hlau hret hn ih x8 x7 x6 (6 : Int32) x8 _ hx6
set_option maxHeartbeats 4000000 in
set_option maxRecDepth 100000 in
theorem xb_X6_kinds_b62 {l : Launch} {κ : Kx} {ω : Om} {a1 : Int32} {a2 : Int32} {a3 : Int32} {a4 : Int32} (C : CX κ ω cX6_kinds 9 7 yX6_kinds.cls) (hlau : κ.2.1 = l) (hret : κ.2.2.2.2.2.2.2.2.1.sig.returnType = (some .int)) (hn : 56 ≤ oN ω)  : ∀ (s0 : Nat) (I : Mem) (hs0 : okA s0 = true), EE κ ω 9 (Gi κ ω) (f_X6_kinds_b62 a1 a2 a3 a4 s0 I) I 62 [(0, .ref (oA ω 0)), (1, .int a1), (2, .int a2), (3, .int a3), (4, .int a4)] [.ref (oA ω s0)] := by
  intro s0 I hs0
  unfold f_X6_kinds_b62
  refine e_astore C (lv1 := [(6, .ref (oA ω s0)), (0, .ref (oA ω 0)), (1, .int a1), (2, .int a2), (3, .int a3), (4, .int a4)]) dX6_kinds_62 (Nat.le_of_ble_eq_true rfl) rfl (q := 64) rfl ?_
  refine e_iconst C dX6_kinds_64 ic_0 (q := 65) rfl ?_
  refine e_istore C (lv1 := [(7, .int (0 : Int32)), (6, .ref (oA ω s0)), (0, .ref (oA ω 0)), (1, .int a1), (2, .int a2), (3, .int a3), (4, .int a4)]) dX6_kinds_65 (Nat.le_of_ble_eq_true rfl) rfl (q := 67) rfl ?_
  refine e_iconst C dX6_kinds_67 ic_0 (q := 68) rfl ?_
  refine e_istore C (lv1 := [(8, .int (0 : Int32)), (7, .int (0 : Int32)), (6, .ref (oA ω s0)), (0, .ref (oA ω 0)), (1, .int a1), (2, .int a2), (3, .int a3), (4, .int a4)]) dX6_kinds_68 (Nat.le_of_ble_eq_true rfl) rfl (q := 70) rfl ?_
  exact xb_X6_kinds_b70 C hlau hret hn FU (0 : Int32) (0 : Int32) s0 _ hs0
set_option maxHeartbeats 4000000 in
set_option maxRecDepth 100000 in
theorem x_X6_kinds {l : Launch} {ω : Om} {a1 : Int32} {a2 : Int32} {a3 : Int32} {a4 : Int32} (hn : 56 ≤ oN ω)  {I : Mem} : CTi l ω yX6_kinds cX6_kinds 9 (some .int) 7 [.ref (oA ω 0), .int a1, .int a2, .int a3, .int a4] (f_X6_kinds a1 a2 a3 a4 I) I := by
  refine ct_i (by decide) (Nat.le_of_ble_eq_true rfl) ?_
  intro κ hlau hret C
  refine e_lv [0, 1, 2, 3, 4] (lv1 := [(0, .ref (oA ω 0)), (1, .int a1), (2, .int a2), (3, .int a3), (4, .int a4)]) rfl ?_
  unfold f_X6_kinds
  refine e_aload_n C dX6_kinds_0 rfl 0 rfl (q := 1) rfl ?_
  refine e_iload_n C dX6_kinds_1 rfl 1 rfl (q := 2) rfl ?_
  refine e_iload_n C dX6_kinds_2 rfl 2 rfl (q := 3) rfl ?_
  refine e_callVi C (l := l) (k := 0) (av := [.int a1, .int a2]) (st := []) hlau (x_X6_refusalOf_ (l := l) (ω := ω) (a1 := a1) (a2 := a2) hn (I := I)) dX6_kinds_3 w_600 w_602 w_17 w_56 w_603 md_X6_refusalOf_ (by decide) (by decide) rfl (ltL hn (Nat.le_of_ble_eq_true rfl)) rfl rfl (Nat.le_of_ble_eq_true rfl) (q := 6) rfl (fun v2 J1 => ?_)
  refine e_istore C (lv1 := [(5, .int v2), (0, .ref (oA ω 0)), (1, .int a1), (2, .int a2), (3, .int a3), (4, .int a4)]) dX6_kinds_6 (Nat.le_of_ble_eq_true rfl) rfl (q := 8) rfl ?_
  refine e_iload C dX6_kinds_8 0 rfl (q := 10) rfl ?_
  refine e_ifeq C (tgt := 16) (q := 13) dX6_kinds_10 rfl rfl ?_ ?_
  · refine e_aload_n C dX6_kinds_16 rfl 1 rfl (q := 17) rfl ?_
    refine e_iload_n C dX6_kinds_17 rfl 4 rfl (q := 18) rfl ?_
    refine e_callVi C (l := l) (k := 0) (av := [.int a3]) (st := []) hlau (x_X6_isHat (l := l) (ω := ω) (a1 := a3) hn (I := J1)) dX6_kinds_18 w_408 w_410 w_12 w_56 w_411 md_X6_isHat (by decide) (by decide) rfl (ltL hn (Nat.le_of_ble_eq_true rfl)) rfl rfl (Nat.le_of_ble_eq_true rfl) (q := 21) rfl (fun v4 J3 => ?_)
    refine e_ifne C (tgt := 27) (q := 24) dX6_kinds_21 rfl rfl ?_ ?_
    · refine e_iload C dX6_kinds_27 5 rfl (q := 29) rfl ?_
      refine e_iconst C dX6_kinds_29 ic_0 (q := 30) rfl ?_
      refine e_iconst C dX6_kinds_30 ic_1 (q := 31) rfl ?_
      refine e_callSi C (l := l) (av := [.int a4, .int (0 : Int32), .int (1 : Int32)]) (st := []) hlau (x_X6_within (l := l) (ω := ω) (a0 := a4) (a1 := (0 : Int32)) (a2 := (1 : Int32)) hn (I := J3)) dX6_kinds_31 w_390 w_391 w_56 w_392 md_X6_within (by decide) (by decide) rfl (Nat.le_of_ble_eq_true rfl) (q := 34) rfl (fun v6 J5 => ?_)
      refine e_ifne C (tgt := 40) (q := 37) dX6_kinds_34 rfl rfl ?_ ?_
      · refine e_iload C dX6_kinds_40 5 rfl (q := 42) rfl ?_
        refine e_ifne C (tgt := 55) (q := 45) dX6_kinds_42 rfl rfl ?_ ?_
        · refine e_aload_n C dX6_kinds_55 rfl 1 rfl (q := 56) rfl ?_
          refine e_getf C (k := 0) (j := 2) (T := TX6) (N := 10) (v := .ref (oA ω 10)) dX6_kinds_56 (ltL hn (Nat.le_of_ble_eq_true rfl)) rfl rfl (by decide) in_X6 w_348 rfl (q := 59) rfl ?_
          refine e_getf C (k := 10) (j := 2) (T := TX2) (N := 11) (v := .ref (oA ω 12)) dX6_kinds_59 (ltL hn (Nat.le_of_ble_eq_true rfl)) (cOb_Rg (ρ := 1) (by decide) _) rfl (by decide) in_X2 w_93 rfl (q := 62) rfl ?_
          exact e_lv [1, 2, 3, 4, 5] (lv1 := [(0, .ref (oA ω 0)), (1, .int a1), (2, .int a2), (3, .int a3), (4, .int a4)]) rfl (xb_X6_kinds_b62 C hlau hret hn 12 _ (by decide))
        · refine e_aload_n C dX6_kinds_45 rfl 1 rfl (q := 46) rfl ?_
          refine e_getf C (k := 0) (j := 2) (T := TX6) (N := 10) (v := .ref (oA ω 10)) dX6_kinds_46 (ltL hn (Nat.le_of_ble_eq_true rfl)) rfl rfl (by decide) in_X6 w_348 rfl (q := 49) rfl ?_
          refine e_getf C (k := 10) (j := 1) (T := TX2) (N := 11) (v := .ref (oA ω 11)) dX6_kinds_49 (ltL hn (Nat.le_of_ble_eq_true rfl)) (cOb_Rg (ρ := 1) (by decide) _) rfl (by decide) in_X2 w_90 rfl (q := 52) rfl ?_
          refine e_goto C (tgt := 62) dX6_kinds_52 rfl ?_
          exact e_lv [1, 2, 3, 4, 5] (lv1 := [(0, .ref (oA ω 0)), (1, .int a1), (2, .int a2), (3, .int a3), (4, .int a4)]) rfl (xb_X6_kinds_b62 C hlau hret hn 11 _ (by decide))
      · refine e_bipush C dX6_kinds_37 b8_m7 (q := 39) rfl ?_
        exact e_ireturn C dX6_kinds_39 hret rfl
    · refine e_bipush C dX6_kinds_24 b8_m6 (q := 26) rfl ?_
      exact e_ireturn C dX6_kinds_26 hret rfl
  · refine e_iload C dX6_kinds_13 0 rfl (q := 15) rfl ?_
    exact e_ireturn C dX6_kinds_15 hret rfl
