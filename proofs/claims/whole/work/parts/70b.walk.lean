/-! WALKS, written by program (wip/gen) -/
set_option maxHeartbeats 4000000 in
set_option maxRecDepth 100000 in
theorem x_X4_fact {l : Launch} {ω : Om} {a0 : Int32} {r1 : Nat} {a2 : Int32} (hn : 56 ≤ oN ω) (hr1 : r1 < 3) {I : Mem} : CTi l ω yX4_fact cX4_fact 3 (some .int) 2 [.int a0, .ref (oA ω (2 + 8 * r1)), .int a2] (f_X4_fact a0 r1 a2 I) I := by
  refine ct_i (by decide) (Nat.le_of_ble_eq_true rfl) ?_
  intro κ hlau hret C
  refine e_lv [0, 1, 2] (lv1 := [(0, .int a0), (1, .ref (oA ω (2 + 8 * r1))), (2, .int a2)]) rfl ?_
  unfold f_X4_fact
  refine e_iload_n C dX4_fact_0 rfl 0 rfl (q := 1) rfl ?_
  refine e_if (fun h1 => ?_) (fun h1 => ?_)
  · refine e_tabIn C (v := -13) (off := 59) (tgt := 60) dX4_fact_1 (by rw [h1]; rfl) (by decide) rfl rfl ?_
    refine e_aload_n C dX4_fact_60 rfl 1 rfl (q := 61) rfl ?_
    refine e_getf C (k := (2 + 8 * r1)) (j := 6) (T := TX2) (N := 11) (v := .ref (oA ω (2 + 8 * r1 + 6))) dX4_fact_61 (ltRg hn hr1) (cOb_Rg (ρ := r1) hr1 _) rfl (by decide) in_X2 w_103 rfl (q := 64) rfl ?_
    refine e_iload_n C dX4_fact_64 rfl 2 rfl (q := 65) rfl ?_
    refine e_iald C (k := (2 + 8 * r1 + 6)) (n := 6) dX4_fact_65 (ltRgj hn hr1 6 (by decide)) ((cAr_Rg hr1 6 (by decide)) _) (q := 66) rfl ?_
    exact e_ireturn C dX4_fact_66 hret rfl
  · refine e_if (fun h2 => ?_) (fun h2 => ?_)
    · refine e_tabIn C (v := -12) (off := 54) (tgt := 55) dX4_fact_1 (by rw [h2]; rfl) (by decide) rfl rfl ?_
      refine e_aload_n C dX4_fact_55 rfl 1 rfl (q := 56) rfl ?_
      refine e_callVi C (l := l) (k := (2 + 8 * r1)) (av := []) (st := []) hlau (x_X2_upCount (l := l) (ω := ω) (ρ := r1) hn hr1 (I := I)) dX4_fact_56 w_420 w_383 w_384 w_57 w_385 md_X2_upCount (by decide) (by decide) rfl (ltRg hn hr1) (cOb_Rg (ρ := r1) hr1 _) rfl (Nat.le_of_ble_eq_true rfl) (q := 59) rfl (fun v7 J6 => ?_)
      exact e_ireturn C dX4_fact_59 hret rfl
    · refine e_if (fun h3 => ?_) (fun h3 => ?_)
      · refine e_tabIn C (v := -11) (off := 49) (tgt := 50) dX4_fact_1 (by rw [h3]; rfl) (by decide) rfl rfl ?_
        refine e_aload_n C dX4_fact_50 rfl 1 rfl (q := 51) rfl ?_
        refine e_getf C (k := (2 + 8 * r1)) (j := 9) (T := TX2) (N := 11) (v := .int (I (2 + 8 * r1) 9)) dX4_fact_51 (ltRg hn hr1) (cOb_Rg (ρ := r1) hr1 _) rfl (by decide) in_X2 w_111 rfl (q := 54) rfl ?_
        exact e_ireturn C dX4_fact_54 hret rfl
      · refine e_if (fun h4 => ?_) (fun h4 => ?_)
        · refine e_tabIn C (v := -10) (off := 42) (tgt := 43) dX4_fact_1 (by rw [h4]; rfl) (by decide) rfl rfl ?_
          refine e_aload_n C dX4_fact_43 rfl 1 rfl (q := 44) rfl ?_
          refine e_getf C (k := (2 + 8 * r1)) (j := 5) (T := TX2) (N := 11) (v := .ref (oA ω (2 + 8 * r1 + 5))) dX4_fact_44 (ltRg hn hr1) (cOb_Rg (ρ := r1) hr1 _) rfl (by decide) in_X2 w_100 rfl (q := 47) rfl ?_
          refine e_iload_n C dX4_fact_47 rfl 2 rfl (q := 48) rfl ?_
          refine e_iald C (k := (2 + 8 * r1 + 5)) (n := 6) dX4_fact_48 (ltRgj hn hr1 5 (by decide)) ((cAr_Rg hr1 5 (by decide)) _) (q := 49) rfl ?_
          exact e_ireturn C dX4_fact_49 hret rfl
        · refine e_if (fun h5 => ?_) (fun h5 => ?_)
          · refine e_tabIn C (v := -9) (off := 35) (tgt := 36) dX4_fact_1 (by rw [h5]; rfl) (by decide) rfl rfl ?_
            refine e_aload_n C dX4_fact_36 rfl 1 rfl (q := 37) rfl ?_
            refine e_getf C (k := (2 + 8 * r1)) (j := 4) (T := TX2) (N := 11) (v := .ref (oA ω (2 + 8 * r1 + 4))) dX4_fact_37 (ltRg hn hr1) (cOb_Rg (ρ := r1) hr1 _) rfl (by decide) in_X2 w_97 rfl (q := 40) rfl ?_
            refine e_iload_n C dX4_fact_40 rfl 2 rfl (q := 41) rfl ?_
            refine e_iald C (k := (2 + 8 * r1 + 4)) (n := 6) dX4_fact_41 (ltRgj hn hr1 4 (by decide)) ((cAr_Rg hr1 4 (by decide)) _) (q := 42) rfl ?_
            exact e_ireturn C dX4_fact_42 hret rfl
          · refine e_tabOut C (tgt := 67) dX4_fact_1 (by have g0 := i32_ne h1; have g1 := i32_ne h2; have g2 := i32_ne h3; have g3 := i32_ne h4; have g4 := i32_ne h5; have f0 : ((-13 : Int32)).toInt = -13 := rfl; have f1 : ((-12 : Int32)).toInt = -12 := rfl; have f2 : ((-11 : Int32)).toInt = -11 := rfl; have f3 : ((-10 : Int32)).toInt = -10 := rfl; have f4 : ((-9 : Int32)).toInt = -9 := rfl; omega) rfl ?_
            refine e_aload_n C dX4_fact_67 rfl 1 rfl (q := 68) rfl ?_
            refine e_getf C (k := (2 + 8 * r1)) (j := 2) (T := TX2) (N := 11) (v := .ref (oA ω (2 + 8 * r1 + 2))) dX4_fact_68 (ltRg hn hr1) (cOb_Rg (ρ := r1) hr1 _) rfl (by decide) in_X2 w_92 rfl (q := 71) rfl ?_
            refine e_iload_n C dX4_fact_71 rfl 2 rfl (q := 72) rfl ?_
            refine e_iald C (k := (2 + 8 * r1 + 2)) (n := 6) dX4_fact_72 (ltRgj hn hr1 2 (by decide)) ((cAr_Rg hr1 2 (by decide)) _) (q := 73) rfl ?_
            exact e_ireturn C dX4_fact_73 hret rfl
set_option maxHeartbeats 4000000 in
set_option maxRecDepth 100000 in
theorem xb_X4_joined_b92 {l : Launch} {κ : Kx} {ω : Om} {a0 : Int32} {a1 : Int32} {a2 : Int32} (C : CX κ ω cX4_joined 3 1 yX4_joined.cls) (hlau : κ.2.1 = l) (hret : κ.2.2.2.2.2.2.2.2.1.sig.returnType = (some .int)) (hn : 56 ≤ oN ω)  : ∀  (I : Mem), EE κ ω 3 (Gi κ ω) (f_X4_joined_b92 a0 a1 a2  I) I 92 [] [] := by
  intro  I
  unfold f_X4_joined_b92
  refine e_iconst C dX4_joined_92 ic_1 (q := 93) rfl ?_
  refine e_goto C (tgt := 97) dX4_joined_93 rfl ?_
  exact e_ireturn C dX4_joined_97 hret rfl
set_option maxHeartbeats 4000000 in
set_option maxRecDepth 100000 in
theorem x_X4_joined {l : Launch} {ω : Om} {a0 : Int32} {a1 : Int32} {a2 : Int32} (hn : 56 ≤ oN ω)  {I : Mem} : CTi l ω yX4_joined cX4_joined 3 (some .int) 1 [.int a0, .int a1, .int a2] (f_X4_joined a0 a1 a2 I) I := by
  refine ct_i (by decide) (Nat.le_of_ble_eq_true rfl) ?_
  intro κ hlau hret C
  refine e_lv [0, 1, 2] (lv1 := [(0, .int a0), (1, .int a1), (2, .int a2)]) rfl ?_
  unfold f_X4_joined
  refine e_iload_n C dX4_joined_0 rfl 0 rfl (q := 1) rfl ?_
  refine e_if (fun h1 => ?_) (fun h1 => ?_)
  · refine e_tabIn C (v := -22) (off := 122) (tgt := 123) dX4_joined_1 (by rw [h1]; rfl) (by decide) rfl rfl ?_
    refine e_iload_n C dX4_joined_123 rfl 1 rfl (q := 124) rfl ?_
    refine e_iload_n C dX4_joined_124 rfl 2 rfl (q := 125) rfl ?_
    refine e_icmpne C (tgt := 132) (q := 128) dX4_joined_125 rfl rfl ?_ ?_
    · refine e_iconst C dX4_joined_132 ic_0 (q := 133) rfl ?_
      exact e_ireturn C dX4_joined_133 hret rfl
    · refine e_iconst C dX4_joined_128 ic_1 (q := 129) rfl ?_
      refine e_goto C (tgt := 133) dX4_joined_129 rfl ?_
      exact e_ireturn C dX4_joined_133 hret rfl
  · refine e_if (fun h2 => ?_) (fun h2 => ?_)
    · refine e_tabIn C (v := -21) (off := 111) (tgt := 112) dX4_joined_1 (by rw [h2]; rfl) (by decide) rfl rfl ?_
      refine e_iload_n C dX4_joined_112 rfl 1 rfl (q := 113) rfl ?_
      refine e_iload_n C dX4_joined_113 rfl 2 rfl (q := 114) rfl ?_
      refine e_icmpge C (tgt := 121) (q := 117) dX4_joined_114 rfl rfl ?_ ?_
      · refine e_iconst C dX4_joined_121 ic_0 (q := 122) rfl ?_
        exact e_ireturn C dX4_joined_122 hret rfl
      · refine e_iconst C dX4_joined_117 ic_1 (q := 118) rfl ?_
        refine e_goto C (tgt := 122) dX4_joined_118 rfl ?_
        exact e_ireturn C dX4_joined_122 hret rfl
    · refine e_if (fun h3 => ?_) (fun h3 => ?_)
      · refine e_tabIn C (v := -20) (off := 141) (tgt := 142) dX4_joined_1 (by rw [h3]; rfl) (by decide) rfl rfl ?_
        refine e_iload_n C dX4_joined_142 rfl 1 rfl (q := 143) rfl ?_
        refine e_iload_n C dX4_joined_143 rfl 2 rfl (q := 144) rfl ?_
        refine e_imul C dX4_joined_144 (q := 145) rfl ?_
        exact e_ireturn C dX4_joined_145 hret rfl
      · refine e_if (fun h4 => ?_) (fun h4 => ?_)
        · refine e_tabIn C (v := -19) (off := 137) (tgt := 138) dX4_joined_1 (by rw [h4]; rfl) (by decide) rfl rfl ?_
          refine e_iload_n C dX4_joined_138 rfl 1 rfl (q := 139) rfl ?_
          refine e_iload_n C dX4_joined_139 rfl 2 rfl (q := 140) rfl ?_
          refine e_isub C dX4_joined_140 (q := 141) rfl ?_
          exact e_ireturn C dX4_joined_141 hret rfl
        · refine e_if (fun h5 => ?_) (fun h5 => ?_)
          · refine e_tabIn C (v := -18) (off := 133) (tgt := 134) dX4_joined_1 (by rw [h5]; rfl) (by decide) rfl rfl ?_
            refine e_iload_n C dX4_joined_134 rfl 1 rfl (q := 135) rfl ?_
            refine e_iload_n C dX4_joined_135 rfl 2 rfl (q := 136) rfl ?_
            refine e_iadd C dX4_joined_136 (q := 137) rfl ?_
            exact e_ireturn C dX4_joined_137 hret rfl
          · refine e_if (fun h6 => ?_) (fun h6 => ?_)
            · refine e_tabIn C (v := -17) (off := 141) (tgt := 142) dX4_joined_1 (by rw [h6]; rfl) (by decide) rfl rfl ?_
              refine e_iload_n C dX4_joined_142 rfl 1 rfl (q := 143) rfl ?_
              refine e_iload_n C dX4_joined_143 rfl 2 rfl (q := 144) rfl ?_
              refine e_imul C dX4_joined_144 (q := 145) rfl ?_
              exact e_ireturn C dX4_joined_145 hret rfl
            · refine e_if (fun h7 => ?_) (fun h7 => ?_)
              · refine e_tabIn C (v := -16) (off := 141) (tgt := 142) dX4_joined_1 (by rw [h7]; rfl) (by decide) rfl rfl ?_
                refine e_iload_n C dX4_joined_142 rfl 1 rfl (q := 143) rfl ?_
                refine e_iload_n C dX4_joined_143 rfl 2 rfl (q := 144) rfl ?_
                refine e_imul C dX4_joined_144 (q := 145) rfl ?_
                exact e_ireturn C dX4_joined_145 hret rfl
              · refine e_if (fun h8 => ?_) (fun h8 => ?_)
                · refine e_tabIn C (v := -15) (off := 141) (tgt := 142) dX4_joined_1 (by rw [h8]; rfl) (by decide) rfl rfl ?_
                  refine e_iload_n C dX4_joined_142 rfl 1 rfl (q := 143) rfl ?_
                  refine e_iload_n C dX4_joined_143 rfl 2 rfl (q := 144) rfl ?_
                  refine e_imul C dX4_joined_144 (q := 145) rfl ?_
                  exact e_ireturn C dX4_joined_145 hret rfl
                · refine e_if (fun h9 => ?_) (fun h9 => ?_)
                  · refine e_tabIn C (v := -14) (off := 141) (tgt := 142) dX4_joined_1 (by rw [h9]; rfl) (by decide) rfl rfl ?_
                    refine e_iload_n C dX4_joined_142 rfl 1 rfl (q := 143) rfl ?_
                    refine e_iload_n C dX4_joined_143 rfl 2 rfl (q := 144) rfl ?_
                    refine e_imul C dX4_joined_144 (q := 145) rfl ?_
                    exact e_ireturn C dX4_joined_145 hret rfl
                  · refine e_if (fun h10 => ?_) (fun h10 => ?_)
                    · refine e_tabIn C (v := -13) (off := 141) (tgt := 142) dX4_joined_1 (by rw [h10]; rfl) (by decide) rfl rfl ?_
                      refine e_iload_n C dX4_joined_142 rfl 1 rfl (q := 143) rfl ?_
                      refine e_iload_n C dX4_joined_143 rfl 2 rfl (q := 144) rfl ?_
                      refine e_imul C dX4_joined_144 (q := 145) rfl ?_
                      exact e_ireturn C dX4_joined_145 hret rfl
                    · refine e_if (fun h11 => ?_) (fun h11 => ?_)
                      · refine e_tabIn C (v := -12) (off := 141) (tgt := 142) dX4_joined_1 (by rw [h11]; rfl) (by decide) rfl rfl ?_
                        refine e_iload_n C dX4_joined_142 rfl 1 rfl (q := 143) rfl ?_
                        refine e_iload_n C dX4_joined_143 rfl 2 rfl (q := 144) rfl ?_
                        refine e_imul C dX4_joined_144 (q := 145) rfl ?_
                        exact e_ireturn C dX4_joined_145 hret rfl
                      · refine e_if (fun h12 => ?_) (fun h12 => ?_)
                        · refine e_tabIn C (v := -11) (off := 141) (tgt := 142) dX4_joined_1 (by rw [h12]; rfl) (by decide) rfl rfl ?_
                          refine e_iload_n C dX4_joined_142 rfl 1 rfl (q := 143) rfl ?_
                          refine e_iload_n C dX4_joined_143 rfl 2 rfl (q := 144) rfl ?_
                          refine e_imul C dX4_joined_144 (q := 145) rfl ?_
                          exact e_ireturn C dX4_joined_145 hret rfl
                        · refine e_if (fun h13 => ?_) (fun h13 => ?_)
                          · refine e_tabIn C (v := -10) (off := 141) (tgt := 142) dX4_joined_1 (by rw [h13]; rfl) (by decide) rfl rfl ?_
                            refine e_iload_n C dX4_joined_142 rfl 1 rfl (q := 143) rfl ?_
                            refine e_iload_n C dX4_joined_143 rfl 2 rfl (q := 144) rfl ?_
                            refine e_imul C dX4_joined_144 (q := 145) rfl ?_
                            exact e_ireturn C dX4_joined_145 hret rfl
                          · refine e_if (fun h14 => ?_) (fun h14 => ?_)
                            · refine e_tabIn C (v := -9) (off := 141) (tgt := 142) dX4_joined_1 (by rw [h14]; rfl) (by decide) rfl rfl ?_
                              refine e_iload_n C dX4_joined_142 rfl 1 rfl (q := 143) rfl ?_
                              refine e_iload_n C dX4_joined_143 rfl 2 rfl (q := 144) rfl ?_
                              refine e_imul C dX4_joined_144 (q := 145) rfl ?_
                              exact e_ireturn C dX4_joined_145 hret rfl
                            · refine e_if (fun h15 => ?_) (fun h15 => ?_)
                              · refine e_tabIn C (v := -8) (off := 141) (tgt := 142) dX4_joined_1 (by rw [h15]; rfl) (by decide) rfl rfl ?_
                                refine e_iload_n C dX4_joined_142 rfl 1 rfl (q := 143) rfl ?_
                                refine e_iload_n C dX4_joined_143 rfl 2 rfl (q := 144) rfl ?_
                                refine e_imul C dX4_joined_144 (q := 145) rfl ?_
                                exact e_ireturn C dX4_joined_145 hret rfl
                              · refine e_if (fun h16 => ?_) (fun h16 => ?_)
                                · refine e_tabIn C (v := -7) (off := 97) (tgt := 98) dX4_joined_1 (by rw [h16]; rfl) (by decide) rfl rfl ?_
                                  refine e_iload_n C dX4_joined_98 rfl 1 rfl (q := 99) rfl ?_
                                  refine e_ifeq C (tgt := 110) (q := 102) dX4_joined_99 rfl rfl ?_ ?_
                                  · refine e_iconst C dX4_joined_110 ic_0 (q := 111) rfl ?_
                                    exact e_ireturn C dX4_joined_111 hret rfl
                                  · refine e_iload_n C dX4_joined_102 rfl 2 rfl (q := 103) rfl ?_
                                    refine e_ifeq C (tgt := 110) (q := 106) dX4_joined_103 rfl rfl ?_ ?_
                                    · refine e_iconst C dX4_joined_110 ic_0 (q := 111) rfl ?_
                                      exact e_ireturn C dX4_joined_111 hret rfl
                                    · refine e_iconst C dX4_joined_106 ic_1 (q := 107) rfl ?_
                                      refine e_goto C (tgt := 111) dX4_joined_107 rfl ?_
                                      exact e_ireturn C dX4_joined_111 hret rfl
                                · refine e_if (fun h17 => ?_) (fun h17 => ?_)
                                  · refine e_tabIn C (v := -6) (off := 83) (tgt := 84) dX4_joined_1 (by rw [h17]; rfl) (by decide) rfl rfl ?_
                                    refine e_iload_n C dX4_joined_84 rfl 1 rfl (q := 85) rfl ?_
                                    refine e_ifne C (tgt := 92) (q := 88) dX4_joined_85 rfl rfl ?_ ?_
                                    · exact e_lv [] (lv1 := []) rfl (xb_X4_joined_b92 C hlau hret hn _)
                                    · refine e_iload_n C dX4_joined_88 rfl 2 rfl (q := 89) rfl ?_
                                      refine e_ifeq C (tgt := 96) (q := 92) dX4_joined_89 rfl rfl ?_ ?_
                                      · refine e_iconst C dX4_joined_96 ic_0 (q := 97) rfl ?_
                                        exact e_ireturn C dX4_joined_97 hret rfl
                                      · exact e_lv [] (lv1 := []) rfl (xb_X4_joined_b92 C hlau hret hn _)
                                  · refine e_tabOut C (tgt := 142) dX4_joined_1 (by have g0 := i32_ne h1; have g1 := i32_ne h2; have g2 := i32_ne h3; have g3 := i32_ne h4; have g4 := i32_ne h5; have g5 := i32_ne h6; have g6 := i32_ne h7; have g7 := i32_ne h8; have g8 := i32_ne h9; have g9 := i32_ne h10; have g10 := i32_ne h11; have g11 := i32_ne h12; have g12 := i32_ne h13; have g13 := i32_ne h14; have g14 := i32_ne h15; have g15 := i32_ne h16; have g16 := i32_ne h17; have f0 : ((-22 : Int32)).toInt = -22 := rfl; have f1 : ((-21 : Int32)).toInt = -21 := rfl; have f2 : ((-20 : Int32)).toInt = -20 := rfl; have f3 : ((-19 : Int32)).toInt = -19 := rfl; have f4 : ((-18 : Int32)).toInt = -18 := rfl; have f5 : ((-17 : Int32)).toInt = -17 := rfl; have f6 : ((-16 : Int32)).toInt = -16 := rfl; have f7 : ((-15 : Int32)).toInt = -15 := rfl; have f8 : ((-14 : Int32)).toInt = -14 := rfl; have f9 : ((-13 : Int32)).toInt = -13 := rfl; have f10 : ((-12 : Int32)).toInt = -12 := rfl; have f11 : ((-11 : Int32)).toInt = -11 := rfl; have f12 : ((-10 : Int32)).toInt = -10 := rfl; have f13 : ((-9 : Int32)).toInt = -9 := rfl; have f14 : ((-8 : Int32)).toInt = -8 := rfl; have f15 : ((-7 : Int32)).toInt = -7 := rfl; have f16 : ((-6 : Int32)).toInt = -6 := rfl; omega) rfl ?_
                                    refine e_iload_n C dX4_joined_142 rfl 1 rfl (q := 143) rfl ?_
                                    refine e_iload_n C dX4_joined_143 rfl 2 rfl (q := 144) rfl ?_
                                    refine e_imul C dX4_joined_144 (q := 145) rfl ?_
                                    exact e_ireturn C dX4_joined_145 hret rfl
set_option maxHeartbeats 4000000 in
set_option maxRecDepth 100000 in
theorem xb_X4_says_b237 {l : Launch} {κ : Kx} {ω : Om} {τ : Nat} {a1 : Int32} {r2 : Nat} {a3 : Int32} (C : CX κ ω cX4_says 8 3 yX4_says.cls) (hlau : κ.2.1 = l) (hret : κ.2.2.2.2.2.2.2.2.1.sig.returnType = (some .int)) (hn : 56 ≤ oN ω) (hτ : τ < 6) (hr2 : r2 < 3) : ∀ (s0 : Int32) (I : Mem), EE κ ω 8 (Gi κ ω) (f_X4_says_b237 τ a1 r2 a3 s0 I) I 237 [(0, .ref (oA ω (30 + 3 * τ)))] [.int s0] := by
  intro s0 I
  unfold f_X4_says_b237
  refine e_bipush C dX4_says_237 b8_99 (q := 239) rfl ?_
  refine e_aload_n C dX4_says_239 rfl 0 rfl (q := 240) rfl ?_
  refine e_getf C (k := (30 + 3 * τ)) (j := 0) (T := TX4) (N := 4) (v := .ref (oA ω 29)) dX4_says_240 (ltTx hn hτ) (cOb_Tx (τ := τ) hτ _) rfl (by decide) in_X4 w_173 rfl (q := 243) rfl ?_
  refine e_iconst C dX4_says_243 ic_0 (q := 244) rfl ?_
  refine e_iald C (k := 29) (n := 160) dX4_says_244 (ltL hn (Nat.le_of_ble_eq_true rfl)) rfl (q := 245) rfl ?_
  refine e_mmin C dX4_says_245 w_424 w_258 w_65 w_259 (Nat.le_of_ble_eq_true rfl) (Nat.le_of_ble_eq_true rfl) (q := 248) rfl ?_
  refine e_mmax C dX4_says_248 w_425 w_426 w_65 w_427 (Nat.le_of_ble_eq_true rfl) (Nat.le_of_ble_eq_true rfl) (q := 251) rfl ?_
  exact e_ireturn C dX4_says_251 hret rfl
set_option maxHeartbeats 4000000 in
set_option maxRecDepth 100000 in
theorem xb_X4_says_b181 {l : Launch} {κ : Kx} {ω : Om} {τ : Nat} {a1 : Int32} {r2 : Nat} {a3 : Int32} (C : CX κ ω cX4_says 8 3 yX4_says.cls) (hlau : κ.2.1 = l) (hret : κ.2.2.2.2.2.2.2.2.1.sig.returnType = (some .int)) (hn : 56 ≤ oN ω) (hτ : τ < 6) (hr2 : r2 < 3) {K21 : Int32 → Int32 → Mem → Option (Int32 × Mem)} (hK21 : ∀ (x5 : Int32) (x4 : Int32) (J : Mem), EE κ ω 8 (Gi κ ω) (K21 x5 x4 J) J 21 [(5, .int x5), (4, .int x4), (0, .ref (oA ω (30 + 3 * τ))), (1, .int a1), (2, .ref (oA ω (2 + 8 * r2))), (3, .int a3)] []) : ∀ (x6 : Int32) (x5 : Int32) (x4 : Int32) (I : Mem), EE κ ω 8 (Gi κ ω) (f_X4_says_b181 τ a1 r2 a3 K21 x6 x5 x4 I) I 181 [(6, .int x6), (5, .int x5), (4, .int x4), (0, .ref (oA ω (30 + 3 * τ))), (1, .int a1), (2, .ref (oA ω (2 + 8 * r2))), (3, .int a3)] [] := by
  intro x6 x5 x4 I
  unfold f_X4_says_b181
  refine e_iload C dX4_says_181 2 rfl (q := 183) rfl ?_
  refine e_iconst C dX4_says_183 ic_1 (q := 184) rfl ?_
  refine e_icmple C (tgt := 220) (q := 187) dX4_says_184 rfl rfl ?_ ?_
  · refine e_iinc C (v := x5 + (1 : Int32)) (lv1 := [(5, .int (x5 + (1 : Int32))), (6, .int x6), (4, .int x4), (0, .ref (oA ω (30 + 3 * τ))), (1, .int a1), (2, .ref (oA ω (2 + 8 * r2))), (3, .int a3)]) dX4_says_220 1 rfl (Nat.le_of_ble_eq_true rfl) (by rw [ic_1]) rfl (q := 223) rfl ?_
    refine e_goto C (tgt := 21) dX4_says_223 rfl ?_
    exact e_lv [0, 2, 3, 4, 5, 6] (lv1 := [(5, .int (x5 + (1 : Int32))), (4, .int x4), (0, .ref (oA ω (30 + 3 * τ))), (1, .int a1), (2, .ref (oA ω (2 + 8 * r2))), (3, .int a3)]) rfl (hK21 (x5 + (1 : Int32)) x4 _)
  · refine e_iinc C (v := x4 + (-1 : Int32)) (lv1 := [(4, .int (x4 + (-1 : Int32))), (6, .int x6), (5, .int x5), (0, .ref (oA ω (30 + 3 * τ))), (1, .int a1), (2, .ref (oA ω (2 + 8 * r2))), (3, .int a3)]) dX4_says_187 2 rfl (Nat.le_of_ble_eq_true rfl) (by rw [ic_m1]) rfl (q := 190) rfl ?_
    refine e_aload_n C dX4_says_190 rfl 3 rfl (q := 191) rfl ?_
    refine e_getf C (k := (30 + 3 * τ)) (j := 0) (T := TX4) (N := 4) (v := .ref (oA ω 29)) dX4_says_191 (ltTx hn hτ) (cOb_Tx (τ := τ) hτ _) rfl (by decide) in_X4 w_173 rfl (q := 194) rfl ?_
    refine e_iload C dX4_says_194 0 rfl (q := 196) rfl ?_
    refine e_iconst C dX4_says_196 ic_1 (q := 197) rfl ?_
    refine e_isub C dX4_says_197 (q := 198) rfl ?_
    refine e_iload C dX4_says_198 1 rfl (q := 200) rfl ?_
    refine e_aload_n C dX4_says_200 rfl 3 rfl (q := 201) rfl ?_
    refine e_getf C (k := (30 + 3 * τ)) (j := 0) (T := TX4) (N := 4) (v := .ref (oA ω 29)) dX4_says_201 (ltTx hn hτ) (cOb_Tx (τ := τ) hτ _) rfl (by decide) in_X4 w_173 rfl (q := 204) rfl ?_
    refine e_iload C dX4_says_204 0 rfl (q := 206) rfl ?_
    refine e_iconst C dX4_says_206 ic_1 (q := 207) rfl ?_
    refine e_isub C dX4_says_207 (q := 208) rfl ?_
    refine e_nmi (fun v2 => ?_)
    refine e_iald C (k := 29) (n := 160) dX4_says_208 (ltL hn (Nat.le_of_ble_eq_true rfl)) rfl (q := 209) rfl ?_
    refine e_aload_n C dX4_says_209 rfl 3 rfl (q := 210) rfl ?_
    refine e_getf C (k := (30 + 3 * τ)) (j := 0) (T := TX4) (N := 4) (v := .ref (oA ω 29)) dX4_says_210 (ltTx hn hτ) (cOb_Tx (τ := τ) hτ _) rfl (by decide) in_X4 w_173 rfl (q := 213) rfl ?_
    refine e_iload C dX4_says_213 0 rfl (q := 215) rfl ?_
    refine e_iald C (k := 29) (n := 160) dX4_says_215 (ltL hn (Nat.le_of_ble_eq_true rfl)) rfl (q := 216) rfl ?_
    refine e_callSi C (l := l) (av := [.int x6, .int (I 29 (v2).toNatClampNeg), .int (I 29 (x4 + (-1 : Int32)).toNatClampNeg)]) (st := [.int ((x4 + (-1 : Int32)) - (1 : Int32)), .ref (oA ω 29)]) hlau (x_X4_joined (l := l) (ω := ω) (a0 := x6) (a1 := I 29 (v2).toNatClampNeg) (a2 := I 29 (x4 + (-1 : Int32)).toNatClampNeg) hn (I := I)) dX4_says_216 w_421 w_422 w_59 w_423 md_X4_joined (by decide) (by decide) rfl (Nat.le_of_ble_eq_true rfl) (q := 219) rfl (fun v4 J3 => ?_)
    refine e_iast C (k := 29) (n := 160) dX4_says_219 (ltL hn (Nat.le_of_ble_eq_true rfl)) (fun _ => rfl) (q := 220) rfl ?_
    refine e_nmM (fun J5 => ?_)
    refine e_iinc C (v := x5 + (1 : Int32)) (lv1 := [(5, .int (x5 + (1 : Int32))), (4, .int (x4 + (-1 : Int32))), (6, .int x6), (0, .ref (oA ω (30 + 3 * τ))), (1, .int a1), (2, .ref (oA ω (2 + 8 * r2))), (3, .int a3)]) dX4_says_220 2 rfl (Nat.le_of_ble_eq_true rfl) (by rw [ic_1]) rfl (q := 223) rfl ?_
    refine e_goto C (tgt := 21) dX4_says_223 rfl ?_
    exact e_lv [0, 1, 3, 4, 5, 6] (lv1 := [(5, .int (x5 + (1 : Int32))), (4, .int (x4 + (-1 : Int32))), (0, .ref (oA ω (30 + 3 * τ))), (1, .int a1), (2, .ref (oA ω (2 + 8 * r2))), (3, .int a3)]) rfl (hK21 (x5 + (1 : Int32)) (x4 + (-1 : Int32)) _)
set_option maxHeartbeats 4000000 in
set_option maxRecDepth 100000 in
theorem xb_X4_says_b147 {l : Launch} {κ : Kx} {ω : Om} {τ : Nat} {a1 : Int32} {r2 : Nat} {a3 : Int32} (C : CX κ ω cX4_says 8 3 yX4_says.cls) (hlau : κ.2.1 = l) (hret : κ.2.2.2.2.2.2.2.2.1.sig.returnType = (some .int)) (hn : 56 ≤ oN ω) (hτ : τ < 6) (hr2 : r2 < 3) {K21 : Int32 → Int32 → Mem → Option (Int32 × Mem)} (hK21 : ∀ (x5 : Int32) (x4 : Int32) (J : Mem), EE κ ω 8 (Gi κ ω) (K21 x5 x4 J) J 21 [(5, .int x5), (4, .int x4), (0, .ref (oA ω (30 + 3 * τ))), (1, .int a1), (2, .ref (oA ω (2 + 8 * r2))), (3, .int a3)] []) : ∀ (x6 : Int32) (x5 : Int32) (x4 : Int32) (I : Mem), EE κ ω 8 (Gi κ ω) (f_X4_says_b147 τ a1 r2 a3 K21 x6 x5 x4 I) I 147 [(6, .int x6), (5, .int x5), (4, .int x4), (0, .ref (oA ω (30 + 3 * τ))), (1, .int a1), (2, .ref (oA ω (2 + 8 * r2))), (3, .int a3)] [] := by
  intro x6 x5 x4 I
  unfold f_X4_says_b147
  refine e_iload C dX4_says_147 0 rfl (q := 149) rfl ?_
  refine e_bipush C dX4_says_149 b8_m23 (q := 151) rfl ?_
  refine e_icmpne C (tgt := 181) (q := 154) dX4_says_151 rfl rfl ?_ ?_
  · exact xb_X4_says_b181 C hlau hret hn hτ hr2 hK21 x6 x5 x4 _
  · refine e_iload C dX4_says_154 2 rfl (q := 156) rfl ?_
    refine e_ifle C (tgt := 181) (q := 159) dX4_says_156 rfl rfl ?_ ?_
    · exact xb_X4_says_b181 C hlau hret hn hτ hr2 hK21 x6 x5 x4 _
    · refine e_aload_n C dX4_says_159 rfl 3 rfl (q := 160) rfl ?_
      refine e_getf C (k := (30 + 3 * τ)) (j := 0) (T := TX4) (N := 4) (v := .ref (oA ω 29)) dX4_says_160 (ltTx hn hτ) (cOb_Tx (τ := τ) hτ _) rfl (by decide) in_X4 w_173 rfl (q := 163) rfl ?_
      refine e_iload C dX4_says_163 2 rfl (q := 165) rfl ?_
      refine e_iconst C dX4_says_165 ic_1 (q := 166) rfl ?_
      refine e_isub C dX4_says_166 (q := 167) rfl ?_
      refine e_aload_n C dX4_says_167 rfl 3 rfl (q := 168) rfl ?_
      refine e_getf C (k := (30 + 3 * τ)) (j := 0) (T := TX4) (N := 4) (v := .ref (oA ω 29)) dX4_says_168 (ltTx hn hτ) (cOb_Tx (τ := τ) hτ _) rfl (by decide) in_X4 w_173 rfl (q := 171) rfl ?_
      refine e_iload C dX4_says_171 2 rfl (q := 173) rfl ?_
      refine e_iconst C dX4_says_173 ic_1 (q := 174) rfl ?_
      refine e_isub C dX4_says_174 (q := 175) rfl ?_
      refine e_iald C (k := 29) (n := 160) dX4_says_175 (ltL hn (Nat.le_of_ble_eq_true rfl)) rfl (q := 176) rfl ?_
      refine e_ineg C dX4_says_176 (q := 177) rfl ?_
      refine e_iast C (k := 29) (n := 160) dX4_says_177 (ltL hn (Nat.le_of_ble_eq_true rfl)) (fun _ => rfl) (q := 178) rfl ?_
      refine e_nmM (fun J6 => ?_)
      refine e_goto C (tgt := 220) dX4_says_178 rfl ?_
      refine e_iinc C (v := x5 + (1 : Int32)) (lv1 := [(5, .int (x5 + (1 : Int32))), (6, .int x6), (4, .int x4), (0, .ref (oA ω (30 + 3 * τ))), (1, .int a1), (2, .ref (oA ω (2 + 8 * r2))), (3, .int a3)]) dX4_says_220 1 rfl (Nat.le_of_ble_eq_true rfl) (by rw [ic_1]) rfl (q := 223) rfl ?_
      refine e_goto C (tgt := 21) dX4_says_223 rfl ?_
      exact e_lv [0, 2, 3, 4, 5, 6] (lv1 := [(5, .int (x5 + (1 : Int32))), (4, .int x4), (0, .ref (oA ω (30 + 3 * τ))), (1, .int a1), (2, .ref (oA ω (2 + 8 * r2))), (3, .int a3)]) rfl (hK21 (x5 + (1 : Int32)) x4 _)
set_option maxHeartbeats 4000000 in
set_option maxRecDepth 100000 in
theorem xb_X4_says_b143 {l : Launch} {κ : Kx} {ω : Om} {τ : Nat} {a1 : Int32} {r2 : Nat} {a3 : Int32} (C : CX κ ω cX4_says 8 3 yX4_says.cls) (hlau : κ.2.1 = l) (hret : κ.2.2.2.2.2.2.2.2.1.sig.returnType = (some .int)) (hn : 56 ≤ oN ω) (hτ : τ < 6) (hr2 : r2 < 3) {K21 : Int32 → Int32 → Mem → Option (Int32 × Mem)} (hK21 : ∀ (x5 : Int32) (x4 : Int32) (J : Mem), EE κ ω 8 (Gi κ ω) (K21 x5 x4 J) J 21 [(5, .int x5), (4, .int x4), (0, .ref (oA ω (30 + 3 * τ))), (1, .int a1), (2, .ref (oA ω (2 + 8 * r2))), (3, .int a3)] []) : ∀ (x5 : Int32) (x4 : Int32) (s0 : Int32) (s1 : Int32) (I : Mem), EE κ ω 8 (Gi κ ω) (f_X4_says_b143 τ a1 r2 a3 K21 x5 x4 s0 s1 I) I 143 [(5, .int x5), (4, .int x4), (0, .ref (oA ω (30 + 3 * τ))), (1, .int a1), (2, .ref (oA ω (2 + 8 * r2))), (3, .int a3)] [.int s0, .int s1, .ref (oA ω 29)] := by
  intro x5 x4 s0 s1 I
  unfold f_X4_says_b143
  refine e_iast C (k := 29) (n := 160) dX4_says_143 (ltL hn (Nat.le_of_ble_eq_true rfl)) (fun _ => rfl) (q := 144) rfl ?_
  refine e_nmM (fun J7 => ?_)
  refine e_goto C (tgt := 220) dX4_says_144 rfl ?_
  refine e_iinc C (v := x5 + (1 : Int32)) (lv1 := [(5, .int (x5 + (1 : Int32))), (4, .int x4), (0, .ref (oA ω (30 + 3 * τ))), (1, .int a1), (2, .ref (oA ω (2 + 8 * r2))), (3, .int a3)]) dX4_says_220 0 rfl (Nat.le_of_ble_eq_true rfl) (by rw [ic_1]) rfl (q := 223) rfl ?_
  refine e_goto C (tgt := 21) dX4_says_223 rfl ?_
  exact hK21 (x5 + (1 : Int32)) x4 _
set_option maxHeartbeats 4000000 in
set_option maxRecDepth 100000 in
theorem xb_X4_says_b106 {l : Launch} {κ : Kx} {ω : Om} {τ : Nat} {a1 : Int32} {r2 : Nat} {a3 : Int32} (C : CX κ ω cX4_says 8 3 yX4_says.cls) (hlau : κ.2.1 = l) (hret : κ.2.2.2.2.2.2.2.2.1.sig.returnType = (some .int)) (hn : 56 ≤ oN ω) (hτ : τ < 6) (hr2 : r2 < 3) {K21 : Int32 → Int32 → Mem → Option (Int32 × Mem)} (hK21 : ∀ (x5 : Int32) (x4 : Int32) (J : Mem), EE κ ω 8 (Gi κ ω) (K21 x5 x4 J) J 21 [(5, .int x5), (4, .int x4), (0, .ref (oA ω (30 + 3 * τ))), (1, .int a1), (2, .ref (oA ω (2 + 8 * r2))), (3, .int a3)] []) : ∀ (x6 : Int32) (x5 : Int32) (x4 : Int32) (I : Mem), EE κ ω 8 (Gi κ ω) (f_X4_says_b106 τ a1 r2 a3 K21 x6 x5 x4 I) I 106 [(6, .int x6), (5, .int x5), (4, .int x4), (0, .ref (oA ω (30 + 3 * τ))), (1, .int a1), (2, .ref (oA ω (2 + 8 * r2))), (3, .int a3)] [] := by
  intro x6 x5 x4 I
  unfold f_X4_says_b106
  refine e_iload C dX4_says_106 0 rfl (q := 108) rfl ?_
  refine e_bipush C dX4_says_108 b8_m8 (q := 110) rfl ?_
  refine e_icmpne C (tgt := 147) (q := 113) dX4_says_110 rfl rfl ?_ ?_
  · exact xb_X4_says_b147 C hlau hret hn hτ hr2 hK21 x6 x5 x4 _
  · refine e_iload C dX4_says_113 2 rfl (q := 115) rfl ?_
    refine e_ifle C (tgt := 147) (q := 118) dX4_says_115 rfl rfl ?_ ?_
    · exact xb_X4_says_b147 C hlau hret hn hτ hr2 hK21 x6 x5 x4 _
    · refine e_aload_n C dX4_says_118 rfl 3 rfl (q := 119) rfl ?_
      refine e_getf C (k := (30 + 3 * τ)) (j := 0) (T := TX4) (N := 4) (v := .ref (oA ω 29)) dX4_says_119 (ltTx hn hτ) (cOb_Tx (τ := τ) hτ _) rfl (by decide) in_X4 w_173 rfl (q := 122) rfl ?_
      refine e_iload C dX4_says_122 2 rfl (q := 124) rfl ?_
      refine e_iconst C dX4_says_124 ic_1 (q := 125) rfl ?_
      refine e_isub C dX4_says_125 (q := 126) rfl ?_
      refine e_aload_n C dX4_says_126 rfl 3 rfl (q := 127) rfl ?_
      refine e_getf C (k := (30 + 3 * τ)) (j := 0) (T := TX4) (N := 4) (v := .ref (oA ω 29)) dX4_says_127 (ltTx hn hτ) (cOb_Tx (τ := τ) hτ _) rfl (by decide) in_X4 w_173 rfl (q := 130) rfl ?_
      refine e_iload C dX4_says_130 2 rfl (q := 132) rfl ?_
      refine e_iconst C dX4_says_132 ic_1 (q := 133) rfl ?_
      refine e_isub C dX4_says_133 (q := 134) rfl ?_
      refine e_iald C (k := 29) (n := 160) dX4_says_134 (ltL hn (Nat.le_of_ble_eq_true rfl)) rfl (q := 135) rfl ?_
      refine e_ifne C (tgt := 142) (q := 138) dX4_says_135 rfl rfl ?_ ?_
      · refine e_iconst C dX4_says_142 ic_0 (q := 143) rfl ?_
        exact e_lv [1, 2, 3, 4, 5, 6] (lv1 := [(5, .int x5), (4, .int x4), (0, .ref (oA ω (30 + 3 * τ))), (1, .int a1), (2, .ref (oA ω (2 + 8 * r2))), (3, .int a3)]) rfl (xb_X4_says_b143 C hlau hret hn hτ hr2 hK21 x5 x4 (0 : Int32) (x4 - (1 : Int32)) _)
      · refine e_iconst C dX4_says_138 ic_1 (q := 139) rfl ?_
        refine e_goto C (tgt := 143) dX4_says_139 rfl ?_
        exact e_lv [1, 2, 3, 4, 5, 6] (lv1 := [(5, .int x5), (4, .int x4), (0, .ref (oA ω (30 + 3 * τ))), (1, .int a1), (2, .ref (oA ω (2 + 8 * r2))), (3, .int a3)]) rfl (xb_X4_says_b143 C hlau hret hn hτ hr2 hK21 x5 x4 (1 : Int32) (x4 - (1 : Int32)) _)
set_option maxHeartbeats 4000000 in
set_option maxRecDepth 100000 in
theorem xb_X4_says_b99 {l : Launch} {κ : Kx} {ω : Om} {τ : Nat} {a1 : Int32} {r2 : Nat} {a3 : Int32} (C : CX κ ω cX4_says 8 3 yX4_says.cls) (hlau : κ.2.1 = l) (hret : κ.2.2.2.2.2.2.2.2.1.sig.returnType = (some .int)) (hn : 56 ≤ oN ω) (hτ : τ < 6) (hr2 : r2 < 3) {K21 : Int32 → Int32 → Mem → Option (Int32 × Mem)} (hK21 : ∀ (x5 : Int32) (x4 : Int32) (J : Mem), EE κ ω 8 (Gi κ ω) (K21 x5 x4 J) J 21 [(5, .int x5), (4, .int x4), (0, .ref (oA ω (30 + 3 * τ))), (1, .int a1), (2, .ref (oA ω (2 + 8 * r2))), (3, .int a3)] []) : ∀ (x5 : Int32) (x4 : Int32) (s0 : Int32) (s1 : Int32) (I : Mem), EE κ ω 8 (Gi κ ω) (f_X4_says_b99 τ a1 r2 a3 K21 x5 x4 s0 s1 I) I 99 [(5, .int x5), (4, .int x4), (0, .ref (oA ω (30 + 3 * τ))), (1, .int a1), (2, .ref (oA ω (2 + 8 * r2))), (3, .int a3)] [.int s0, .int s1, .ref (oA ω 29)] := by
  intro x5 x4 s0 s1 I
  unfold f_X4_says_b99
  refine e_iast C (k := 29) (n := 160) dX4_says_99 (ltL hn (Nat.le_of_ble_eq_true rfl)) (fun _ => rfl) (q := 100) rfl ?_
  refine e_nmM (fun J10 => ?_)
  refine e_iinc C (v := x4 + (1 : Int32)) (lv1 := [(4, .int (x4 + (1 : Int32))), (5, .int x5), (0, .ref (oA ω (30 + 3 * τ))), (1, .int a1), (2, .ref (oA ω (2 + 8 * r2))), (3, .int a3)]) dX4_says_100 1 rfl (Nat.le_of_ble_eq_true rfl) (by rw [ic_1]) rfl (q := 103) rfl ?_
  refine e_goto C (tgt := 220) dX4_says_103 rfl ?_
  refine e_iinc C (v := x5 + (1 : Int32)) (lv1 := [(5, .int (x5 + (1 : Int32))), (4, .int (x4 + (1 : Int32))), (0, .ref (oA ω (30 + 3 * τ))), (1, .int a1), (2, .ref (oA ω (2 + 8 * r2))), (3, .int a3)]) dX4_says_220 1 rfl (Nat.le_of_ble_eq_true rfl) (by rw [ic_1]) rfl (q := 223) rfl ?_
  refine e_goto C (tgt := 21) dX4_says_223 rfl ?_
  exact hK21 (x5 + (1 : Int32)) (x4 + (1 : Int32)) _
set_option maxHeartbeats 4000000 in
set_option maxRecDepth 100000 in
theorem xb_X4_says_b66 {l : Launch} {κ : Kx} {ω : Om} {τ : Nat} {a1 : Int32} {r2 : Nat} {a3 : Int32} (C : CX κ ω cX4_says 8 3 yX4_says.cls) (hlau : κ.2.1 = l) (hret : κ.2.2.2.2.2.2.2.2.1.sig.returnType = (some .int)) (hn : 56 ≤ oN ω) (hτ : τ < 6) (hr2 : r2 < 3) {K21 : Int32 → Int32 → Mem → Option (Int32 × Mem)} (hK21 : ∀ (x5 : Int32) (x4 : Int32) (J : Mem), EE κ ω 8 (Gi κ ω) (K21 x5 x4 J) J 21 [(5, .int x5), (4, .int x4), (0, .ref (oA ω (30 + 3 * τ))), (1, .int a1), (2, .ref (oA ω (2 + 8 * r2))), (3, .int a3)] []) : ∀ (x7 : Int32) (x6 : Int32) (x5 : Int32) (x4 : Int32) (I : Mem), EE κ ω 8 (Gi κ ω) (f_X4_says_b66 τ a1 r2 a3 K21 x7 x6 x5 x4 I) I 66 [(7, .int x7), (6, .int x6), (5, .int x5), (4, .int x4), (0, .ref (oA ω (30 + 3 * τ))), (1, .int a1), (2, .ref (oA ω (2 + 8 * r2))), (3, .int a3)] [] := by
  intro x7 x6 x5 x4 I
  unfold f_X4_says_b66
  refine e_iload C dX4_says_66 3 rfl (q := 68) rfl ?_
  refine e_aload_n C dX4_says_68 rfl 4 rfl (q := 69) rfl ?_
  refine e_getf C (k := (30 + 3 * τ)) (j := 0) (T := TX4) (N := 4) (v := .ref (oA ω 29)) dX4_says_69 (ltTx hn hτ) (cOb_Tx (τ := τ) hτ _) rfl (by decide) in_X4 w_173 rfl (q := 72) rfl ?_
  refine e_alen C (k := 29) (n := 160) (v := (160 : Int32)) dX4_says_72 (ltL hn (Nat.le_of_ble_eq_true rfl)) rfl (by decide) (q := 73) rfl ?_
  refine e_icmpge C (tgt := 106) (q := 76) dX4_says_73 rfl rfl ?_ ?_
  · exact e_lv [1, 2, 3, 4, 5, 6, 7] (lv1 := [(6, .int x6), (5, .int x5), (4, .int x4), (0, .ref (oA ω (30 + 3 * τ))), (1, .int a1), (2, .ref (oA ω (2 + 8 * r2))), (3, .int a3)]) rfl (xb_X4_says_b106 C hlau hret hn hτ hr2 hK21 x6 x5 x4 _)
  · refine e_aload_n C dX4_says_76 rfl 4 rfl (q := 77) rfl ?_
    refine e_getf C (k := (30 + 3 * τ)) (j := 0) (T := TX4) (N := 4) (v := .ref (oA ω 29)) dX4_says_77 (ltTx hn hτ) (cOb_Tx (τ := τ) hτ _) rfl (by decide) in_X4 w_173 rfl (q := 80) rfl ?_
    refine e_iload C dX4_says_80 3 rfl (q := 82) rfl ?_
    refine e_iload C dX4_says_82 0 rfl (q := 84) rfl ?_
    refine e_ifeq C (tgt := 92) (q := 87) dX4_says_84 rfl rfl ?_ ?_
    · refine e_iload C dX4_says_92 1 rfl (q := 94) rfl ?_
      refine e_aload_n C dX4_says_94 rfl 6 rfl (q := 95) rfl ?_
      refine e_iload_n C dX4_says_95 rfl 7 rfl (q := 96) rfl ?_
      refine e_callSi C (l := l) (av := [.int x6, .ref (oA ω (2 + 8 * r2)), .int a3]) (st := [.int x4, .ref (oA ω 29)]) hlau (x_X4_fact (l := l) (ω := ω) (a0 := x6) (r1 := r2) (a2 := a3) hn hr2 (I := I)) dX4_says_96 w_417 w_418 w_59 w_419 md_X4_fact (by decide) (by decide) rfl (Nat.le_of_ble_eq_true rfl) (q := 99) rfl (fun v9 J8 => ?_)
      exact e_lv [2, 3, 4, 5, 6, 7] (lv1 := [(5, .int x5), (4, .int x4), (0, .ref (oA ω (30 + 3 * τ))), (1, .int a1), (2, .ref (oA ω (2 + 8 * r2))), (3, .int a3)]) rfl (xb_X4_says_b99 C hlau hret hn hτ hr2 hK21 x5 x4 v9 x4 _)
    · refine e_iload C dX4_says_87 1 rfl (q := 89) rfl ?_
      refine e_goto C (tgt := 99) dX4_says_89 rfl ?_
      exact e_lv [2, 3, 4, 5, 6, 7] (lv1 := [(5, .int x5), (4, .int x4), (0, .ref (oA ω (30 + 3 * τ))), (1, .int a1), (2, .ref (oA ω (2 + 8 * r2))), (3, .int a3)]) rfl (xb_X4_says_b99 C hlau hret hn hτ hr2 hK21 x5 x4 x6 x4 _)
set_option maxHeartbeats 4000000 in
set_option maxRecDepth 100000 in
theorem xb_X4_says_b51 {l : Launch} {κ : Kx} {ω : Om} {τ : Nat} {a1 : Int32} {r2 : Nat} {a3 : Int32} (C : CX κ ω cX4_says 8 3 yX4_says.cls) (hlau : κ.2.1 = l) (hret : κ.2.2.2.2.2.2.2.2.1.sig.returnType = (some .int)) (hn : 56 ≤ oN ω) (hτ : τ < 6) (hr2 : r2 < 3) {K21 : Int32 → Int32 → Mem → Option (Int32 × Mem)} (hK21 : ∀ (x5 : Int32) (x4 : Int32) (J : Mem), EE κ ω 8 (Gi κ ω) (K21 x5 x4 J) J 21 [(5, .int x5), (4, .int x4), (0, .ref (oA ω (30 + 3 * τ))), (1, .int a1), (2, .ref (oA ω (2 + 8 * r2))), (3, .int a3)] []) : ∀ (x6 : Int32) (x5 : Int32) (x4 : Int32) (s0 : Int32) (I : Mem), EE κ ω 8 (Gi κ ω) (f_X4_says_b51 τ a1 r2 a3 K21 x6 x5 x4 s0 I) I 51 [(6, .int x6), (5, .int x5), (4, .int x4), (0, .ref (oA ω (30 + 3 * τ))), (1, .int a1), (2, .ref (oA ω (2 + 8 * r2))), (3, .int a3)] [.int s0] := by
  intro x6 x5 x4 s0 I
  unfold f_X4_says_b51
  refine e_istore C (lv1 := [(7, .int s0), (6, .int x6), (5, .int x5), (4, .int x4), (0, .ref (oA ω (30 + 3 * τ))), (1, .int a1), (2, .ref (oA ω (2 + 8 * r2))), (3, .int a3)]) dX4_says_51 (Nat.le_of_ble_eq_true rfl) rfl (q := 53) rfl ?_
  refine e_iload C dX4_says_53 0 rfl (q := 55) rfl ?_
  refine e_ifne C (tgt := 66) (q := 58) dX4_says_55 rfl rfl ?_ ?_
  · exact xb_X4_says_b66 C hlau hret hn hτ hr2 hK21 s0 x6 x5 x4 _
  · refine e_iload C dX4_says_58 1 rfl (q := 60) rfl ?_
    refine e_callSi C (l := l) (av := [.int x6]) (st := []) hlau (x_X5_isName (l := l) (ω := ω) (a0 := x6) hn (I := I)) dX4_says_60 w_416 w_340 w_66 w_341 md_X5_isName (by decide) (by decide) rfl (Nat.le_of_ble_eq_true rfl) (q := 63) rfl (fun v12 J11 => ?_)
    refine e_ifeq C (tgt := 106) (q := 66) dX4_says_63 rfl rfl ?_ ?_
    · exact e_lv [1, 2, 3, 4, 5, 6, 7] (lv1 := [(6, .int x6), (5, .int x5), (4, .int x4), (0, .ref (oA ω (30 + 3 * τ))), (1, .int a1), (2, .ref (oA ω (2 + 8 * r2))), (3, .int a3)]) rfl (xb_X4_says_b106 C hlau hret hn hτ hr2 hK21 x6 x5 x4 _)
    · exact xb_X4_says_b66 C hlau hret hn hτ hr2 hK21 s0 x6 x5 x4 _
set_option maxHeartbeats 4000000 in
set_option maxRecDepth 100000 in
theorem xb_X4_says_b21 {l : Launch} {κ : Kx} {ω : Om} {τ : Nat} {a1 : Int32} {r2 : Nat} {a3 : Int32} (C : CX κ ω cX4_says 8 3 yX4_says.cls) (hlau : κ.2.1 = l) (hret : κ.2.2.2.2.2.2.2.2.1.sig.returnType = (some .int)) (hn : 56 ≤ oN ω) (hτ : τ < 6) (hr2 : r2 < 3) : ∀ (n : Nat) (x5 : Int32) (x4 : Int32) (I : Mem), EE κ ω 8 (Gi κ ω) (f_X4_says_b21 τ a1 r2 a3 n x5 x4 I) I 21 [(5, .int x5), (4, .int x4), (0, .ref (oA ω (30 + 3 * τ))), (1, .int a1), (2, .ref (oA ω (2 + 8 * r2))), (3, .int a3)] [] := by
  intro n
  induction n with
  | zero => intro x5 x4 I; exact e_none
  | succ n ih =>
    intro x5 x4 I
    rw [f_X4_says_b21]
    refine e_iload C dX4_says_21 0 rfl (q := 23) rfl ?_
    refine e_aload_n C dX4_says_23 rfl 2 rfl (q := 24) rfl ?_
    refine e_getf C (k := (30 + 3 * τ)) (j := 2) (T := TX4) (N := 4) (v := .ref (oA ω (30 + 3 * τ + 2))) dX4_says_24 (ltTx hn hτ) (cOb_Tx (τ := τ) hτ _) rfl (by decide) in_X4 w_175 rfl (q := 27) rfl ?_
    refine e_iload_n C dX4_says_27 rfl 3 rfl (q := 28) rfl ?_
    refine e_iald C (k := (30 + 3 * τ + 2)) (n := 3) dX4_says_28 (ltTxj hn hτ 2 (by decide)) ((cAr_Tx2 hτ) _) (q := 29) rfl ?_
    refine e_icmpge C (tgt := 226) (q := 32) dX4_says_29 rfl rfl ?_ ?_
    · refine e_iload_n C dX4_says_226 rfl 3 rfl (q := 227) rfl ?_
      refine e_iconst C dX4_says_227 ic_2 (q := 228) rfl ?_
      refine e_icmpne C (tgt := 236) (q := 231) dX4_says_228 rfl rfl ?_ ?_
      · refine e_iconst C dX4_says_236 ic_0 (q := 237) rfl ?_
        exact e_lv [2] (lv1 := [(0, .ref (oA ω (30 + 3 * τ)))]) rfl (xb_X4_says_b237 C hlau hret hn hτ hr2 (0 : Int32) _)
      · refine e_bipush C dX4_says_231 b8_m99 (q := 233) rfl ?_
        refine e_goto C (tgt := 237) dX4_says_233 rfl ?_
        exact e_lv [2] (lv1 := [(0, .ref (oA ω (30 + 3 * τ)))]) rfl (xb_X4_says_b237 C hlau hret hn hτ hr2 (-99 : Int32) _)
    · refine e_aload_n C dX4_says_32 rfl 2 rfl (q := 33) rfl ?_
      refine e_getf C (k := (30 + 3 * τ)) (j := 1) (T := TX4) (N := 4) (v := .ref (oA ω (30 + 3 * τ + 1))) dX4_says_33 (ltTx hn hτ) (cOb_Tx (τ := τ) hτ _) rfl (by decide) in_X4 w_174 rfl (q := 36) rfl ?_
      refine e_iload C dX4_says_36 0 rfl (q := 38) rfl ?_
      refine e_iald C (k := (30 + 3 * τ + 1)) (n := 160) dX4_says_38 (ltTxj hn hτ 1 (by decide)) ((cAr_Tx1 hτ) _) (q := 39) rfl ?_
      refine e_nmi (fun v1 => ?_)
      refine e_istore C (lv1 := [(6, .int v1), (5, .int x5), (4, .int x4), (0, .ref (oA ω (30 + 3 * τ))), (1, .int a1), (2, .ref (oA ω (2 + 8 * r2))), (3, .int a3)]) dX4_says_39 (Nat.le_of_ble_eq_true rfl) rfl (q := 41) rfl ?_
      refine e_iload C dX4_says_41 0 rfl (q := 43) rfl ?_
      refine e_iflt C (tgt := 50) (q := 46) dX4_says_43 rfl rfl ?_ ?_
      · refine e_iconst C dX4_says_50 ic_0 (q := 51) rfl ?_
        exact xb_X4_says_b51 C hlau hret hn hτ hr2 ih v1 x5 x4 (0 : Int32) _
      · refine e_iconst C dX4_says_46 ic_1 (q := 47) rfl ?_
        refine e_goto C (tgt := 51) dX4_says_47 rfl ?_
        exact xb_X4_says_b51 C hlau hret hn hτ hr2 ih v1 x5 x4 (1 : Int32) _
set_option maxHeartbeats 4000000 in
set_option maxRecDepth 100000 in
theorem xb_X4_says_b19 {l : Launch} {κ : Kx} {ω : Om} {τ : Nat} {a1 : Int32} {r2 : Nat} {a3 : Int32} (C : CX κ ω cX4_says 8 3 yX4_says.cls) (hlau : κ.2.1 = l) (hret : κ.2.2.2.2.2.2.2.2.1.sig.returnType = (some .int)) (hn : 56 ≤ oN ω) (hτ : τ < 6) (hr2 : r2 < 3) : ∀ (x4 : Int32) (s0 : Int32) (I : Mem), EE κ ω 8 (Gi κ ω) (f_X4_says_b19 τ a1 r2 a3 x4 s0 I) I 19 [(4, .int x4), (0, .ref (oA ω (30 + 3 * τ))), (1, .int a1), (2, .ref (oA ω (2 + 8 * r2))), (3, .int a3)] [.int s0] := by
  intro x4 s0 I
  unfold f_X4_says_b19
  refine e_istore C (lv1 := [(5, .int s0), (4, .int x4), (0, .ref (oA ω (30 + 3 * τ))), (1, .int a1), (2, .ref (oA ω (2 + 8 * r2))), (3, .int a3)]) dX4_says_19 (Nat.le_of_ble_eq_true rfl) rfl (q := 21) rfl ?_
  exact xb_X4_says_b21 C hlau hret hn hτ hr2 FU s0 x4 _
set_option maxHeartbeats 4000000 in
set_option maxRecDepth 100000 in
theorem x_X4_says {l : Launch} {ω : Om} {τ : Nat} {a1 : Int32} {r2 : Nat} {a3 : Int32} (hn : 56 ≤ oN ω) (hτ : τ < 6) (hr2 : r2 < 3) {I : Mem} : CTi l ω yX4_says cX4_says 8 (some .int) 3 [.ref (oA ω (30 + 3 * τ)), .int a1, .ref (oA ω (2 + 8 * r2)), .int a3] (f_X4_says τ a1 r2 a3 I) I := by
  refine ct_i (by decide) (Nat.le_of_ble_eq_true rfl) ?_
  intro κ hlau hret C
  refine e_lv [0, 1, 2, 3] (lv1 := [(0, .ref (oA ω (30 + 3 * τ))), (1, .int a1), (2, .ref (oA ω (2 + 8 * r2))), (3, .int a3)]) rfl ?_
  unfold f_X4_says
  refine e_iconst C dX4_says_0 ic_0 (q := 1) rfl ?_
  refine e_istore C (lv1 := [(4, .int (0 : Int32)), (0, .ref (oA ω (30 + 3 * τ))), (1, .int a1), (2, .ref (oA ω (2 + 8 * r2))), (3, .int a3)]) dX4_says_1 (Nat.le_of_ble_eq_true rfl) rfl (q := 3) rfl ?_
  refine e_iload_n C dX4_says_3 rfl 2 rfl (q := 4) rfl ?_
  refine e_ifne C (tgt := 11) (q := 7) dX4_says_4 rfl rfl ?_ ?_
  · refine e_aload_n C dX4_says_11 rfl 1 rfl (q := 12) rfl ?_
    refine e_getf C (k := (30 + 3 * τ)) (j := 2) (T := TX4) (N := 4) (v := .ref (oA ω (30 + 3 * τ + 2))) dX4_says_12 (ltTx hn hτ) (cOb_Tx (τ := τ) hτ _) rfl (by decide) in_X4 w_175 rfl (q := 15) rfl ?_
    refine e_iload_n C dX4_says_15 rfl 2 rfl (q := 16) rfl ?_
    refine e_iconst C dX4_says_16 ic_1 (q := 17) rfl ?_
    refine e_isub C dX4_says_17 (q := 18) rfl ?_
    refine e_iald C (k := (30 + 3 * τ + 2)) (n := 3) dX4_says_18 (ltTxj hn hτ 2 (by decide)) ((cAr_Tx2 hτ) _) (q := 19) rfl ?_
    exact xb_X4_says_b19 C hlau hret hn hτ hr2 (0 : Int32) (I (30 + 3 * τ + 2) (a1 - (1 : Int32)).toNatClampNeg) _
  · refine e_iconst C dX4_says_7 ic_0 (q := 8) rfl ?_
    refine e_goto C (tgt := 19) dX4_says_8 rfl ?_
    exact xb_X4_says_b19 C hlau hret hn hτ hr2 (0 : Int32) (0 : Int32) _
set_option maxHeartbeats 4000000 in
set_option maxRecDepth 100000 in
theorem xb_X2_goes_b39 {l : Launch} {κ : Kx} {ω : Om} {ρ : Nat} {a1 : Int32} (C : CX κ ω cX2_goes 2 4 yX2_goes.cls) (hlau : κ.2.1 = l) (hret : κ.2.2.2.2.2.2.2.2.1.sig.returnType = (some .boolean)) (hn : 56 ≤ oN ω) (hρ : ρ < 3) : ∀ (s0 : Int32) (s1 : Int32) (s2 : Int32) (s3 : Int32) (I : Mem), EE κ ω 2 (Gi κ ω) (f_X2_goes_b39 ρ a1 s0 s1 s2 s3 I) I 39 [] [.int s0, .int s1, .int s2, .int s3] := by
  intro s0 s1 s2 s3 I
  unfold f_X2_goes_b39
  refine e_callSi C (l := l) (av := [.int s3, .int s2, .int s1, .int s0]) (st := []) hlau (x_X0_goes (l := l) (ω := ω) (a0 := s3) (a1 := s2) (a2 := s1) (a3 := s0) hn (I := I)) dX2_goes_39 w_453 w_454 w_68 w_455 md_X0_goes (by decide) (by decide) rfl (Nat.le_of_ble_eq_true rfl) (q := 42) rfl (fun v6 J5 => ?_)
  exact e_ireturn_t C dX2_goes_42 hret rfl rfl
set_option maxHeartbeats 4000000 in
set_option maxRecDepth 100000 in
theorem x_X2_goes {l : Launch} {ω : Om} {ρ : Nat} {a1 : Int32} (hn : 56 ≤ oN ω) (hρ : ρ < 3) {I : Mem} : CTi l ω yX2_goes cX2_goes 2 (some .boolean) 4 [.ref (oA ω (2 + 8 * ρ)), .int a1] (f_X2_goes ρ a1 I) I := by
  refine ct_i (by decide) (Nat.le_of_ble_eq_true rfl) ?_
  intro κ hlau hret C
  refine e_lv [0, 1] (lv1 := [(0, .ref (oA ω (2 + 8 * ρ))), (1, .int a1)]) rfl ?_
  unfold f_X2_goes
  refine e_aload_n C dX2_goes_0 rfl 0 rfl (q := 1) rfl ?_
  refine e_getf C (k := (2 + 8 * ρ)) (j := 1) (T := TX2) (N := 11) (v := .ref (oA ω (2 + 8 * ρ + 1))) dX2_goes_1 (ltRg hn hρ) (cOb_Rg (ρ := ρ) hρ _) rfl (by decide) in_X2 w_89 rfl (q := 4) rfl ?_
  refine e_iload_n C dX2_goes_4 rfl 1 rfl (q := 5) rfl ?_
  refine e_iald C (k := (2 + 8 * ρ + 1)) (n := 6) dX2_goes_5 (ltRgj hn hρ 1 (by decide)) ((cAr_Rg hρ 1 (by decide)) _) (q := 6) rfl ?_
  refine e_aload_n C dX2_goes_6 rfl 0 rfl (q := 7) rfl ?_
  refine e_getf C (k := (2 + 8 * ρ)) (j := 2) (T := TX2) (N := 11) (v := .ref (oA ω (2 + 8 * ρ + 2))) dX2_goes_7 (ltRg hn hρ) (cOb_Rg (ρ := ρ) hρ _) rfl (by decide) in_X2 w_91 rfl (q := 10) rfl ?_
  refine e_iload_n C dX2_goes_10 rfl 1 rfl (q := 11) rfl ?_
  refine e_iald C (k := (2 + 8 * ρ + 2)) (n := 6) dX2_goes_11 (ltRgj hn hρ 2 (by decide)) ((cAr_Rg hρ 2 (by decide)) _) (q := 12) rfl ?_
  refine e_aload_n C dX2_goes_12 rfl 0 rfl (q := 13) rfl ?_
  refine e_getf C (k := (2 + 8 * ρ)) (j := 9) (T := TX2) (N := 11) (v := .int (I (2 + 8 * ρ) 9)) dX2_goes_13 (ltRg hn hρ) (cOb_Rg (ρ := ρ) hρ _) rfl (by decide) in_X2 w_110 rfl (q := 16) rfl ?_
  refine e_aload_n C dX2_goes_16 rfl 0 rfl (q := 17) rfl ?_
  refine e_getf C (k := (2 + 8 * ρ)) (j := 0) (T := TX2) (N := 11) (v := .ref (oA ω 1)) dX2_goes_17 (ltRg hn hρ) (cOb_Rg (ρ := ρ) hρ _) rfl (by decide) in_X2 w_88 rfl (q := 20) rfl ?_
  refine e_aload_n C dX2_goes_20 rfl 0 rfl (q := 21) rfl ?_
  refine e_getf C (k := (2 + 8 * ρ)) (j := 10) (T := TX2) (N := 11) (v := .int (I (2 + 8 * ρ) 10)) dX2_goes_21 (ltRg hn hρ) (cOb_Rg (ρ := ρ) hρ _) rfl (by decide) in_X2 w_113 rfl (q := 24) rfl ?_
  refine e_nmi (fun v1 => ?_)
  refine e_aldT1 C hn dX2_goes_24 (q := 25) rfl (fun h2 => ?_)
  refine e_iconst C dX2_goes_25 ic_0 (q := 26) rfl ?_
  refine e_aload_n C dX2_goes_26 rfl 0 rfl (q := 27) rfl ?_
  refine e_iload_n C dX2_goes_27 rfl 1 rfl (q := 28) rfl ?_
  refine e_callVi C (l := l) (k := (30 + 3 * v1.toNatClampNeg)) (av := [.int (0 : Int32), .ref (oA ω (2 + 8 * ρ)), .int a1]) (st := [.int (I (2 + 8 * ρ) 9), .int (I (2 + 8 * ρ + 2) (a1).toNatClampNeg), .int (I (2 + 8 * ρ + 1) (a1).toNatClampNeg)]) hlau (x_X4_says (l := l) (ω := ω) (τ := v1.toNatClampNeg) (a1 := (0 : Int32)) (r2 := ρ) (a3 := a1) hn h2 hρ (I := I)) dX2_goes_28 w_452 w_413 w_414 w_59 w_415 md_X4_says (by decide) (by decide) rfl (ltTx hn h2) (cOb_Tx (τ := v1.toNatClampNeg) h2 _) rfl (Nat.le_of_ble_eq_true rfl) (q := 31) rfl (fun v4 J3 => ?_)
  refine e_ifeq C (tgt := 38) (q := 34) dX2_goes_31 rfl rfl ?_ ?_
  · refine e_iconst C dX2_goes_38 ic_0 (q := 39) rfl ?_
    exact e_lv [] (lv1 := []) rfl (xb_X2_goes_b39 C hlau hret hn hρ (0 : Int32) (I (2 + 8 * ρ) 9) (I (2 + 8 * ρ + 2) (a1).toNatClampNeg) (I (2 + 8 * ρ + 1) (a1).toNatClampNeg) _)
  · refine e_iconst C dX2_goes_34 ic_1 (q := 35) rfl ?_
    refine e_goto C (tgt := 39) dX2_goes_35 rfl ?_
    exact e_lv [] (lv1 := []) rfl (xb_X2_goes_b39 C hlau hret hn hρ (1 : Int32) (I (2 + 8 * ρ) 9) (I (2 + 8 * ρ + 2) (a1).toNatClampNeg) (I (2 + 8 * ρ + 1) (a1).toNatClampNeg) _)
set_option maxHeartbeats 4000000 in
set_option maxRecDepth 100000 in
theorem x_X2_hits {l : Launch} {ω : Om} {ρ : Nat} {a1 : Int32} {a2 : Int32} (hn : 56 ≤ oN ω) (hρ : ρ < 3) {I : Mem} : CTi l ω yX2_hits cX2_hits 3 (some .int) 4 [.ref (oA ω (2 + 8 * ρ)), .int a1, .int a2] (f_X2_hits ρ a1 a2 I) I := by
  refine ct_i (by decide) (Nat.le_of_ble_eq_true rfl) ?_
  intro κ hlau hret C
  refine e_lv [0, 1, 2] (lv1 := [(0, .ref (oA ω (2 + 8 * ρ))), (1, .int a1), (2, .int a2)]) rfl ?_
  unfold f_X2_hits
  refine e_aload_n C dX2_hits_0 rfl 0 rfl (q := 1) rfl ?_
  refine e_getf C (k := (2 + 8 * ρ)) (j := 1) (T := TX2) (N := 11) (v := .ref (oA ω (2 + 8 * ρ + 1))) dX2_hits_1 (ltRg hn hρ) (cOb_Rg (ρ := ρ) hρ _) rfl (by decide) in_X2 w_89 rfl (q := 4) rfl ?_
  refine e_iload_n C dX2_hits_4 rfl 1 rfl (q := 5) rfl ?_
  refine e_iald C (k := (2 + 8 * ρ + 1)) (n := 6) dX2_hits_5 (ltRgj hn hρ 1 (by decide)) ((cAr_Rg hρ 1 (by decide)) _) (q := 6) rfl ?_
  refine e_aload_n C dX2_hits_6 rfl 0 rfl (q := 7) rfl ?_
  refine e_getf C (k := (2 + 8 * ρ)) (j := 2) (T := TX2) (N := 11) (v := .ref (oA ω (2 + 8 * ρ + 2))) dX2_hits_7 (ltRg hn hρ) (cOb_Rg (ρ := ρ) hρ _) rfl (by decide) in_X2 w_91 rfl (q := 10) rfl ?_
  refine e_iload_n C dX2_hits_10 rfl 1 rfl (q := 11) rfl ?_
  refine e_iald C (k := (2 + 8 * ρ + 2)) (n := 6) dX2_hits_11 (ltRgj hn hρ 2 (by decide)) ((cAr_Rg hρ 2 (by decide)) _) (q := 12) rfl ?_
  refine e_aload_n C dX2_hits_12 rfl 0 rfl (q := 13) rfl ?_
  refine e_getf C (k := (2 + 8 * ρ)) (j := 1) (T := TX2) (N := 11) (v := .ref (oA ω (2 + 8 * ρ + 1))) dX2_hits_13 (ltRg hn hρ) (cOb_Rg (ρ := ρ) hρ _) rfl (by decide) in_X2 w_89 rfl (q := 16) rfl ?_
  refine e_iload_n C dX2_hits_16 rfl 2 rfl (q := 17) rfl ?_
  refine e_iald C (k := (2 + 8 * ρ + 1)) (n := 6) dX2_hits_17 (ltRgj hn hρ 1 (by decide)) ((cAr_Rg hρ 1 (by decide)) _) (q := 18) rfl ?_
  refine e_aload_n C dX2_hits_18 rfl 0 rfl (q := 19) rfl ?_
  refine e_getf C (k := (2 + 8 * ρ)) (j := 9) (T := TX2) (N := 11) (v := .int (I (2 + 8 * ρ) 9)) dX2_hits_19 (ltRg hn hρ) (cOb_Rg (ρ := ρ) hρ _) rfl (by decide) in_X2 w_110 rfl (q := 22) rfl ?_
  refine e_aload_n C dX2_hits_22 rfl 0 rfl (q := 23) rfl ?_
  refine e_getf C (k := (2 + 8 * ρ)) (j := 0) (T := TX2) (N := 11) (v := .ref (oA ω 1)) dX2_hits_23 (ltRg hn hρ) (cOb_Rg (ρ := ρ) hρ _) rfl (by decide) in_X2 w_88 rfl (q := 26) rfl ?_
  refine e_aload_n C dX2_hits_26 rfl 0 rfl (q := 27) rfl ?_
  refine e_getf C (k := (2 + 8 * ρ)) (j := 10) (T := TX2) (N := 11) (v := .int (I (2 + 8 * ρ) 10)) dX2_hits_27 (ltRg hn hρ) (cOb_Rg (ρ := ρ) hρ _) rfl (by decide) in_X2 w_113 rfl (q := 30) rfl ?_
  refine e_nmi (fun v1 => ?_)
  refine e_aldT1 C hn dX2_hits_30 (q := 31) rfl (fun h2 => ?_)
  refine e_iconst C dX2_hits_31 ic_1 (q := 32) rfl ?_
  refine e_aload_n C dX2_hits_32 rfl 0 rfl (q := 33) rfl ?_
  refine e_iload_n C dX2_hits_33 rfl 1 rfl (q := 34) rfl ?_
  refine e_callVi C (l := l) (k := (30 + 3 * v1.toNatClampNeg)) (av := [.int (1 : Int32), .ref (oA ω (2 + 8 * ρ)), .int a1]) (st := [.int (I (2 + 8 * ρ) 9), .int (I (2 + 8 * ρ + 1) (a2).toNatClampNeg), .int (I (2 + 8 * ρ + 2) (a1).toNatClampNeg), .int (I (2 + 8 * ρ + 1) (a1).toNatClampNeg)]) hlau (x_X4_says (l := l) (ω := ω) (τ := v1.toNatClampNeg) (a1 := (1 : Int32)) (r2 := ρ) (a3 := a1) hn h2 hρ (I := I)) dX2_hits_34 w_452 w_413 w_414 w_59 w_415 md_X4_says (by decide) (by decide) rfl (ltTx hn h2) (cOb_Tx (τ := v1.toNatClampNeg) h2 _) rfl (Nat.le_of_ble_eq_true rfl) (q := 37) rfl (fun v4 J3 => ?_)
  refine e_callSi C (l := l) (av := [.int (I (2 + 8 * ρ + 1) (a1).toNatClampNeg), .int (I (2 + 8 * ρ + 2) (a1).toNatClampNeg), .int (I (2 + 8 * ρ + 1) (a2).toNatClampNeg), .int (I (2 + 8 * ρ) 9), .int v4]) (st := []) hlau (x_X0_hits (l := l) (ω := ω) (a0 := I (2 + 8 * ρ + 1) (a1).toNatClampNeg) (a1 := I (2 + 8 * ρ + 2) (a1).toNatClampNeg) (a2 := I (2 + 8 * ρ + 1) (a2).toNatClampNeg) (a3 := I (2 + 8 * ρ) 9) (a4 := v4) hn (I := J3)) dX2_hits_37 w_482 w_483 w_68 w_484 md_X0_hits (by decide) (by decide) rfl (Nat.le_of_ble_eq_true rfl) (q := 40) rfl (fun v6 J5 => ?_)
  exact e_ireturn C dX2_hits_40 hret rfl
set_option maxHeartbeats 4000000 in
set_option maxRecDepth 100000 in
theorem x_X2_soft {l : Launch} {ω : Om} {ρ : Nat} {a1 : Int32} (hn : 56 ≤ oN ω) (hρ : ρ < 3) {I : Mem} : CTi l ω yX2_soft cX2_soft 2 (some .int) 4 [.ref (oA ω (2 + 8 * ρ)), .int a1] (f_X2_soft ρ a1 I) I := by
  refine ct_i (by decide) (Nat.le_of_ble_eq_true rfl) ?_
  intro κ hlau hret C
  refine e_lv [0, 1] (lv1 := [(0, .ref (oA ω (2 + 8 * ρ))), (1, .int a1)]) rfl ?_
  unfold f_X2_soft
  refine e_aload_n C dX2_soft_0 rfl 0 rfl (q := 1) rfl ?_
  refine e_getf C (k := (2 + 8 * ρ)) (j := 1) (T := TX2) (N := 11) (v := .ref (oA ω (2 + 8 * ρ + 1))) dX2_soft_1 (ltRg hn hρ) (cOb_Rg (ρ := ρ) hρ _) rfl (by decide) in_X2 w_89 rfl (q := 4) rfl ?_
  refine e_iload_n C dX2_soft_4 rfl 1 rfl (q := 5) rfl ?_
  refine e_iald C (k := (2 + 8 * ρ + 1)) (n := 6) dX2_soft_5 (ltRgj hn hρ 1 (by decide)) ((cAr_Rg hρ 1 (by decide)) _) (q := 6) rfl ?_
  refine e_aload_n C dX2_soft_6 rfl 0 rfl (q := 7) rfl ?_
  refine e_getf C (k := (2 + 8 * ρ)) (j := 2) (T := TX2) (N := 11) (v := .ref (oA ω (2 + 8 * ρ + 2))) dX2_soft_7 (ltRg hn hρ) (cOb_Rg (ρ := ρ) hρ _) rfl (by decide) in_X2 w_91 rfl (q := 10) rfl ?_
  refine e_iload_n C dX2_soft_10 rfl 1 rfl (q := 11) rfl ?_
  refine e_iald C (k := (2 + 8 * ρ + 2)) (n := 6) dX2_soft_11 (ltRgj hn hρ 2 (by decide)) ((cAr_Rg hρ 2 (by decide)) _) (q := 12) rfl ?_
  refine e_aload_n C dX2_soft_12 rfl 0 rfl (q := 13) rfl ?_
  refine e_getf C (k := (2 + 8 * ρ)) (j := 0) (T := TX2) (N := 11) (v := .ref (oA ω 1)) dX2_soft_13 (ltRg hn hρ) (cOb_Rg (ρ := ρ) hρ _) rfl (by decide) in_X2 w_88 rfl (q := 16) rfl ?_
  refine e_aload_n C dX2_soft_16 rfl 0 rfl (q := 17) rfl ?_
  refine e_getf C (k := (2 + 8 * ρ)) (j := 10) (T := TX2) (N := 11) (v := .int (I (2 + 8 * ρ) 10)) dX2_soft_17 (ltRg hn hρ) (cOb_Rg (ρ := ρ) hρ _) rfl (by decide) in_X2 w_113 rfl (q := 20) rfl ?_
  refine e_nmi (fun v1 => ?_)
  refine e_aldT1 C hn dX2_soft_20 (q := 21) rfl (fun h2 => ?_)
  refine e_iconst C dX2_soft_21 ic_2 (q := 22) rfl ?_
  refine e_aload_n C dX2_soft_22 rfl 0 rfl (q := 23) rfl ?_
  refine e_iload_n C dX2_soft_23 rfl 1 rfl (q := 24) rfl ?_
  refine e_callVi C (l := l) (k := (30 + 3 * v1.toNatClampNeg)) (av := [.int (2 : Int32), .ref (oA ω (2 + 8 * ρ)), .int a1]) (st := [.int (I (2 + 8 * ρ + 2) (a1).toNatClampNeg), .int (I (2 + 8 * ρ + 1) (a1).toNatClampNeg)]) hlau (x_X4_says (l := l) (ω := ω) (τ := v1.toNatClampNeg) (a1 := (2 : Int32)) (r2 := ρ) (a3 := a1) hn h2 hρ (I := I)) dX2_soft_24 w_452 w_413 w_414 w_59 w_415 md_X4_says (by decide) (by decide) rfl (ltTx hn h2) (cOb_Tx (τ := v1.toNatClampNeg) h2 _) rfl (Nat.le_of_ble_eq_true rfl) (q := 27) rfl (fun v4 J3 => ?_)
  refine e_callSi C (l := l) (av := [.int (I (2 + 8 * ρ + 1) (a1).toNatClampNeg), .int (I (2 + 8 * ρ + 2) (a1).toNatClampNeg), .int v4]) (st := []) hlau (x_X0_soft (l := l) (ω := ω) (a0 := I (2 + 8 * ρ + 1) (a1).toNatClampNeg) (a1 := I (2 + 8 * ρ + 2) (a1).toNatClampNeg) (a2 := v4) hn (I := J3)) dX2_soft_27 w_471 w_472 w_68 w_473 md_X0_soft (by decide) (by decide) rfl (Nat.le_of_ble_eq_true rfl) (q := 30) rfl (fun v6 J5 => ?_)
  exact e_ireturn C dX2_soft_30 hret rfl
set_option maxHeartbeats 4000000 in
set_option maxRecDepth 100000 in
theorem x_X2_blow {l : Launch} {ω : Om} {a0 : Int32} {a1 : Int32} (hn : 56 ≤ oN ω)  {I : Mem} : CTi l ω yX2_blow cX2_blow 2 (some .int) 1 [.int a0, .int a1] (f_X2_blow a0 a1 I) I := by
  refine ct_i (by decide) (Nat.le_of_ble_eq_true rfl) ?_
  intro κ hlau hret C
  refine e_lv [0, 1] (lv1 := [(0, .int a0), (1, .int a1)]) rfl ?_
  unfold f_X2_blow
  refine e_iconst C dX2_blow_0 ic_0 (q := 1) rfl ?_
  refine e_bipush C dX2_blow_1 b8_99 (q := 3) rfl ?_
  refine e_iload_n C dX2_blow_3 rfl 0 rfl (q := 4) rfl ?_
  refine e_iload_n C dX2_blow_4 rfl 1 rfl (q := 5) rfl ?_
  refine e_isub C dX2_blow_5 (q := 6) rfl ?_
  refine e_mmin C dX2_blow_6 w_488 w_258 w_65 w_259 (Nat.le_of_ble_eq_true rfl) (Nat.le_of_ble_eq_true rfl) (q := 9) rfl ?_
  refine e_mmax C dX2_blow_9 w_489 w_426 w_65 w_427 (Nat.le_of_ble_eq_true rfl) (Nat.le_of_ble_eq_true rfl) (q := 12) rfl ?_
  exact e_ireturn C dX2_blow_12 hret rfl
set_option maxHeartbeats 4000000 in
set_option maxRecDepth 100000 in
theorem xb_X2_step_b85 {l : Launch} {κ : Kx} {ω : Om} {ρ : Nat} {a1 : Int32} {a2 : Int32} (C : CX κ ω cX2_step 5 1 yX2_step.cls) (hlau : κ.2.1 = l) (hret : κ.2.2.2.2.2.2.2.2.1.sig.returnType = none) (hn : 56 ≤ oN ω) (hρ : ρ < 3) : ∀ (s0 : Int32) (s1 : Int32) (s2 : Int32) (I : Mem), EE κ ω 5 (Gv κ ω) (f_X2_step_b85 ρ a1 a2 s0 s1 s2 I) I 85 [] [.int s0, .int s1, .int s2, .ref (oA ω (2 + 8 * ρ + 3))] := by
  intro s0 s1 s2 I
  unfold f_X2_step_b85
  refine e_iadd C dX2_step_85 (q := 86) rfl ?_
  refine e_iast C (k := (2 + 8 * ρ + 3)) (n := 6) dX2_step_86 (ltRgj hn hρ 3 (by decide)) (cAr_Rg hρ 3 (by decide)) (q := 87) rfl ?_
  refine e_nmM (fun J3 => ?_)
  exact e_vreturn C dX2_step_87 hret
set_option maxHeartbeats 4000000 in
set_option maxRecDepth 100000 in
theorem xb_X2_step_b63 {l : Launch} {κ : Kx} {ω : Om} {ρ : Nat} {a1 : Int32} {a2 : Int32} (C : CX κ ω cX2_step 5 1 yX2_step.cls) (hlau : κ.2.1 = l) (hret : κ.2.2.2.2.2.2.2.2.1.sig.returnType = none) (hn : 56 ≤ oN ω) (hρ : ρ < 3) : ∀ (s0 : Int32) (s1 : Int32) (s2 : Int32) (I : Mem), EE κ ω 5 (Gv κ ω) (f_X2_step_b63 ρ a1 a2 s0 s1 s2 I) I 63 [] [.int s0, .int s1, .int s2, .ref (oA ω (2 + 8 * ρ + 3))] := by
  intro s0 s1 s2 I
  unfold f_X2_step_b63
  refine e_iadd C dX2_step_63 (q := 64) rfl ?_
  refine e_iast C (k := (2 + 8 * ρ + 3)) (n := 6) dX2_step_64 (ltRgj hn hρ 3 (by decide)) (cAr_Rg hρ 3 (by decide)) (q := 65) rfl ?_
  refine e_nmM (fun J4 => ?_)
  refine e_goto C (tgt := 87) dX2_step_65 rfl ?_
  exact e_vreturn C dX2_step_87 hret
set_option maxHeartbeats 4000000 in
set_option maxRecDepth 100000 in
theorem x_X2_step {l : Launch} {ω : Om} {ρ : Nat} {a1 : Int32} {a2 : Int32} (hn : 56 ≤ oN ω) (hρ : ρ < 3) {I : Mem} : CTv l ω yX2_step cX2_step 5 none 1 [.ref (oA ω (2 + 8 * ρ)), .int a1, .int a2] (f_X2_step ρ a1 a2 I) I := by
  refine ct_v (by decide) (Nat.le_of_ble_eq_true rfl) ?_
  intro κ hlau hret C
  refine e_lv [0, 1, 2] (lv1 := [(0, .ref (oA ω (2 + 8 * ρ))), (1, .int a1), (2, .int a2)]) rfl ?_
  unfold f_X2_step
  refine e_aload_n C dX2_step_0 rfl 0 rfl (q := 1) rfl ?_
  refine e_getf C (k := (2 + 8 * ρ)) (j := 3) (T := TX2) (N := 11) (v := .ref (oA ω (2 + 8 * ρ + 3))) dX2_step_1 (ltRg hn hρ) (cOb_Rg (ρ := ρ) hρ _) rfl (by decide) in_X2 w_94 rfl (q := 4) rfl ?_
  refine e_iload_n C dX2_step_4 rfl 2 rfl (q := 5) rfl ?_
  refine e_iald C (k := (2 + 8 * ρ + 3)) (n := 6) dX2_step_5 (ltRgj hn hρ 3 (by decide)) ((cAr_Rg hρ 3 (by decide)) _) (q := 6) rfl ?_
  refine e_bipush C dX2_step_6 b8_8 (q := 8) rfl ?_
  refine e_idiv C dX2_step_8 (by decide) (q := 9) rfl ?_
  refine e_aload_n C dX2_step_9 rfl 0 rfl (q := 10) rfl ?_
  refine e_getf C (k := (2 + 8 * ρ)) (j := 3) (T := TX2) (N := 11) (v := .ref (oA ω (2 + 8 * ρ + 3))) dX2_step_10 (ltRg hn hρ) (cOb_Rg (ρ := ρ) hρ _) rfl (by decide) in_X2 w_94 rfl (q := 13) rfl ?_
  refine e_iload_n C dX2_step_13 rfl 1 rfl (q := 14) rfl ?_
  refine e_iald C (k := (2 + 8 * ρ + 3)) (n := 6) dX2_step_14 (ltRgj hn hρ 3 (by decide)) ((cAr_Rg hρ 3 (by decide)) _) (q := 15) rfl ?_
  refine e_bipush C dX2_step_15 b8_8 (q := 17) rfl ?_
  refine e_idiv C dX2_step_17 (by decide) (q := 18) rfl ?_
  refine e_isub C dX2_step_18 (q := 19) rfl ?_
  refine e_nmi (fun v1 => ?_)
  refine e_istore_n C (lv1 := [(3, .int v1), (0, .ref (oA ω (2 + 8 * ρ))), (1, .int a1), (2, .int a2)]) dX2_step_19 rfl (Nat.le_of_ble_eq_true rfl) rfl (q := 20) rfl ?_
  refine e_aload_n C dX2_step_20 rfl 1 rfl (q := 21) rfl ?_
  refine e_getf C (k := (2 + 8 * ρ)) (j := 3) (T := TX2) (N := 11) (v := .ref (oA ω (2 + 8 * ρ + 3))) dX2_step_21 (ltRg hn hρ) (cOb_Rg (ρ := ρ) hρ _) rfl (by decide) in_X2 w_94 rfl (q := 24) rfl ?_
  refine e_iload_n C dX2_step_24 rfl 3 rfl (q := 25) rfl ?_
  refine e_iald C (k := (2 + 8 * ρ + 3)) (n := 6) dX2_step_25 (ltRgj hn hρ 3 (by decide)) ((cAr_Rg hρ 3 (by decide)) _) (q := 26) rfl ?_
  refine e_bipush C dX2_step_26 b8_8 (q := 28) rfl ?_
  refine e_irem C dX2_step_28 (by decide) (q := 29) rfl ?_
  refine e_aload_n C dX2_step_29 rfl 1 rfl (q := 30) rfl ?_
  refine e_getf C (k := (2 + 8 * ρ)) (j := 3) (T := TX2) (N := 11) (v := .ref (oA ω (2 + 8 * ρ + 3))) dX2_step_30 (ltRg hn hρ) (cOb_Rg (ρ := ρ) hρ _) rfl (by decide) in_X2 w_94 rfl (q := 33) rfl ?_
  refine e_iload_n C dX2_step_33 rfl 2 rfl (q := 34) rfl ?_
  refine e_iald C (k := (2 + 8 * ρ + 3)) (n := 6) dX2_step_34 (ltRgj hn hρ 3 (by decide)) ((cAr_Rg hρ 3 (by decide)) _) (q := 35) rfl ?_
  refine e_bipush C dX2_step_35 b8_8 (q := 37) rfl ?_
  refine e_irem C dX2_step_37 (by decide) (q := 38) rfl ?_
  refine e_isub C dX2_step_38 (q := 39) rfl ?_
  refine e_nmi (fun v2 => ?_)
  refine e_istore C (lv1 := [(4, .int v2), (3, .int v1), (0, .ref (oA ω (2 + 8 * ρ))), (1, .int a1), (2, .int a2)]) dX2_step_39 (Nat.le_of_ble_eq_true rfl) rfl (q := 41) rfl ?_
  refine e_iload_n C dX2_step_41 rfl 1 rfl (q := 42) rfl ?_
  refine e_ifeq C (tgt := 68) (q := 45) dX2_step_42 rfl rfl ?_ ?_
  · refine e_aload_n C dX2_step_68 rfl 2 rfl (q := 69) rfl ?_
    refine e_getf C (k := (2 + 8 * ρ)) (j := 3) (T := TX2) (N := 11) (v := .ref (oA ω (2 + 8 * ρ + 3))) dX2_step_69 (ltRg hn hρ) (cOb_Rg (ρ := ρ) hρ _) rfl (by decide) in_X2 w_94 rfl (q := 72) rfl ?_
    refine e_iload_n C dX2_step_72 rfl 3 rfl (q := 73) rfl ?_
    refine e_dup2 C dX2_step_73 rfl rfl (q := 74) rfl ?_
    refine e_iald C (k := (2 + 8 * ρ + 3)) (n := 6) dX2_step_74 (ltRgj hn hρ 3 (by decide)) ((cAr_Rg hρ 3 (by decide)) _) (q := 75) rfl ?_
    refine e_iload C dX2_step_75 0 rfl (q := 77) rfl ?_
    refine e_ifle C (tgt := 84) (q := 80) dX2_step_77 rfl rfl ?_ ?_
    · refine e_iconst C dX2_step_84 ic_m1 (q := 85) rfl ?_
      exact e_lv [] (lv1 := []) rfl (xb_X2_step_b85 C hlau hret hn hρ (-1 : Int32) (I (2 + 8 * ρ + 3) (a1).toNatClampNeg) a1 _)
    · refine e_iconst C dX2_step_80 ic_1 (q := 81) rfl ?_
      refine e_goto C (tgt := 85) dX2_step_81 rfl ?_
      exact e_lv [] (lv1 := []) rfl (xb_X2_step_b85 C hlau hret hn hρ (1 : Int32) (I (2 + 8 * ρ + 3) (a1).toNatClampNeg) a1 _)
  · refine e_aload_n C dX2_step_45 rfl 2 rfl (q := 46) rfl ?_
    refine e_getf C (k := (2 + 8 * ρ)) (j := 3) (T := TX2) (N := 11) (v := .ref (oA ω (2 + 8 * ρ + 3))) dX2_step_46 (ltRg hn hρ) (cOb_Rg (ρ := ρ) hρ _) rfl (by decide) in_X2 w_94 rfl (q := 49) rfl ?_
    refine e_iload_n C dX2_step_49 rfl 3 rfl (q := 50) rfl ?_
    refine e_dup2 C dX2_step_50 rfl rfl (q := 51) rfl ?_
    refine e_iald C (k := (2 + 8 * ρ + 3)) (n := 6) dX2_step_51 (ltRgj hn hρ 3 (by decide)) ((cAr_Rg hρ 3 (by decide)) _) (q := 52) rfl ?_
    refine e_iload_n C dX2_step_52 rfl 1 rfl (q := 53) rfl ?_
    refine e_ifle C (tgt := 61) (q := 56) dX2_step_53 rfl rfl ?_ ?_
    · refine e_bipush C dX2_step_61 b8_m8 (q := 63) rfl ?_
      exact e_lv [] (lv1 := []) rfl (xb_X2_step_b63 C hlau hret hn hρ (-8 : Int32) (I (2 + 8 * ρ + 3) (a1).toNatClampNeg) a1 _)
    · refine e_bipush C dX2_step_56 b8_8 (q := 58) rfl ?_
      refine e_goto C (tgt := 63) dX2_step_58 rfl ?_
      exact e_lv [] (lv1 := []) rfl (xb_X2_step_b63 C hlau hret hn hρ (8 : Int32) (I (2 + 8 * ρ + 3) (a1).toNatClampNeg) a1 _)
set_option maxHeartbeats 4000000 in
set_option maxRecDepth 100000 in
theorem x_X2_land {l : Launch} {ω : Om} {ρ : Nat} {a1 : Int32} {a2 : Int32} {a3 : Int32} (hn : 56 ≤ oN ω) (hρ : ρ < 3) {I : Mem} : CTv l ω yX2_land cX2_land 4 none 1 [.ref (oA ω (2 + 8 * ρ)), .int a1, .int a2, .int a3] (f_X2_land ρ a1 a2 a3 I) I := by
  refine ct_v (by decide) (Nat.le_of_ble_eq_true rfl) ?_
  intro κ hlau hret C
  refine e_lv [0, 1, 2, 3] (lv1 := [(0, .ref (oA ω (2 + 8 * ρ))), (1, .int a1), (2, .int a2), (3, .int a3)]) rfl ?_
  unfold f_X2_land
  refine e_aload_n C dX2_land_0 rfl 0 rfl (q := 1) rfl ?_
  refine e_getf C (k := (2 + 8 * ρ)) (j := 4) (T := TX2) (N := 11) (v := .ref (oA ω (2 + 8 * ρ + 4))) dX2_land_1 (ltRg hn hρ) (cOb_Rg (ρ := ρ) hρ _) rfl (by decide) in_X2 w_96 rfl (q := 4) rfl ?_
  refine e_iload_n C dX2_land_4 rfl 2 rfl (q := 5) rfl ?_
  refine e_iconst C dX2_land_5 ic_0 (q := 6) rfl ?_
  refine e_aload_n C dX2_land_6 rfl 0 rfl (q := 7) rfl ?_
  refine e_getf C (k := (2 + 8 * ρ)) (j := 4) (T := TX2) (N := 11) (v := .ref (oA ω (2 + 8 * ρ + 4))) dX2_land_7 (ltRg hn hρ) (cOb_Rg (ρ := ρ) hρ _) rfl (by decide) in_X2 w_96 rfl (q := 10) rfl ?_
  refine e_iload_n C dX2_land_10 rfl 2 rfl (q := 11) rfl ?_
  refine e_iald C (k := (2 + 8 * ρ + 4)) (n := 6) dX2_land_11 (ltRgj hn hρ 4 (by decide)) ((cAr_Rg hρ 4 (by decide)) _) (q := 12) rfl ?_
  refine e_iload_n C dX2_land_12 rfl 3 rfl (q := 13) rfl ?_
  refine e_isub C dX2_land_13 (q := 14) rfl ?_
  refine e_mmax C dX2_land_14 w_489 w_426 w_65 w_427 (Nat.le_of_ble_eq_true rfl) (Nat.le_of_ble_eq_true rfl) (q := 17) rfl ?_
  refine e_iast C (k := (2 + 8 * ρ + 4)) (n := 6) dX2_land_17 (ltRgj hn hρ 4 (by decide)) (cAr_Rg hρ 4 (by decide)) (q := 18) rfl ?_
  refine e_nmM (fun J1 => ?_)
  refine e_aload_n C dX2_land_18 rfl 0 rfl (q := 19) rfl ?_
  refine e_getf C (k := (2 + 8 * ρ)) (j := 6) (T := TX2) (N := 11) (v := .ref (oA ω (2 + 8 * ρ + 6))) dX2_land_19 (ltRg hn hρ) (cOb_Rg (ρ := ρ) hρ _) rfl (by decide) in_X2 w_102 rfl (q := 22) rfl ?_
  refine e_iload_n C dX2_land_22 rfl 2 rfl (q := 23) rfl ?_
  refine e_bipush C dX2_land_23 b8_99 (q := 25) rfl ?_
  refine e_aload_n C dX2_land_25 rfl 0 rfl (q := 26) rfl ?_
  refine e_getf C (k := (2 + 8 * ρ)) (j := 6) (T := TX2) (N := 11) (v := .ref (oA ω (2 + 8 * ρ + 6))) dX2_land_26 (ltRg hn hρ) (cOb_Rg (ρ := ρ) hρ _) rfl (by decide) in_X2 w_102 rfl (q := 29) rfl ?_
  refine e_iload_n C dX2_land_29 rfl 2 rfl (q := 30) rfl ?_
  refine e_iald C (k := (2 + 8 * ρ + 6)) (n := 6) dX2_land_30 (ltRgj hn hρ 6 (by decide)) ((cAr_Rg hρ 6 (by decide)) _) (q := 31) rfl ?_
  refine e_iconst C dX2_land_31 ic_1 (q := 32) rfl ?_
  refine e_iadd C dX2_land_32 (q := 33) rfl ?_
  refine e_mmin C dX2_land_33 w_488 w_258 w_65 w_259 (Nat.le_of_ble_eq_true rfl) (Nat.le_of_ble_eq_true rfl) (q := 36) rfl ?_
  refine e_iast C (k := (2 + 8 * ρ + 6)) (n := 6) dX2_land_36 (ltRgj hn hρ 6 (by decide)) (cAr_Rg hρ 6 (by decide)) (q := 37) rfl ?_
  refine e_nmM (fun J2 => ?_)
  refine e_aload_n C dX2_land_37 rfl 0 rfl (q := 38) rfl ?_
  refine e_getf C (k := (2 + 8 * ρ)) (j := 7) (T := TX2) (N := 11) (v := .ref (oA ω (2 + 8 * ρ + 7))) dX2_land_38 (ltRg hn hρ) (cOb_Rg (ρ := ρ) hρ _) rfl (by decide) in_X2 w_105 rfl (q := 41) rfl ?_
  refine e_iload_n C dX2_land_41 rfl 1 rfl (q := 42) rfl ?_
  refine e_bipush C dX2_land_42 b8_6 (q := 44) rfl ?_
  refine e_imul C dX2_land_44 (q := 45) rfl ?_
  refine e_iload_n C dX2_land_45 rfl 2 rfl (q := 46) rfl ?_
  refine e_iadd C dX2_land_46 (q := 47) rfl ?_
  refine e_bipush C dX2_land_47 b8_99 (q := 49) rfl ?_
  refine e_aload_n C dX2_land_49 rfl 0 rfl (q := 50) rfl ?_
  refine e_getf C (k := (2 + 8 * ρ)) (j := 7) (T := TX2) (N := 11) (v := .ref (oA ω (2 + 8 * ρ + 7))) dX2_land_50 (ltRg hn hρ) (cOb_Rg (ρ := ρ) hρ _) rfl (by decide) in_X2 w_105 rfl (q := 53) rfl ?_
  refine e_iload_n C dX2_land_53 rfl 1 rfl (q := 54) rfl ?_
  refine e_bipush C dX2_land_54 b8_6 (q := 56) rfl ?_
  refine e_imul C dX2_land_56 (q := 57) rfl ?_
  refine e_iload_n C dX2_land_57 rfl 2 rfl (q := 58) rfl ?_
  refine e_iadd C dX2_land_58 (q := 59) rfl ?_
  refine e_iald C (k := (2 + 8 * ρ + 7)) (n := 36) dX2_land_59 (ltRgj hn hρ 7 (by decide)) ((cAr_Rg7 hρ) _) (q := 60) rfl ?_
  refine e_iconst C dX2_land_60 ic_1 (q := 61) rfl ?_
  refine e_iadd C dX2_land_61 (q := 62) rfl ?_
  refine e_mmin C dX2_land_62 w_488 w_258 w_65 w_259 (Nat.le_of_ble_eq_true rfl) (Nat.le_of_ble_eq_true rfl) (q := 65) rfl ?_
  refine e_iast C (k := (2 + 8 * ρ + 7)) (n := 36) dX2_land_65 (ltRgj hn hρ 7 (by decide)) (cAr_Rg7 hρ) (q := 66) rfl ?_
  refine e_nmM (fun J3 => ?_)
  refine e_aload_n C dX2_land_66 rfl 0 rfl (q := 67) rfl ?_
  refine e_getf C (k := (2 + 8 * ρ)) (j := 5) (T := TX2) (N := 11) (v := .ref (oA ω (2 + 8 * ρ + 5))) dX2_land_67 (ltRg hn hρ) (cOb_Rg (ρ := ρ) hρ _) rfl (by decide) in_X2 w_99 rfl (q := 70) rfl ?_
  refine e_iload_n C dX2_land_70 rfl 1 rfl (q := 71) rfl ?_
  refine e_bipush C dX2_land_71 b8_99 (q := 73) rfl ?_
  refine e_aload_n C dX2_land_73 rfl 0 rfl (q := 74) rfl ?_
  refine e_getf C (k := (2 + 8 * ρ)) (j := 5) (T := TX2) (N := 11) (v := .ref (oA ω (2 + 8 * ρ + 5))) dX2_land_74 (ltRg hn hρ) (cOb_Rg (ρ := ρ) hρ _) rfl (by decide) in_X2 w_99 rfl (q := 77) rfl ?_
  refine e_iload_n C dX2_land_77 rfl 1 rfl (q := 78) rfl ?_
  refine e_iald C (k := (2 + 8 * ρ + 5)) (n := 6) dX2_land_78 (ltRgj hn hρ 5 (by decide)) ((cAr_Rg hρ 5 (by decide)) _) (q := 79) rfl ?_
  refine e_iconst C dX2_land_79 ic_1 (q := 80) rfl ?_
  refine e_iadd C dX2_land_80 (q := 81) rfl ?_
  refine e_mmin C dX2_land_81 w_488 w_258 w_65 w_259 (Nat.le_of_ble_eq_true rfl) (Nat.le_of_ble_eq_true rfl) (q := 84) rfl ?_
  refine e_iast C (k := (2 + 8 * ρ + 5)) (n := 6) dX2_land_84 (ltRgj hn hρ 5 (by decide)) (cAr_Rg hρ 5 (by decide)) (q := 85) rfl ?_
  refine e_nmM (fun J4 => ?_)
  exact e_vreturn C dX2_land_85 hret
set_option maxHeartbeats 4000000 in
set_option maxRecDepth 100000 in
theorem xb_X2_play_b103 {l : Launch} {κ : Kx} {ω : Om} {ρ : Nat} (C : CX κ ω cX2_play 4 5 yX2_play.cls) (hlau : κ.2.1 = l) (hret : κ.2.2.2.2.2.2.2.2.1.sig.returnType = (some .int)) (hn : 56 ≤ oN ω) (hρ : ρ < 3) {K4 : Int32 → Int32 → Mem → Option (Int32 × Mem)} (hK4 : ∀ (x2 : Int32) (x1 : Int32) (J : Mem), EE κ ω 4 (Gi κ ω) (K4 x2 x1 J) J 4 [(2, .int x2), (1, .int x1), (0, .ref (oA ω (2 + 8 * ρ)))] []) : ∀ (x2 : Int32) (s0 : Int32) (s1 : Int32) (I : Mem), EE κ ω 4 (Gi κ ω) (f_X2_play_b103 ρ K4 x2 s0 s1 I) I 103 [(2, .int x2), (0, .ref (oA ω (2 + 8 * ρ)))] [.int s0, .int s1] := by
  intro x2 s0 s1 I
  unfold f_X2_play_b103
  refine e_ior C dX2_play_103 (q := 104) rfl ?_
  refine e_nmi (fun v11 => ?_)
  refine e_istore_n C (lv1 := [(1, .int v11), (2, .int x2), (0, .ref (oA ω (2 + 8 * ρ)))]) dX2_play_104 rfl (Nat.le_of_ble_eq_true rfl) rfl (q := 105) rfl ?_
  refine e_iinc C (v := x2 + (1 : Int32)) (lv1 := [(2, .int (x2 + (1 : Int32))), (1, .int v11), (0, .ref (oA ω (2 + 8 * ρ)))]) dX2_play_105 1 rfl (Nat.le_of_ble_eq_true rfl) (by rw [ic_1]) rfl (q := 108) rfl ?_
  refine e_goto C (tgt := 4) dX2_play_108 rfl ?_
  exact hK4 (x2 + (1 : Int32)) v11 _
set_option maxHeartbeats 4000000 in
set_option maxRecDepth 100000 in
theorem xb_X2_play_b38 {l : Launch} {κ : Kx} {ω : Om} {ρ : Nat} (C : CX κ ω cX2_play 4 5 yX2_play.cls) (hlau : κ.2.1 = l) (hret : κ.2.2.2.2.2.2.2.2.1.sig.returnType = (some .int)) (hn : 56 ≤ oN ω) (hρ : ρ < 3) {K4 : Int32 → Int32 → Mem → Option (Int32 × Mem)} (hK4 : ∀ (x2 : Int32) (x1 : Int32) (J : Mem), EE κ ω 4 (Gi κ ω) (K4 x2 x1 J) J 4 [(2, .int x2), (1, .int x1), (0, .ref (oA ω (2 + 8 * ρ)))] []) : ∀ (x2 : Int32) (x1 : Int32) (s0 : Int32) (I : Mem), EE κ ω 4 (Gi κ ω) (f_X2_play_b38 ρ K4 x2 x1 s0 I) I 38 [(2, .int x2), (1, .int x1), (0, .ref (oA ω (2 + 8 * ρ)))] [.int s0] := by
  intro x2 x1 s0 I
  unfold f_X2_play_b38
  refine e_istore_n C (lv1 := [(3, .int s0), (2, .int x2), (1, .int x1), (0, .ref (oA ω (2 + 8 * ρ)))]) dX2_play_38 rfl (Nat.le_of_ble_eq_true rfl) rfl (q := 39) rfl ?_
  refine e_iload_n C dX2_play_39 rfl 0 rfl (q := 40) rfl ?_
  refine e_iconst C dX2_play_40 ic_m1 (q := 41) rfl ?_
  refine e_icmpne C (tgt := 47) (q := 44) dX2_play_41 rfl rfl ?_ ?_
  · refine e_aload_n C dX2_play_47 rfl 3 rfl (q := 48) rfl ?_
    refine e_iload_n C dX2_play_48 rfl 1 rfl (q := 49) rfl ?_
    refine e_iload_n C dX2_play_49 rfl 0 rfl (q := 50) rfl ?_
    refine e_callVi C (l := l) (k := (2 + 8 * ρ)) (av := [.int x2, .int s0]) (st := []) hlau (x_X2_far (l := l) (ω := ω) (ρ := ρ) (a1 := x2) (a2 := s0) hn hρ (I := I)) dX2_play_50 w_460 w_461 w_462 w_57 w_463 md_X2_far (by decide) (by decide) rfl (ltRg hn hρ) (cOb_Rg (ρ := ρ) hρ _) rfl (Nat.le_of_ble_eq_true rfl) (q := 53) rfl (fun v3 J2 => ?_)
    refine e_iconst C dX2_play_53 ic_1 (q := 54) rfl ?_
    refine e_icmple C (tgt := 66) (q := 57) dX2_play_54 rfl rfl ?_ ?_
    · refine e_aload_n C dX2_play_66 rfl 3 rfl (q := 67) rfl ?_
      refine e_iload_n C dX2_play_67 rfl 1 rfl (q := 68) rfl ?_
      refine e_iload_n C dX2_play_68 rfl 0 rfl (q := 69) rfl ?_
      refine e_aload_n C dX2_play_69 rfl 3 rfl (q := 70) rfl ?_
      refine e_iload_n C dX2_play_70 rfl 1 rfl (q := 71) rfl ?_
      refine e_iload_n C dX2_play_71 rfl 0 rfl (q := 72) rfl ?_
      refine e_callVi C (l := l) (k := (2 + 8 * ρ)) (av := [.int x2, .int s0]) (st := [.int s0, .int x2, .ref (oA ω (2 + 8 * ρ))]) hlau (x_X2_hits (l := l) (ω := ω) (ρ := ρ) (a1 := x2) (a2 := s0) hn hρ (I := J2)) dX2_play_72 w_505 w_479 w_480 w_57 w_481 md_X2_hits (by decide) (by decide) rfl (ltRg hn hρ) (cOb_Rg (ρ := ρ) hρ _) rfl (Nat.le_of_ble_eq_true rfl) (q := 75) rfl (fun v5 J4 => ?_)
      refine e_aload_n C dX2_play_75 rfl 3 rfl (q := 76) rfl ?_
      refine e_iload_n C dX2_play_76 rfl 0 rfl (q := 77) rfl ?_
      refine e_callVi C (l := l) (k := (2 + 8 * ρ)) (av := [.int s0]) (st := [.int v5, .int s0, .int x2, .ref (oA ω (2 + 8 * ρ))]) hlau (x_X2_soft (l := l) (ω := ω) (ρ := ρ) (a1 := s0) hn hρ (I := J4)) dX2_play_77 w_506 w_468 w_469 w_57 w_470 md_X2_soft (by decide) (by decide) rfl (ltRg hn hρ) (cOb_Rg (ρ := ρ) hρ _) rfl (Nat.le_of_ble_eq_true rfl) (q := 80) rfl (fun v7 J6 => ?_)
      refine e_callSi C (l := l) (av := [.int v5, .int v7]) (st := [.int s0, .int x2, .ref (oA ω (2 + 8 * ρ))]) hlau (x_X2_blow (l := l) (ω := ω) (a0 := v5) (a1 := v7) hn (I := J6)) dX2_play_80 w_507 w_486 w_57 w_487 md_X2_blow (by decide) (by decide) rfl (Nat.le_of_ble_eq_true rfl) (q := 83) rfl (fun v9 J8 => ?_)
      refine e_callVv C (l := l) (k := (2 + 8 * ρ)) (av := [.int x2, .int s0, .int v9]) (st := []) hlau (x_X2_land (l := l) (ω := ω) (ρ := ρ) (a1 := x2) (a2 := s0) (a3 := v9) hn hρ (I := J8)) dX2_play_83 w_508 w_510 w_14 w_57 w_511 md_X2_land (by decide) (by decide) rfl (ltRg hn hρ) (cOb_Rg (ρ := ρ) hρ _) rfl (Nat.le_of_ble_eq_true rfl) (q := 86) rfl (fun _ J10 => ?_)
      refine e_iload_n C dX2_play_86 rfl 2 rfl (q := 87) rfl ?_
      refine e_aload_n C dX2_play_87 rfl 3 rfl (q := 88) rfl ?_
      refine e_getf C (k := (2 + 8 * ρ)) (j := 4) (T := TX2) (N := 11) (v := .ref (oA ω (2 + 8 * ρ + 4))) dX2_play_88 (ltRg hn hρ) (cOb_Rg (ρ := ρ) hρ _) rfl (by decide) in_X2 w_96 rfl (q := 91) rfl ?_
      refine e_iload_n C dX2_play_91 rfl 0 rfl (q := 92) rfl ?_
      refine e_iald C (k := (2 + 8 * ρ + 4)) (n := 6) dX2_play_92 (ltRgj hn hρ 4 (by decide)) ((cAr_Rg hρ 4 (by decide)) _) (q := 93) rfl ?_
      refine e_ifne C (tgt := 102) (q := 96) dX2_play_93 rfl rfl ?_ ?_
      · refine e_iconst C dX2_play_102 ic_0 (q := 103) rfl ?_
        exact e_lv [1, 3] (lv1 := [(2, .int x2), (0, .ref (oA ω (2 + 8 * ρ)))]) rfl (xb_X2_play_b103 C hlau hret hn hρ hK4 x2 (0 : Int32) x1 _)
      · refine e_iconst C dX2_play_96 ic_1 (q := 97) rfl ?_
        refine e_iload_n C dX2_play_97 rfl 0 rfl (q := 98) rfl ?_
        refine e_ishl C dX2_play_98 (q := 99) rfl ?_
        refine e_goto C (tgt := 103) dX2_play_99 rfl ?_
        exact e_lv [1, 3] (lv1 := [(2, .int x2), (0, .ref (oA ω (2 + 8 * ρ)))]) rfl (xb_X2_play_b103 C hlau hret hn hρ hK4 x2 ((1 : Int32) <<< (s0 &&& 31)) x1 _)
    · refine e_aload_n C dX2_play_57 rfl 3 rfl (q := 58) rfl ?_
      refine e_iload_n C dX2_play_58 rfl 1 rfl (q := 59) rfl ?_
      refine e_iload_n C dX2_play_59 rfl 0 rfl (q := 60) rfl ?_
      refine e_callVv C (l := l) (k := (2 + 8 * ρ)) (av := [.int x2, .int s0]) (st := []) hlau (x_X2_step (l := l) (ω := ω) (ρ := ρ) (a1 := x2) (a2 := s0) hn hρ (I := J2)) dX2_play_60 w_501 w_503 w_13 w_57 w_504 md_X2_step (by decide) (by decide) rfl (ltRg hn hρ) (cOb_Rg (ρ := ρ) hρ _) rfl (Nat.le_of_ble_eq_true rfl) (q := 63) rfl (fun _ J12 => ?_)
      refine e_goto C (tgt := 105) dX2_play_63 rfl ?_
      refine e_iinc C (v := x2 + (1 : Int32)) (lv1 := [(2, .int (x2 + (1 : Int32))), (3, .int s0), (1, .int x1), (0, .ref (oA ω (2 + 8 * ρ)))]) dX2_play_105 1 rfl (Nat.le_of_ble_eq_true rfl) (by rw [ic_1]) rfl (q := 108) rfl ?_
      refine e_goto C (tgt := 4) dX2_play_108 rfl ?_
      exact e_lv [0, 2, 3] (lv1 := [(2, .int (x2 + (1 : Int32))), (1, .int x1), (0, .ref (oA ω (2 + 8 * ρ)))]) rfl (hK4 (x2 + (1 : Int32)) x1 _)
  · refine e_goto C (tgt := 105) dX2_play_44 rfl ?_
    refine e_iinc C (v := x2 + (1 : Int32)) (lv1 := [(2, .int (x2 + (1 : Int32))), (3, .int s0), (1, .int x1), (0, .ref (oA ω (2 + 8 * ρ)))]) dX2_play_105 1 rfl (Nat.le_of_ble_eq_true rfl) (by rw [ic_1]) rfl (q := 108) rfl ?_
    refine e_goto C (tgt := 4) dX2_play_108 rfl ?_
    exact e_lv [0, 2, 3] (lv1 := [(2, .int (x2 + (1 : Int32))), (1, .int x1), (0, .ref (oA ω (2 + 8 * ρ)))]) rfl (hK4 (x2 + (1 : Int32)) x1 _)
set_option maxHeartbeats 4000000 in
set_option maxRecDepth 100000 in
theorem xb_X2_play_b37 {l : Launch} {κ : Kx} {ω : Om} {ρ : Nat} (C : CX κ ω cX2_play 4 5 yX2_play.cls) (hlau : κ.2.1 = l) (hret : κ.2.2.2.2.2.2.2.2.1.sig.returnType = (some .int)) (hn : 56 ≤ oN ω) (hρ : ρ < 3) {K4 : Int32 → Int32 → Mem → Option (Int32 × Mem)} (hK4 : ∀ (x2 : Int32) (x1 : Int32) (J : Mem), EE κ ω 4 (Gi κ ω) (K4 x2 x1 J) J 4 [(2, .int x2), (1, .int x1), (0, .ref (oA ω (2 + 8 * ρ)))] []) : ∀ (x2 : Int32) (x1 : Int32) (I : Mem), EE κ ω 4 (Gi κ ω) (f_X2_play_b37 ρ K4 x2 x1 I) I 37 [(2, .int x2), (1, .int x1), (0, .ref (oA ω (2 + 8 * ρ)))] [] := by
  intro x2 x1 I
  unfold f_X2_play_b37
  refine e_iconst C dX2_play_37 ic_m1 (q := 38) rfl ?_
  exact xb_X2_play_b38 C hlau hret hn hρ hK4 x2 x1 (-1 : Int32) _
set_option maxHeartbeats 4000000 in
set_option maxRecDepth 100000 in
theorem xb_X2_play_b4 {l : Launch} {κ : Kx} {ω : Om} {ρ : Nat} (C : CX κ ω cX2_play 4 5 yX2_play.cls) (hlau : κ.2.1 = l) (hret : κ.2.2.2.2.2.2.2.2.1.sig.returnType = (some .int)) (hn : 56 ≤ oN ω) (hρ : ρ < 3) : ∀ (n : Nat) (x2 : Int32) (x1 : Int32) (I : Mem), EE κ ω 4 (Gi κ ω) (f_X2_play_b4 ρ n x2 x1 I) I 4 [(2, .int x2), (1, .int x1), (0, .ref (oA ω (2 + 8 * ρ)))] [] := by
  intro n
  induction n with
  | zero => intro x2 x1 I; exact e_none
  | succ n ih =>
    intro x2 x1 I
    rw [f_X2_play_b4]
    refine e_iload_n C dX2_play_4 rfl 0 rfl (q := 5) rfl ?_
    refine e_aload_n C dX2_play_5 rfl 2 rfl (q := 6) rfl ?_
    refine e_getf C (k := (2 + 8 * ρ)) (j := 8) (T := TX2) (N := 11) (v := .int (I (2 + 8 * ρ) 8)) dX2_play_6 (ltRg hn hρ) (cOb_Rg (ρ := ρ) hρ _) rfl (by decide) in_X2 w_108 rfl (q := 9) rfl ?_
    refine e_icmpge C (tgt := 111) (q := 12) dX2_play_9 rfl rfl ?_ ?_
    · refine e_aload_n C dX2_play_111 rfl 2 rfl (q := 112) rfl ?_
      refine e_dup C dX2_play_112 rfl (q := 113) rfl ?_
      refine e_getf C (k := (2 + 8 * ρ)) (j := 9) (T := TX2) (N := 11) (v := .int (I (2 + 8 * ρ) 9)) dX2_play_113 (ltRg hn hρ) (cOb_Rg (ρ := ρ) hρ _) rfl (by decide) in_X2 w_110 rfl (q := 116) rfl ?_
      refine e_iconst C dX2_play_116 ic_1 (q := 117) rfl ?_
      refine e_iadd C dX2_play_117 (q := 118) rfl ?_
      refine e_putf C (k := (2 + 8 * ρ)) (j := 9) (T := TX2) (N := 11) dX2_play_118 (ltRg hn hρ) (cOb_Rg (ρ := ρ) hρ _) rfl (by decide) in_X2 w_110 tyX2_ok nmX2 rfl rfl rfl (show 9 < 11 by decide) (set_Rg_9_ (ρ := ρ) hρ _) (q := 121) rfl ?_
      refine e_nmM (fun J1 => ?_)
      refine e_iload_n C dX2_play_121 rfl 1 rfl (q := 122) rfl ?_
      exact e_ireturn C dX2_play_122 hret rfl
    · refine e_aload_n C dX2_play_12 rfl 2 rfl (q := 13) rfl ?_
      refine e_getf C (k := (2 + 8 * ρ)) (j := 4) (T := TX2) (N := 11) (v := .ref (oA ω (2 + 8 * ρ + 4))) dX2_play_13 (ltRg hn hρ) (cOb_Rg (ρ := ρ) hρ _) rfl (by decide) in_X2 w_96 rfl (q := 16) rfl ?_
      refine e_iload_n C dX2_play_16 rfl 0 rfl (q := 17) rfl ?_
      refine e_iald C (k := (2 + 8 * ρ + 4)) (n := 6) dX2_play_17 (ltRgj hn hρ 4 (by decide)) ((cAr_Rg hρ 4 (by decide)) _) (q := 18) rfl ?_
      refine e_ifle C (tgt := 37) (q := 21) dX2_play_18 rfl rfl ?_ ?_
      · exact xb_X2_play_b37 C hlau hret hn hρ ih x2 x1 _
      · refine e_aload_n C dX2_play_21 rfl 2 rfl (q := 22) rfl ?_
        refine e_iload_n C dX2_play_22 rfl 0 rfl (q := 23) rfl ?_
        refine e_callVi C (l := l) (k := (2 + 8 * ρ)) (av := [.int x2]) (st := []) hlau (x_X2_goes (l := l) (ω := ω) (ρ := ρ) (a1 := x2) hn hρ (I := I)) dX2_play_23 w_499 w_449 w_450 w_57 w_451 md_X2_goes (by decide) (by decide) rfl (ltRg hn hρ) (cOb_Rg (ρ := ρ) hρ _) rfl (Nat.le_of_ble_eq_true rfl) (q := 26) rfl (fun v14 J13 => ?_)
        refine e_ifeq C (tgt := 37) (q := 29) dX2_play_26 rfl rfl ?_ ?_
        · exact xb_X2_play_b37 C hlau hret hn hρ ih x2 x1 _
        · refine e_aload_n C dX2_play_29 rfl 2 rfl (q := 30) rfl ?_
          refine e_iload_n C dX2_play_30 rfl 0 rfl (q := 31) rfl ?_
          refine e_callVi C (l := l) (k := (2 + 8 * ρ)) (av := [.int x2]) (st := []) hlau (x_X2_nearest (l := l) (ω := ω) (ρ := ρ) (a1 := x2) hn hρ (I := J13)) dX2_play_31 w_500 w_457 w_458 w_57 w_459 md_X2_nearest (by decide) (by decide) rfl (ltRg hn hρ) (cOb_Rg (ρ := ρ) hρ _) rfl (Nat.le_of_ble_eq_true rfl) (q := 34) rfl (fun v16 J15 => ?_)
          refine e_goto C (tgt := 38) dX2_play_34 rfl ?_
          exact xb_X2_play_b38 C hlau hret hn hρ ih x2 x1 v16 _
set_option maxHeartbeats 4000000 in
set_option maxRecDepth 100000 in
theorem x_X2_play {l : Launch} {ω : Om} {ρ : Nat} (hn : 56 ≤ oN ω) (hρ : ρ < 3) {I : Mem} : CTi l ω yX2_play cX2_play 4 (some .int) 5 [.ref (oA ω (2 + 8 * ρ))] (f_X2_play ρ I) I := by
  refine ct_i (by decide) (Nat.le_of_ble_eq_true rfl) ?_
  intro κ hlau hret C
  refine e_lv [0] (lv1 := [(0, .ref (oA ω (2 + 8 * ρ)))]) rfl ?_
  unfold f_X2_play
  refine e_iconst C dX2_play_0 ic_0 (q := 1) rfl ?_
  refine e_istore_n C (lv1 := [(1, .int (0 : Int32)), (0, .ref (oA ω (2 + 8 * ρ)))]) dX2_play_1 rfl (Nat.le_of_ble_eq_true rfl) rfl (q := 2) rfl ?_
  refine e_iconst C dX2_play_2 ic_0 (q := 3) rfl ?_
  refine e_istore_n C (lv1 := [(2, .int (0 : Int32)), (1, .int (0 : Int32)), (0, .ref (oA ω (2 + 8 * ρ)))]) dX2_play_3 rfl (Nat.le_of_ble_eq_true rfl) rfl (q := 4) rfl ?_
  exact xb_X2_play_b4 C hlau hret hn hρ FU (0 : Int32) (0 : Int32) _
set_option maxHeartbeats 4000000 in
set_option maxRecDepth 100000 in
theorem x_X3_isMissing {l : Launch} {ω : Om} {σ : Nat} (hn : 56 ≤ oN ω) (hσ : σ < 4) {I : Mem} : CTi l ω yX3_isMissing cX3_isMissing 1 (some .boolean) 1 [.ref (oA ω (48 + 2 * σ))] (f_X3_isMissing σ I) I := by
  refine ct_i (by decide) (Nat.le_of_ble_eq_true rfl) ?_
  intro κ hlau hret C
  refine e_lv [0] (lv1 := [(0, .ref (oA ω (48 + 2 * σ)))]) rfl ?_
  unfold f_X3_isMissing
  refine e_aload_n C dX3_isMissing_0 rfl 0 rfl (q := 1) rfl ?_
  refine e_getf C (k := (48 + 2 * σ)) (j := 1) (T := TX3) (N := 3) (v := .int (I (48 + 2 * σ) 1)) dX3_isMissing_1 (ltSh hn hσ) (cOb_Sh (σ := σ) hσ _) rfl (by decide) in_X3 w_193 rfl (q := 4) rfl ?_
  refine e_iconst C dX3_isMissing_4 ic_m1 (q := 5) rfl ?_
  refine e_icmpne C (tgt := 12) (q := 8) dX3_isMissing_5 rfl rfl ?_ ?_
  · refine e_iconst C dX3_isMissing_12 ic_0 (q := 13) rfl ?_
    exact e_ireturn C dX3_isMissing_13 hret rfl
  · refine e_iconst C dX3_isMissing_8 ic_1 (q := 9) rfl ?_
    refine e_goto C (tgt := 13) dX3_isMissing_9 rfl ?_
    exact e_ireturn C dX3_isMissing_13 hret rfl
set_option maxHeartbeats 4000000 in
set_option maxRecDepth 100000 in
theorem xb_J7_fill_53178_b5 {l : Launch} {κ : Kx} {ω : Om} {b0 : Nat} {n0 : Nat} {a1 : Int32} (C : CX κ ω cJ7_fill_53178 4 1 yJ7_fill_53178.cls) (hlau : κ.2.1 = l) (hret : κ.2.2.2.2.2.2.2.2.1.sig.returnType = none) (hn : 56 ≤ oN ω) (hb0 : isArr ω b0 n0) : ∀ (n : Nat) (x3 : Int32) (x2 : Int32) (I : Mem), EE κ ω 4 (Gv κ ω) (f_J7_fill_53178_b5 b0 n0 a1 n x3 x2 I) I 5 [(3, .int x3), (2, .int x2), (0, .ref (oA ω b0)), (1, .int a1)] [] := by
  intro n
  induction n with
  | zero => intro x3 x2 I; exact e_none
  | succ n ih =>
    intro x3 x2 I
    rw [f_J7_fill_53178_b5]
    refine e_iload_n C dJ7_fill_53178_5 rfl 1 rfl (q := 6) rfl ?_
    refine e_iload_n C dJ7_fill_53178_6 rfl 0 rfl (q := 7) rfl ?_
    refine e_icmpge C (tgt := 20) (q := 10) dJ7_fill_53178_7 rfl rfl ?_ ?_
    · exact e_vreturn C dJ7_fill_53178_20 hret
    · refine e_aload_n C dJ7_fill_53178_10 rfl 2 rfl (q := 11) rfl ?_
      refine e_iload_n C dJ7_fill_53178_11 rfl 1 rfl (q := 12) rfl ?_
      refine e_iload_n C dJ7_fill_53178_12 rfl 3 rfl (q := 13) rfl ?_
      refine e_iast C (k := b0) (n := n0) dJ7_fill_53178_13 hb0.1 hb0.2 (q := 14) rfl ?_
      refine e_nmM (fun J2 => ?_)
      refine e_iinc C (v := x2 + (1 : Int32)) (lv1 := [(2, .int (x2 + (1 : Int32))), (3, .int x3), (0, .ref (oA ω b0)), (1, .int a1)]) dJ7_fill_53178_14 1 rfl (Nat.le_of_ble_eq_true rfl) (by rw [ic_1]) rfl (q := 17) rfl ?_
      refine e_goto C (tgt := 5) dJ7_fill_53178_17 rfl ?_
      exact e_lv [1, 0, 2, 3] (lv1 := [(3, .int x3), (2, .int (x2 + (1 : Int32))), (0, .ref (oA ω b0)), (1, .int a1)]) rfl (ih x3 (x2 + (1 : Int32)) _)
set_option maxHeartbeats 4000000 in
set_option maxRecDepth 100000 in
theorem x_J7_fill_53178 {l : Launch} {ω : Om} {b0 : Nat} {n0 : Nat} {a1 : Int32} (hn : 56 ≤ oN ω) (hb0 : isArr ω b0 n0) {I : Mem} : CTv l ω yJ7_fill_53178 cJ7_fill_53178 4 none 1 [.ref (oA ω b0), .int a1] (f_J7_fill_53178 b0 n0 a1 I) I := by
  refine ct_v (by decide) (Nat.le_of_ble_eq_true rfl) ?_
  intro κ hlau hret C
  refine e_lv [0, 1] (lv1 := [(0, .ref (oA ω b0)), (1, .int a1)]) rfl ?_
  unfold f_J7_fill_53178
  refine e_iconst C dJ7_fill_53178_0 ic_0 (q := 1) rfl ?_
  refine e_istore_n C (lv1 := [(2, .int (0 : Int32)), (0, .ref (oA ω b0)), (1, .int a1)]) dJ7_fill_53178_1 rfl (Nat.le_of_ble_eq_true rfl) rfl (q := 2) rfl ?_
  refine e_aload_n C dJ7_fill_53178_2 rfl 1 rfl (q := 3) rfl ?_
  refine e_alen C (k := b0) (n := n0) (v := Int32.ofNat n0) dJ7_fill_53178_3 hb0.1 (hb0.2 _) rfl (q := 4) rfl ?_
  refine e_nmi (fun v1 => ?_)
  refine e_istore_n C (lv1 := [(3, .int v1), (2, .int (0 : Int32)), (0, .ref (oA ω b0)), (1, .int a1)]) dJ7_fill_53178_4 rfl (Nat.le_of_ble_eq_true rfl) rfl (q := 5) rfl ?_
  exact xb_J7_fill_53178_b5 C hlau hret hn hb0 FU v1 (0 : Int32) _
set_option maxHeartbeats 4000000 in
set_option maxRecDepth 100000 in
theorem x_X3_become {l : Launch} {ω : Om} {σ : Nat} {a1 : Int32} {a2 : Int32} (hn : 56 ≤ oN ω) (hσ : σ < 4) {I : Mem} : CTv l ω yX3_become cX3_become 3 none 2 [.ref (oA ω (48 + 2 * σ)), .int a1, .int a2] (f_X3_become σ a1 a2 I) I := by
  refine ct_v (by decide) (Nat.le_of_ble_eq_true rfl) ?_
  intro κ hlau hret C
  refine e_lv [0, 1, 2] (lv1 := [(0, .ref (oA ω (48 + 2 * σ))), (1, .int a1), (2, .int a2)]) rfl ?_
  unfold f_X3_become
  refine e_aload_n C dX3_become_0 rfl 0 rfl (q := 1) rfl ?_
  refine e_iload_n C dX3_become_1 rfl 1 rfl (q := 2) rfl ?_
  refine e_putf C (k := (48 + 2 * σ)) (j := 1) (T := TX3) (N := 3) dX3_become_2 (ltSh hn hσ) (cOb_Sh (σ := σ) hσ _) rfl (by decide) in_X3 w_193 tyX3_ok nmX3 rfl rfl rfl (show 1 < 3 by decide) (set_Sh_1_ (σ := σ) hσ _) (q := 5) rfl ?_
  refine e_nmM (fun J1 => ?_)
  refine e_aload_n C dX3_become_5 rfl 0 rfl (q := 6) rfl ?_
  refine e_iload_n C dX3_become_6 rfl 2 rfl (q := 7) rfl ?_
  refine e_putf C (k := (48 + 2 * σ)) (j := 2) (T := TX3) (N := 3) dX3_become_7 (ltSh hn hσ) (cOb_Sh (σ := σ) hσ _) rfl (by decide) in_X3 w_195 tyX3_ok nmX3 rfl rfl rfl (show 2 < 3 by decide) (set_Sh_2_ (σ := σ) hσ _) (q := 10) rfl ?_
  refine e_nmM (fun J2 => ?_)
  refine e_aload_n C dX3_become_10 rfl 0 rfl (q := 11) rfl ?_
  refine e_getf C (k := (48 + 2 * σ)) (j := 0) (T := TX3) (N := 3) (v := .ref (oA ω (48 + 2 * σ + 1))) dX3_become_11 (ltSh hn hσ) (cOb_Sh (σ := σ) hσ _) rfl (by decide) in_X3 w_191 rfl (q := 14) rfl ?_
  refine e_iconst C dX3_become_14 ic_0 (q := 15) rfl ?_
  refine e_callSv C (l := l) (av := [.ref (oA ω (48 + 2 * σ + 1)), .int (0 : Int32)]) (st := []) hlau (x_J7_fill_53178 (l := l) (ω := ω) (b0 := (48 + 2 * σ + 1)) (n0 := 40) (a1 := (0 : Int32)) hn ⟨(ltShj hn hσ), (cAr_Sh1 hσ)⟩ (I := J2)) dX3_become_15 w_647 w_648 w_71 w_649 md_J7_fill_53178 (by decide) (by decide) rfl (Nat.le_of_ble_eq_true rfl) (q := 18) rfl (fun _ J3 => ?_)
  exact e_vreturn C dX3_become_18 hret
set_option maxHeartbeats 4000000 in
set_option maxRecDepth 100000 in
theorem xb_X3_write_b31 {l : Launch} {κ : Kx} {ω : Om} {σ : Nat} {a1 : Int32} {a2 : Int32} (C : CX κ ω cX3_write 3 1 yX3_write.cls) (hlau : κ.2.1 = l) (hret : κ.2.2.2.2.2.2.2.2.1.sig.returnType = none) (hn : 56 ≤ oN ω) (hσ : σ < 4) : ∀ (s0 : Int32) (s1 : Int32) (I : Mem), EE κ ω 3 (Gv κ ω) (f_X3_write_b31 σ a1 a2 s0 s1 I) I 31 [] [.int s0, .int s1, .ref (oA ω (48 + 2 * σ + 1))] := by
  intro s0 s1 I
  unfold f_X3_write_b31
  refine e_iast C (k := (48 + 2 * σ + 1)) (n := 40) dX3_write_31 (ltShj hn hσ) (cAr_Sh1 hσ) (q := 32) rfl ?_
  refine e_nmM (fun J1 => ?_)
  exact e_vreturn C dX3_write_32 hret
set_option maxHeartbeats 4000000 in
set_option maxRecDepth 100000 in
theorem x_X3_write {l : Launch} {ω : Om} {σ : Nat} {a1 : Int32} {a2 : Int32} (hn : 56 ≤ oN ω) (hσ : σ < 4) {I : Mem} : CTv l ω yX3_write cX3_write 3 none 1 [.ref (oA ω (48 + 2 * σ)), .int a1, .int a2] (f_X3_write σ a1 a2 I) I := by
  refine ct_v (by decide) (Nat.le_of_ble_eq_true rfl) ?_
  intro κ hlau hret C
  refine e_lv [0, 1, 2] (lv1 := [(0, .ref (oA ω (48 + 2 * σ))), (1, .int a1), (2, .int a2)]) rfl ?_
  unfold f_X3_write
  refine e_aload_n C dX3_write_0 rfl 0 rfl (q := 1) rfl ?_
  refine e_getf C (k := (48 + 2 * σ)) (j := 0) (T := TX3) (N := 3) (v := .ref (oA ω (48 + 2 * σ + 1))) dX3_write_1 (ltSh hn hσ) (cOb_Sh (σ := σ) hσ _) rfl (by decide) in_X3 w_191 rfl (q := 4) rfl ?_
  refine e_iload_n C dX3_write_4 rfl 1 rfl (q := 5) rfl ?_
  refine e_aload_n C dX3_write_5 rfl 0 rfl (q := 6) rfl ?_
  refine e_getf C (k := (48 + 2 * σ)) (j := 1) (T := TX3) (N := 3) (v := .int (I (48 + 2 * σ) 1)) dX3_write_6 (ltSh hn hσ) (cOb_Sh (σ := σ) hσ _) rfl (by decide) in_X3 w_193 rfl (q := 9) rfl ?_
  refine e_ifne C (tgt := 17) (q := 12) dX3_write_9 rfl rfl ?_ ?_
  · refine e_aload_n C dX3_write_17 rfl 0 rfl (q := 18) rfl ?_
    refine e_getf C (k := (48 + 2 * σ)) (j := 1) (T := TX3) (N := 3) (v := .int (I (48 + 2 * σ) 1)) dX3_write_18 (ltSh hn hσ) (cOb_Sh (σ := σ) hσ _) rfl (by decide) in_X3 w_193 rfl (q := 21) rfl ?_
    refine e_iconst C dX3_write_21 ic_1 (q := 22) rfl ?_
    refine e_icmpne C (tgt := 30) (q := 25) dX3_write_22 rfl rfl ?_ ?_
    · refine e_iload_n C dX3_write_30 rfl 2 rfl (q := 31) rfl ?_
      exact e_lv [] (lv1 := []) rfl (xb_X3_write_b31 C hlau hret hn hσ a2 a1 _)
    · refine e_iload_n C dX3_write_25 rfl 2 rfl (q := 26) rfl ?_
      refine e_i2s C dX3_write_26 (q := 27) rfl ?_
      refine e_goto C (tgt := 31) dX3_write_27 rfl ?_
      exact e_lv [] (lv1 := []) rfl (xb_X3_write_b31 C hlau hret hn hσ ((a2).toInt16.toInt32) a1 _)
  · refine e_iload_n C dX3_write_12 rfl 2 rfl (q := 13) rfl ?_
    refine e_i2b C dX3_write_13 (q := 14) rfl ?_
    refine e_goto C (tgt := 31) dX3_write_14 rfl ?_
    exact e_lv [] (lv1 := []) rfl (xb_X3_write_b31 C hlau hret hn hσ ((a2).toInt8.toInt32) a1 _)
set_option maxHeartbeats 4000000 in
set_option maxRecDepth 100000 in
theorem x_X6_count {l : Launch} {ω : Om} {a1 : Int32} (hn : 56 ≤ oN ω)  {I : Mem} : CTi l ω yX6_count cX6_count 2 (some .int) 2 [.ref (oA ω 0), .int a1] (f_X6_count a1 I) I := by
  refine ct_i (by decide) (Nat.le_of_ble_eq_true rfl) ?_
  intro κ hlau hret C
  refine e_lv [0, 1] (lv1 := [(0, .ref (oA ω 0)), (1, .int a1)]) rfl ?_
  unfold f_X6_count
  refine e_iload_n C dX6_count_0 rfl 1 rfl (q := 1) rfl ?_
  refine e_if (fun h1 => ?_) (fun h1 => ?_)
  · refine e_tabIn C (v := 0) (off := 39) (tgt := 40) dX6_count_1 (by rw [h1]; rfl) (by decide) rfl rfl ?_
    refine e_aload_n C dX6_count_40 rfl 0 rfl (q := 41) rfl ?_
    refine e_getf C (k := 0) (j := 1) (T := TX6) (N := 10) (v := .ref (oA ω 2)) dX6_count_41 (ltL hn (Nat.le_of_ble_eq_true rfl)) rfl rfl (by decide) in_X6 w_347 rfl (q := 44) rfl ?_
    refine e_getf C (k := 2) (j := 8) (T := TX2) (N := 11) (v := .int (I 2 8)) dX6_count_44 (ltL hn (Nat.le_of_ble_eq_true rfl)) (cOb_Rg (ρ := 0) (by decide) _) rfl (by decide) in_X2 w_107 rfl (q := 47) rfl ?_
    exact e_ireturn C dX6_count_47 hret rfl
  · refine e_if (fun h2 => ?_) (fun h2 => ?_)
    · refine e_tabIn C (v := 1) (off := 47) (tgt := 48) dX6_count_1 (by rw [h2]; rfl) (by decide) rfl rfl ?_
      refine e_aload_n C dX6_count_48 rfl 0 rfl (q := 49) rfl ?_
      refine e_getf C (k := 0) (j := 1) (T := TX6) (N := 10) (v := .ref (oA ω 2)) dX6_count_49 (ltL hn (Nat.le_of_ble_eq_true rfl)) rfl rfl (by decide) in_X6 w_347 rfl (q := 52) rfl ?_
      refine e_getf C (k := 2) (j := 9) (T := TX2) (N := 11) (v := .int (I 2 9)) dX6_count_52 (ltL hn (Nat.le_of_ble_eq_true rfl)) (cOb_Rg (ρ := 0) (by decide) _) rfl (by decide) in_X2 w_109 rfl (q := 55) rfl ?_
      exact e_ireturn C dX6_count_55 hret rfl
    · refine e_if (fun h3 => ?_) (fun h3 => ?_)
      · refine e_tabIn C (v := 2) (off := 55) (tgt := 56) dX6_count_1 (by rw [h3]; rfl) (by decide) rfl rfl ?_
        refine e_aload_n C dX6_count_56 rfl 0 rfl (q := 57) rfl ?_
        refine e_getf C (k := 0) (j := 1) (T := TX6) (N := 10) (v := .ref (oA ω 2)) dX6_count_57 (ltL hn (Nat.le_of_ble_eq_true rfl)) rfl rfl (by decide) in_X6 w_347 rfl (q := 60) rfl ?_
        refine e_callVi C (l := l) (k := 2) (av := []) (st := []) hlau (x_X2_upCount (l := l) (ω := ω) (ρ := 0) hn (by decide) (I := I)) dX6_count_60 w_382 w_383 w_384 w_57 w_385 md_X2_upCount (by decide) (by decide) rfl (ltL hn (Nat.le_of_ble_eq_true rfl)) (cOb_Rg (ρ := 0) (by decide) _) rfl (Nat.le_of_ble_eq_true rfl) (q := 63) rfl (fun v8 J7 => ?_)
        exact e_ireturn C dX6_count_63 hret rfl
      · refine e_if (fun h4 => ?_) (fun h4 => ?_)
        · refine e_tabIn C (v := 3) (off := 63) (tgt := 64) dX6_count_1 (by rw [h4]; rfl) (by decide) rfl rfl ?_
          refine e_aload_n C dX6_count_64 rfl 0 rfl (q := 65) rfl ?_
          refine e_getf C (k := 0) (j := 7) (T := TX6) (N := 10) (v := .int (I 0 7)) dX6_count_65 (ltL hn (Nat.le_of_ble_eq_true rfl)) rfl rfl (by decide) in_X6 w_353 rfl (q := 68) rfl ?_
          exact e_ireturn C dX6_count_68 hret rfl
        · refine e_if (fun h5 => ?_) (fun h5 => ?_)
          · refine e_tabIn C (v := 4) (off := 68) (tgt := 69) dX6_count_1 (by rw [h5]; rfl) (by decide) rfl rfl ?_
            refine e_aload_n C dX6_count_69 rfl 0 rfl (q := 70) rfl ?_
            refine e_getf C (k := 0) (j := 1) (T := TX6) (N := 10) (v := .ref (oA ω 2)) dX6_count_70 (ltL hn (Nat.le_of_ble_eq_true rfl)) rfl rfl (by decide) in_X6 w_347 rfl (q := 73) rfl ?_
            refine e_getf C (k := 2) (j := 10) (T := TX2) (N := 11) (v := .int (I 2 10)) dX6_count_73 (ltL hn (Nat.le_of_ble_eq_true rfl)) (cOb_Rg (ρ := 0) (by decide) _) rfl (by decide) in_X2 w_112 rfl (q := 76) rfl ?_
            exact e_ireturn C dX6_count_76 hret rfl
          · refine e_if (fun h6 => ?_) (fun h6 => ?_)
            · refine e_tabIn C (v := 5) (off := 76) (tgt := 77) dX6_count_1 (by rw [h6]; rfl) (by decide) rfl rfl ?_
              refine e_aload_n C dX6_count_77 rfl 0 rfl (q := 78) rfl ?_
              refine e_getf C (k := 0) (j := 8) (T := TX6) (N := 10) (v := .int (I 0 8)) dX6_count_78 (ltL hn (Nat.le_of_ble_eq_true rfl)) rfl rfl (by decide) in_X6 w_354 rfl (q := 81) rfl ?_
              exact e_ireturn C dX6_count_81 hret rfl
            · refine e_tabOut C (tgt := 82) dX6_count_1 (by have g0 := i32_ne h1; have g1 := i32_ne h2; have g2 := i32_ne h3; have g3 := i32_ne h4; have g4 := i32_ne h5; have g5 := i32_ne h6; have f0 : ((0 : Int32)).toInt = 0 := rfl; have f1 : ((1 : Int32)).toInt = 1 := rfl; have f2 : ((2 : Int32)).toInt = 2 := rfl; have f3 : ((3 : Int32)).toInt = 3 := rfl; have f4 : ((4 : Int32)).toInt = 4 := rfl; have f5 : ((5 : Int32)).toInt = 5 := rfl; omega) rfl ?_
              refine e_bipush C dX6_count_82 b8_m2 (q := 84) rfl ?_
              exact e_ireturn C dX6_count_84 hret rfl
set_option maxHeartbeats 4000000 in
set_option maxRecDepth 100000 in
theorem x_X6_isByte {l : Launch} {ω : Om} {a0 : Int32} (hn : 56 ≤ oN ω)  {I : Mem} : CTi l ω yX6_isByte cX6_isByte 1 (some .boolean) 2 [.int a0] (f_X6_isByte a0 I) I := by
  refine ct_i (by decide) (Nat.le_of_ble_eq_true rfl) ?_
  intro κ hlau hret C
  refine e_lv [0] (lv1 := [(0, .int a0)]) rfl ?_
  unfold f_X6_isByte
  refine e_iload_n C dX6_isByte_0 rfl 0 rfl (q := 1) rfl ?_
  refine e_iconst C dX6_isByte_1 ic_0 (q := 2) rfl ?_
  refine e_sipush C dX6_isByte_2 b16_255 (q := 5) rfl ?_
  refine e_callSi C (l := l) (av := [.int a0, .int (0 : Int32), .int (255 : Int32)]) (st := []) hlau (x_X6_within (l := l) (ω := ω) (a0 := a0) (a1 := (0 : Int32)) (a2 := (255 : Int32)) hn (I := I)) dX6_isByte_5 w_390 w_391 w_56 w_392 md_X6_within (by decide) (by decide) rfl (Nat.le_of_ble_eq_true rfl) (q := 8) rfl (fun v2 J1 => ?_)
  exact e_ireturn_t C dX6_isByte_8 hret rfl rfl
set_option maxHeartbeats 4000000 in
set_option maxRecDepth 100000 in
theorem xb_X6_feed_b125 {l : Launch} {κ : Kx} {ω : Om} {a1 : Int32} {a2 : Int32} {a3 : Int32} {a4 : Int32} {a5 : Int32} {a6 : Int32} (C : CX κ ω cX6_feed 8 3 yX6_feed.cls) (hlau : κ.2.1 = l) (hret : κ.2.2.2.2.2.2.2.2.1.sig.returnType = (some .int)) (hn : 56 ≤ oN ω)  {K68 : Int32 → Mem → Option (Int32 × Mem)} (hK68 : ∀ (x7 : Int32) (J : Mem), EE κ ω 8 (Gi κ ω) (K68 x7 J) J 68 [(7, .int x7), (0, .ref (oA ω 0)), (1, .int a1), (2, .int a2), (3, .int a3), (4, .int a4), (5, .int a5), (6, .int a6)] []) : ∀ (x7 : Int32) (s0 : Int32) (s1 : Int32) (I : Mem), EE κ ω 8 (Gi κ ω) (f_X6_feed_b125 a1 a2 a3 a4 a5 a6 K68 x7 s0 s1 I) I 125 [(7, .int x7), (0, .ref (oA ω 0)), (1, .int a1), (2, .int a2), (3, .int a3), (4, .int a4), (5, .int a5), (6, .int a6)] [.int s0, .int s1, .ref (oA ω 27)] := by
  intro x7 s0 s1 I
  unfold f_X6_feed_b125
  refine e_iast C (k := 27) (n := 160) dX6_feed_125 (ltL hn (Nat.le_of_ble_eq_true rfl)) (fun _ => rfl) (q := 126) rfl ?_
  refine e_nmM (fun J13 => ?_)
  refine e_aload_n C dX6_feed_126 rfl 1 rfl (q := 127) rfl ?_
  refine e_dup C dX6_feed_127 rfl (q := 128) rfl ?_
  refine e_getf C (k := 0) (j := 8) (T := TX6) (N := 10) (v := .int (J13 0 8)) dX6_feed_128 (ltL hn (Nat.le_of_ble_eq_true rfl)) rfl rfl (by decide) in_X6 w_354 rfl (q := 131) rfl ?_
  refine e_iconst C dX6_feed_131 ic_1 (q := 132) rfl ?_
  refine e_iadd C dX6_feed_132 (q := 133) rfl ?_
  refine e_putf C (k := 0) (j := 8) (T := TX6) (N := 10) dX6_feed_133 (ltL hn (Nat.le_of_ble_eq_true rfl)) rfl rfl (by decide) in_X6 w_354 tyX6_ok nmX6 rfl rfl rfl (show 8 < 10 by decide) (set_Ha_8_ _) (q := 136) rfl ?_
  refine e_nmM (fun J14 => ?_)
  refine e_iinc C (v := x7 + (1 : Int32)) (lv1 := [(7, .int (x7 + (1 : Int32))), (0, .ref (oA ω 0)), (1, .int a1), (2, .int a2), (3, .int a3), (4, .int a4), (5, .int a5), (6, .int a6)]) dX6_feed_136 0 rfl (Nat.le_of_ble_eq_true rfl) (by rw [ic_1]) rfl (q := 139) rfl ?_
  refine e_goto C (tgt := 68) dX6_feed_139 rfl ?_
  exact hK68 (x7 + (1 : Int32)) _
set_option maxHeartbeats 4000000 in
set_option maxRecDepth 100000 in
theorem xb_X6_feed_b68 {l : Launch} {κ : Kx} {ω : Om} {a1 : Int32} {a2 : Int32} {a3 : Int32} {a4 : Int32} {a5 : Int32} {a6 : Int32} (C : CX κ ω cX6_feed 8 3 yX6_feed.cls) (hlau : κ.2.1 = l) (hret : κ.2.2.2.2.2.2.2.2.1.sig.returnType = (some .int)) (hn : 56 ≤ oN ω)  : ∀ (n : Nat) (x7 : Int32) (I : Mem), EE κ ω 8 (Gi κ ω) (f_X6_feed_b68 a1 a2 a3 a4 a5 a6 n x7 I) I 68 [(7, .int x7), (0, .ref (oA ω 0)), (1, .int a1), (2, .int a2), (3, .int a3), (4, .int a4), (5, .int a5), (6, .int a6)] [] := by
  intro n
  induction n with
  | zero => intro x7 I; exact e_none
  | succ n ih =>
    intro x7 I
    rw [f_X6_feed_b68]
    refine e_iload C dX6_feed_68 0 rfl (q := 70) rfl ?_
    refine e_iload_n C dX6_feed_70 rfl 2 rfl (q := 71) rfl ?_
    refine e_icmpge C (tgt := 142) (q := 74) dX6_feed_71 rfl rfl ?_ ?_
    · refine e_aload_n C dX6_feed_142 rfl 1 rfl (q := 143) rfl ?_
      refine e_getf C (k := 0) (j := 8) (T := TX6) (N := 10) (v := .int (I 0 8)) dX6_feed_143 (ltL hn (Nat.le_of_ble_eq_true rfl)) rfl rfl (by decide) in_X6 w_354 rfl (q := 146) rfl ?_
      exact e_ireturn C dX6_feed_146 hret rfl
    · refine e_aload_n C dX6_feed_74 rfl 1 rfl (q := 75) rfl ?_
      refine e_getf C (k := 0) (j := 5) (T := TX6) (N := 10) (v := .ref (oA ω 27)) dX6_feed_75 (ltL hn (Nat.le_of_ble_eq_true rfl)) rfl rfl (by decide) in_X6 w_351 rfl (q := 78) rfl ?_
      refine e_aload_n C dX6_feed_78 rfl 1 rfl (q := 79) rfl ?_
      refine e_getf C (k := 0) (j := 8) (T := TX6) (N := 10) (v := .int (I 0 8)) dX6_feed_79 (ltL hn (Nat.le_of_ble_eq_true rfl)) rfl rfl (by decide) in_X6 w_354 rfl (q := 82) rfl ?_
      refine e_iload C dX6_feed_82 0 rfl (q := 84) rfl ?_
      refine e_ifne C (tgt := 91) (q := 87) dX6_feed_84 rfl rfl ?_ ?_
      · refine e_iload C dX6_feed_91 0 rfl (q := 93) rfl ?_
        refine e_iconst C dX6_feed_93 ic_1 (q := 94) rfl ?_
        refine e_icmpne C (tgt := 101) (q := 97) dX6_feed_94 rfl rfl ?_ ?_
        · refine e_iload C dX6_feed_101 0 rfl (q := 103) rfl ?_
          refine e_iconst C dX6_feed_103 ic_2 (q := 104) rfl ?_
          refine e_icmpne C (tgt := 112) (q := 107) dX6_feed_104 rfl rfl ?_ ?_
          · refine e_iload C dX6_feed_112 0 rfl (q := 114) rfl ?_
            refine e_iconst C dX6_feed_114 ic_3 (q := 115) rfl ?_
            refine e_icmpne C (tgt := 123) (q := 118) dX6_feed_115 rfl rfl ?_ ?_
            · refine e_iload C dX6_feed_123 7 rfl (q := 125) rfl ?_
              exact xb_X6_feed_b125 C hlau hret hn ih x7 a6 (I 0 8) _
            · refine e_iload C dX6_feed_118 6 rfl (q := 120) rfl ?_
              refine e_goto C (tgt := 125) dX6_feed_120 rfl ?_
              exact xb_X6_feed_b125 C hlau hret hn ih x7 a5 (I 0 8) _
          · refine e_iload C dX6_feed_107 5 rfl (q := 109) rfl ?_
            refine e_goto C (tgt := 125) dX6_feed_109 rfl ?_
            exact xb_X6_feed_b125 C hlau hret hn ih x7 a4 (I 0 8) _
        · refine e_iload_n C dX6_feed_97 rfl 4 rfl (q := 98) rfl ?_
          refine e_goto C (tgt := 125) dX6_feed_98 rfl ?_
          exact xb_X6_feed_b125 C hlau hret hn ih x7 a3 (I 0 8) _
      · refine e_iload_n C dX6_feed_87 rfl 3 rfl (q := 88) rfl ?_
        refine e_goto C (tgt := 125) dX6_feed_88 rfl ?_
        exact xb_X6_feed_b125 C hlau hret hn ih x7 a2 (I 0 8) _
set_option maxHeartbeats 4000000 in
set_option maxRecDepth 100000 in
theorem x_X6_feed {l : Launch} {ω : Om} {a1 : Int32} {a2 : Int32} {a3 : Int32} {a4 : Int32} {a5 : Int32} {a6 : Int32} (hn : 56 ≤ oN ω)  {I : Mem} : CTi l ω yX6_feed cX6_feed 8 (some .int) 3 [.ref (oA ω 0), .int a1, .int a2, .int a3, .int a4, .int a5, .int a6] (f_X6_feed a1 a2 a3 a4 a5 a6 I) I := by
  refine ct_i (by decide) (Nat.le_of_ble_eq_true rfl) ?_
  intro κ hlau hret C
  refine e_lv [0, 1, 2, 3, 4, 5, 6] (lv1 := [(0, .ref (oA ω 0)), (1, .int a1), (2, .int a2), (3, .int a3), (4, .int a4), (5, .int a5), (6, .int a6)]) rfl ?_
  unfold f_X6_feed
  refine e_iload_n C dX6_feed_0 rfl 1 rfl (q := 1) rfl ?_
  refine e_iconst C dX6_feed_1 ic_1 (q := 2) rfl ?_
  refine e_iconst C dX6_feed_2 ic_5 (q := 3) rfl ?_
  refine e_callSi C (l := l) (av := [.int a1, .int (1 : Int32), .int (5 : Int32)]) (st := []) hlau (x_X6_within (l := l) (ω := ω) (a0 := a1) (a1 := (1 : Int32)) (a2 := (5 : Int32)) hn (I := I)) dX6_feed_3 w_390 w_391 w_56 w_392 md_X6_within (by decide) (by decide) rfl (Nat.le_of_ble_eq_true rfl) (q := 6) rfl (fun v2 J1 => ?_)
  refine e_ifeq C (tgt := 47) (q := 9) dX6_feed_6 rfl rfl ?_ ?_
  · refine e_bipush C dX6_feed_47 b8_m2 (q := 49) rfl ?_
    exact e_ireturn C dX6_feed_49 hret rfl
  · refine e_iload_n C dX6_feed_9 rfl 2 rfl (q := 10) rfl ?_
    refine e_callSi C (l := l) (av := [.int a2]) (st := []) hlau (x_X6_isByte (l := l) (ω := ω) (a0 := a2) hn (I := J1)) dX6_feed_10 w_393 w_394 w_56 w_395 md_X6_isByte (by decide) (by decide) rfl (Nat.le_of_ble_eq_true rfl) (q := 13) rfl (fun v4 J3 => ?_)
    refine e_ifeq C (tgt := 47) (q := 16) dX6_feed_13 rfl rfl ?_ ?_
    · refine e_bipush C dX6_feed_47 b8_m2 (q := 49) rfl ?_
      exact e_ireturn C dX6_feed_49 hret rfl
    · refine e_iload_n C dX6_feed_16 rfl 3 rfl (q := 17) rfl ?_
      refine e_callSi C (l := l) (av := [.int a3]) (st := []) hlau (x_X6_isByte (l := l) (ω := ω) (a0 := a3) hn (I := J3)) dX6_feed_17 w_393 w_394 w_56 w_395 md_X6_isByte (by decide) (by decide) rfl (Nat.le_of_ble_eq_true rfl) (q := 20) rfl (fun v6 J5 => ?_)
      refine e_ifeq C (tgt := 47) (q := 23) dX6_feed_20 rfl rfl ?_ ?_
      · refine e_bipush C dX6_feed_47 b8_m2 (q := 49) rfl ?_
        exact e_ireturn C dX6_feed_49 hret rfl
      · refine e_iload C dX6_feed_23 4 rfl (q := 25) rfl ?_
        refine e_callSi C (l := l) (av := [.int a4]) (st := []) hlau (x_X6_isByte (l := l) (ω := ω) (a0 := a4) hn (I := J5)) dX6_feed_25 w_393 w_394 w_56 w_395 md_X6_isByte (by decide) (by decide) rfl (Nat.le_of_ble_eq_true rfl) (q := 28) rfl (fun v8 J7 => ?_)
        refine e_ifeq C (tgt := 47) (q := 31) dX6_feed_28 rfl rfl ?_ ?_
        · refine e_bipush C dX6_feed_47 b8_m2 (q := 49) rfl ?_
          exact e_ireturn C dX6_feed_49 hret rfl
        · refine e_iload C dX6_feed_31 5 rfl (q := 33) rfl ?_
          refine e_callSi C (l := l) (av := [.int a5]) (st := []) hlau (x_X6_isByte (l := l) (ω := ω) (a0 := a5) hn (I := J7)) dX6_feed_33 w_393 w_394 w_56 w_395 md_X6_isByte (by decide) (by decide) rfl (Nat.le_of_ble_eq_true rfl) (q := 36) rfl (fun v10 J9 => ?_)
          refine e_ifeq C (tgt := 47) (q := 39) dX6_feed_36 rfl rfl ?_ ?_
          · refine e_bipush C dX6_feed_47 b8_m2 (q := 49) rfl ?_
            exact e_ireturn C dX6_feed_49 hret rfl
          · refine e_iload C dX6_feed_39 6 rfl (q := 41) rfl ?_
            refine e_callSi C (l := l) (av := [.int a6]) (st := []) hlau (x_X6_isByte (l := l) (ω := ω) (a0 := a6) hn (I := J9)) dX6_feed_41 w_393 w_394 w_56 w_395 md_X6_isByte (by decide) (by decide) rfl (Nat.le_of_ble_eq_true rfl) (q := 44) rfl (fun v12 J11 => ?_)
            refine e_ifne C (tgt := 50) (q := 47) dX6_feed_44 rfl rfl ?_ ?_
            · refine e_aload_n C dX6_feed_50 rfl 0 rfl (q := 51) rfl ?_
              refine e_getf C (k := 0) (j := 8) (T := TX6) (N := 10) (v := .int (J11 0 8)) dX6_feed_51 (ltL hn (Nat.le_of_ble_eq_true rfl)) rfl rfl (by decide) in_X6 w_354 rfl (q := 54) rfl ?_
              refine e_iload_n C dX6_feed_54 rfl 1 rfl (q := 55) rfl ?_
              refine e_iadd C dX6_feed_55 (q := 56) rfl ?_
              refine e_sipush C dX6_feed_56 b16_160 (q := 59) rfl ?_
              refine e_icmple C (tgt := 65) (q := 62) dX6_feed_59 rfl rfl ?_ ?_
              · refine e_iconst C dX6_feed_65 ic_0 (q := 66) rfl ?_
                refine e_istore C (lv1 := [(7, .int (0 : Int32)), (0, .ref (oA ω 0)), (1, .int a1), (2, .int a2), (3, .int a3), (4, .int a4), (5, .int a5), (6, .int a6)]) dX6_feed_66 (Nat.le_of_ble_eq_true rfl) rfl (q := 68) rfl ?_
                exact xb_X6_feed_b68 C hlau hret hn FU (0 : Int32) _
              · refine e_bipush C dX6_feed_62 b8_m4 (q := 64) rfl ?_
                exact e_ireturn C dX6_feed_64 hret rfl
            · refine e_bipush C dX6_feed_47 b8_m2 (q := 49) rfl ?_
              exact e_ireturn C dX6_feed_49 hret rfl
set_option maxHeartbeats 4000000 in
set_option maxRecDepth 100000 in
theorem x_X6_force {l : Launch} {ω : Om} {a1 : Int32} (hn : 56 ≤ oN ω)  {I : Mem} : CTi l ω yX6_force cX6_force 3 (some .int) 2 [.ref (oA ω 0), .int a1] (f_X6_force a1 I) I := by
  refine ct_i (by decide) (Nat.le_of_ble_eq_true rfl) ?_
  intro κ hlau hret C
  refine e_lv [0, 1] (lv1 := [(0, .ref (oA ω 0)), (1, .int a1)]) rfl ?_
  unfold f_X6_force
  refine e_iload_n C dX6_force_0 rfl 1 rfl (q := 1) rfl ?_
  refine e_iconst C dX6_force_1 ic_0 (q := 2) rfl ?_
  refine e_aload_n C dX6_force_2 rfl 0 rfl (q := 3) rfl ?_
  refine e_getf C (k := 0) (j := 7) (T := TX6) (N := 10) (v := .int (I 0 7)) dX6_force_3 (ltL hn (Nat.le_of_ble_eq_true rfl)) rfl rfl (by decide) in_X6 w_353 rfl (q := 6) rfl ?_
  refine e_iconst C dX6_force_6 ic_1 (q := 7) rfl ?_
  refine e_isub C dX6_force_7 (q := 8) rfl ?_
  refine e_callSi C (l := l) (av := [.int a1, .int (0 : Int32), .int ((I 0 7) - (1 : Int32))]) (st := []) hlau (x_X6_within (l := l) (ω := ω) (a0 := a1) (a1 := (0 : Int32)) (a2 := (I 0 7) - (1 : Int32)) hn (I := I)) dX6_force_8 w_390 w_391 w_56 w_392 md_X6_within (by decide) (by decide) rfl (Nat.le_of_ble_eq_true rfl) (q := 11) rfl (fun v2 J1 => ?_)
  refine e_ifne C (tgt := 17) (q := 14) dX6_force_11 rfl rfl ?_ ?_
  · refine e_aload_n C dX6_force_17 rfl 0 rfl (q := 18) rfl ?_
    refine e_getf C (k := 0) (j := 1) (T := TX6) (N := 10) (v := .ref (oA ω 2)) dX6_force_18 (ltL hn (Nat.le_of_ble_eq_true rfl)) rfl rfl (by decide) in_X6 w_347 rfl (q := 21) rfl ?_
    refine e_getf C (k := 2) (j := 10) (T := TX2) (N := 11) (v := .int (J1 2 10)) dX6_force_21 (ltL hn (Nat.le_of_ble_eq_true rfl)) (cOb_Rg (ρ := 0) (by decide) _) rfl (by decide) in_X2 w_112 rfl (q := 24) rfl ?_
    refine e_nmi (fun v3 => ?_)
    refine e_istore_n C (lv1 := [(2, .int v3), (0, .ref (oA ω 0)), (1, .int a1)]) dX6_force_24 rfl (Nat.le_of_ble_eq_true rfl) rfl (q := 25) rfl ?_
    refine e_aload_n C dX6_force_25 rfl 1 rfl (q := 26) rfl ?_
    refine e_getf C (k := 0) (j := 1) (T := TX6) (N := 10) (v := .ref (oA ω 2)) dX6_force_26 (ltL hn (Nat.le_of_ble_eq_true rfl)) rfl rfl (by decide) in_X6 w_347 rfl (q := 29) rfl ?_
    refine e_iload_n C dX6_force_29 rfl 2 rfl (q := 30) rfl ?_
    refine e_putf C (k := 2) (j := 10) (T := TX2) (N := 11) dX6_force_30 (ltL hn (Nat.le_of_ble_eq_true rfl)) (cOb_Rg (ρ := 0) (by decide) _) rfl (by decide) in_X2 w_112 tyX2_ok nmX2 rfl rfl rfl (show 10 < 11 by decide) (set_Rg_10_ (ρ := 0) (by decide) _) (q := 33) rfl ?_
    refine e_nmM (fun J4 => ?_)
    refine e_iload_n C dX6_force_33 rfl 0 rfl (q := 34) rfl ?_
    exact e_ireturn C dX6_force_34 hret rfl
  · refine e_bipush C dX6_force_14 b8_m2 (q := 16) rfl ?_
    exact e_ireturn C dX6_force_16 hret rfl
set_option maxHeartbeats 4000000 in
set_option maxRecDepth 100000 in
theorem x_X6_isHat {l : Launch} {ω : Om} {a1 : Int32} (hn : 56 ≤ oN ω)  {I : Mem} : CTi l ω yX6_isHat cX6_isHat 2 (some .boolean) 2 [.ref (oA ω 0), .int a1] (f_X6_isHat a1 I) I := by
  refine ct_i (by decide) (Nat.le_of_ble_eq_true rfl) ?_
  intro κ hlau hret C
  refine e_lv [0, 1] (lv1 := [(0, .ref (oA ω 0)), (1, .int a1)]) rfl ?_
  unfold f_X6_isHat
  refine e_iload_n C dX6_isHat_0 rfl 1 rfl (q := 1) rfl ?_
  refine e_iconst C dX6_isHat_1 ic_0 (q := 2) rfl ?_
  refine e_aload_n C dX6_isHat_2 rfl 0 rfl (q := 3) rfl ?_
  refine e_getf C (k := 0) (j := 1) (T := TX6) (N := 10) (v := .ref (oA ω 2)) dX6_isHat_3 (ltL hn (Nat.le_of_ble_eq_true rfl)) rfl rfl (by decide) in_X6 w_347 rfl (q := 6) rfl ?_
  refine e_getf C (k := 2) (j := 8) (T := TX2) (N := 11) (v := .int (I 2 8)) dX6_isHat_6 (ltL hn (Nat.le_of_ble_eq_true rfl)) (cOb_Rg (ρ := 0) (by decide) _) rfl (by decide) in_X2 w_107 rfl (q := 9) rfl ?_
  refine e_iconst C dX6_isHat_9 ic_1 (q := 10) rfl ?_
  refine e_isub C dX6_isHat_10 (q := 11) rfl ?_
  refine e_callSi C (l := l) (av := [.int a1, .int (0 : Int32), .int ((I 2 8) - (1 : Int32))]) (st := []) hlau (x_X6_within (l := l) (ω := ω) (a0 := a1) (a1 := (0 : Int32)) (a2 := (I 2 8) - (1 : Int32)) hn (I := I)) dX6_isHat_11 w_390 w_391 w_56 w_392 md_X6_within (by decide) (by decide) rfl (Nat.le_of_ble_eq_true rfl) (q := 14) rfl (fun v2 J1 => ?_)
  exact e_ireturn_t C dX6_isHat_14 hret rfl rfl
set_option maxHeartbeats 4000000 in
set_option maxRecDepth 100000 in
theorem x_X6_asks {l : Launch} {ω : Om} {a1 : Int32} {a2 : Int32} (hn : 56 ≤ oN ω)  {I : Mem} : CTi l ω yX6_asks cX6_asks 3 (some .int) 4 [.ref (oA ω 0), .int a1, .int a2] (f_X6_asks a1 a2 I) I := by
  refine ct_i (by decide) (Nat.le_of_ble_eq_true rfl) ?_
  intro κ hlau hret C
  refine e_lv [0, 1, 2] (lv1 := [(0, .ref (oA ω 0)), (1, .int a1), (2, .int a2)]) rfl ?_
  unfold f_X6_asks
  refine e_iload_n C dX6_asks_0 rfl 1 rfl (q := 1) rfl ?_
  refine e_iconst C dX6_asks_1 ic_0 (q := 2) rfl ?_
  refine e_iconst C dX6_asks_2 ic_2 (q := 3) rfl ?_
  refine e_callSi C (l := l) (av := [.int a1, .int (0 : Int32), .int (2 : Int32)]) (st := []) hlau (x_X6_within (l := l) (ω := ω) (a0 := a1) (a1 := (0 : Int32)) (a2 := (2 : Int32)) hn (I := I)) dX6_asks_3 w_390 w_391 w_56 w_392 md_X6_within (by decide) (by decide) rfl (Nat.le_of_ble_eq_true rfl) (q := 6) rfl (fun v2 J1 => ?_)
  refine e_ifeq C (tgt := 41) (q := 9) dX6_asks_6 rfl rfl ?_ ?_
  · refine e_sipush C dX6_asks_41 b16_m1000 (q := 44) rfl ?_
    exact e_ireturn C dX6_asks_44 hret rfl
  · refine e_aload_n C dX6_asks_9 rfl 0 rfl (q := 10) rfl ?_
    refine e_iload_n C dX6_asks_10 rfl 2 rfl (q := 11) rfl ?_
    refine e_callVi C (l := l) (k := 0) (av := [.int a2]) (st := []) hlau (x_X6_isHat (l := l) (ω := ω) (a1 := a2) hn (I := J1)) dX6_asks_11 w_408 w_410 w_12 w_56 w_411 md_X6_isHat (by decide) (by decide) rfl (ltL hn (Nat.le_of_ble_eq_true rfl)) rfl rfl (Nat.le_of_ble_eq_true rfl) (q := 14) rfl (fun v4 J3 => ?_)
    refine e_ifeq C (tgt := 41) (q := 17) dX6_asks_14 rfl rfl ?_ ?_
    · refine e_sipush C dX6_asks_41 b16_m1000 (q := 44) rfl ?_
      exact e_ireturn C dX6_asks_44 hret rfl
    · refine e_aload_n C dX6_asks_17 rfl 0 rfl (q := 18) rfl ?_
      refine e_getf C (k := 0) (j := 0) (T := TX6) (N := 10) (v := .ref (oA ω 1)) dX6_asks_18 (ltL hn (Nat.le_of_ble_eq_true rfl)) rfl rfl (by decide) in_X6 w_346 rfl (q := 21) rfl ?_
      refine e_aload_n C dX6_asks_21 rfl 0 rfl (q := 22) rfl ?_
      refine e_getf C (k := 0) (j := 1) (T := TX6) (N := 10) (v := .ref (oA ω 2)) dX6_asks_22 (ltL hn (Nat.le_of_ble_eq_true rfl)) rfl rfl (by decide) in_X6 w_347 rfl (q := 25) rfl ?_
      refine e_getf C (k := 2) (j := 10) (T := TX2) (N := 11) (v := .int (J3 2 10)) dX6_asks_25 (ltL hn (Nat.le_of_ble_eq_true rfl)) (cOb_Rg (ρ := 0) (by decide) _) rfl (by decide) in_X2 w_112 rfl (q := 28) rfl ?_
      refine e_nmi (fun v5 => ?_)
      refine e_aldT1 C hn dX6_asks_28 (q := 29) rfl (fun h6 => ?_)
      refine e_iload_n C dX6_asks_29 rfl 1 rfl (q := 30) rfl ?_
      refine e_aload_n C dX6_asks_30 rfl 0 rfl (q := 31) rfl ?_
      refine e_getf C (k := 0) (j := 1) (T := TX6) (N := 10) (v := .ref (oA ω 2)) dX6_asks_31 (ltL hn (Nat.le_of_ble_eq_true rfl)) rfl rfl (by decide) in_X6 w_347 rfl (q := 34) rfl ?_
      refine e_iload_n C dX6_asks_34 rfl 2 rfl (q := 35) rfl ?_
      refine e_callVi C (l := l) (k := (30 + 3 * v5.toNatClampNeg)) (av := [.int a1, .ref (oA ω 2), .int a2]) (st := []) hlau (x_X4_says (l := l) (ω := ω) (τ := v5.toNatClampNeg) (a1 := a1) (r2 := 0) (a3 := a2) hn h6 (by decide) (I := J3)) dX6_asks_35 w_412 w_413 w_414 w_59 w_415 md_X4_says (by decide) (by decide) rfl (ltTx hn h6) (cOb_Tx (τ := v5.toNatClampNeg) h6 _) rfl (Nat.le_of_ble_eq_true rfl) (q := 38) rfl (fun v8 J7 => ?_)
      refine e_goto C (tgt := 44) dX6_asks_38 rfl ?_
      exact e_ireturn C dX6_asks_44 hret rfl
set_option maxHeartbeats 4000000 in
set_option maxRecDepth 100000 in
theorem x_X6_hat {l : Launch} {ω : Om} {a1 : Int32} {a2 : Int32} {a3 : Int32} (hn : 56 ≤ oN ω)  {I : Mem} : CTi l ω yX6_hat cX6_hat 4 (some .int) 2 [.ref (oA ω 0), .int a1, .int a2, .int a3] (f_X6_hat a1 a2 a3 I) I := by
  refine ct_i (by decide) (Nat.le_of_ble_eq_true rfl) ?_
  intro κ hlau hret C
  refine e_lv [0, 1, 2, 3] (lv1 := [(0, .ref (oA ω 0)), (1, .int a1), (2, .int a2), (3, .int a3)]) rfl ?_
  unfold f_X6_hat
  refine e_iload_n C dX6_hat_0 rfl 1 rfl (q := 1) rfl ?_
  refine e_iconst C dX6_hat_1 ic_0 (q := 2) rfl ?_
  refine e_bipush C dX6_hat_2 b8_59 (q := 4) rfl ?_
  refine e_callSi C (l := l) (av := [.int a1, .int (0 : Int32), .int (59 : Int32)]) (st := []) hlau (x_X6_within (l := l) (ω := ω) (a0 := a1) (a1 := (0 : Int32)) (a2 := (59 : Int32)) hn (I := I)) dX6_hat_4 w_390 w_391 w_56 w_392 md_X6_within (by decide) (by decide) rfl (Nat.le_of_ble_eq_true rfl) (q := 7) rfl (fun v2 J1 => ?_)
  refine e_ifeq C (tgt := 31) (q := 10) dX6_hat_7 rfl rfl ?_ ?_
  · refine e_bipush C dX6_hat_31 b8_m2 (q := 33) rfl ?_
    exact e_ireturn C dX6_hat_33 hret rfl
  · refine e_iload_n C dX6_hat_10 rfl 2 rfl (q := 11) rfl ?_
    refine e_iconst C dX6_hat_11 ic_0 (q := 12) rfl ?_
    refine e_bipush C dX6_hat_12 b8_63 (q := 14) rfl ?_
    refine e_callSi C (l := l) (av := [.int a2, .int (0 : Int32), .int (63 : Int32)]) (st := []) hlau (x_X6_within (l := l) (ω := ω) (a0 := a2) (a1 := (0 : Int32)) (a2 := (63 : Int32)) hn (I := J1)) dX6_hat_14 w_390 w_391 w_56 w_392 md_X6_within (by decide) (by decide) rfl (Nat.le_of_ble_eq_true rfl) (q := 17) rfl (fun v4 J3 => ?_)
    refine e_ifeq C (tgt := 31) (q := 20) dX6_hat_17 rfl rfl ?_ ?_
    · refine e_bipush C dX6_hat_31 b8_m2 (q := 33) rfl ?_
      exact e_ireturn C dX6_hat_33 hret rfl
    · refine e_iload_n C dX6_hat_20 rfl 3 rfl (q := 21) rfl ?_
      refine e_iconst C dX6_hat_21 ic_0 (q := 22) rfl ?_
      refine e_sipush C dX6_hat_22 b16_9999 (q := 25) rfl ?_
      refine e_callSi C (l := l) (av := [.int a3, .int (0 : Int32), .int (9999 : Int32)]) (st := []) hlau (x_X6_within (l := l) (ω := ω) (a0 := a3) (a1 := (0 : Int32)) (a2 := (9999 : Int32)) hn (I := J3)) dX6_hat_25 w_390 w_391 w_56 w_392 md_X6_within (by decide) (by decide) rfl (Nat.le_of_ble_eq_true rfl) (q := 28) rfl (fun v6 J5 => ?_)
      refine e_ifne C (tgt := 34) (q := 31) dX6_hat_28 rfl rfl ?_ ?_
      · refine e_aload_n C dX6_hat_34 rfl 0 rfl (q := 35) rfl ?_
        refine e_getf C (k := 0) (j := 1) (T := TX6) (N := 10) (v := .ref (oA ω 2)) dX6_hat_35 (ltL hn (Nat.le_of_ble_eq_true rfl)) rfl rfl (by decide) in_X6 w_347 rfl (q := 38) rfl ?_
        refine e_getf C (k := 2) (j := 8) (T := TX2) (N := 11) (v := .int (J5 2 8)) dX6_hat_38 (ltL hn (Nat.le_of_ble_eq_true rfl)) (cOb_Rg (ρ := 0) (by decide) _) rfl (by decide) in_X2 w_107 rfl (q := 41) rfl ?_
        refine e_bipush C dX6_hat_41 b8_6 (q := 43) rfl ?_
        refine e_icmplt C (tgt := 49) (q := 46) dX6_hat_43 rfl rfl ?_ ?_
        · refine e_aload_n C dX6_hat_49 rfl 0 rfl (q := 50) rfl ?_
          refine e_getf C (k := 0) (j := 1) (T := TX6) (N := 10) (v := .ref (oA ω 2)) dX6_hat_50 (ltL hn (Nat.le_of_ble_eq_true rfl)) rfl rfl (by decide) in_X6 w_347 rfl (q := 53) rfl ?_
          refine e_iload_n C dX6_hat_53 rfl 1 rfl (q := 54) rfl ?_
          refine e_iload_n C dX6_hat_54 rfl 2 rfl (q := 55) rfl ?_
          refine e_iload_n C dX6_hat_55 rfl 3 rfl (q := 56) rfl ?_
          refine e_callVv C (l := l) (k := 2) (av := [.int a1, .int a2, .int a3]) (st := []) hlau (x_X2_add (l := l) (ω := ω) (ρ := 0) (a1 := a1) (a2 := a2) (a3 := a3) hn (by decide) (I := J5)) dX6_hat_56 w_432 w_433 w_434 w_57 w_435 md_X2_add (by decide) (by decide) rfl (ltL hn (Nat.le_of_ble_eq_true rfl)) (cOb_Rg (ρ := 0) (by decide) _) rfl (Nat.le_of_ble_eq_true rfl) (q := 59) rfl (fun _ J7 => ?_)
          refine e_aload_n C dX6_hat_59 rfl 0 rfl (q := 60) rfl ?_
          refine e_getf C (k := 0) (j := 1) (T := TX6) (N := 10) (v := .ref (oA ω 2)) dX6_hat_60 (ltL hn (Nat.le_of_ble_eq_true rfl)) rfl rfl (by decide) in_X6 w_347 rfl (q := 63) rfl ?_
          refine e_getf C (k := 2) (j := 8) (T := TX2) (N := 11) (v := .int (J7 2 8)) dX6_hat_63 (ltL hn (Nat.le_of_ble_eq_true rfl)) (cOb_Rg (ρ := 0) (by decide) _) rfl (by decide) in_X2 w_107 rfl (q := 66) rfl ?_
          refine e_iconst C dX6_hat_66 ic_1 (q := 67) rfl ?_
          refine e_isub C dX6_hat_67 (q := 68) rfl ?_
          exact e_ireturn C dX6_hat_68 hret rfl
        · refine e_bipush C dX6_hat_46 b8_m4 (q := 48) rfl ?_
          exact e_ireturn C dX6_hat_48 hret rfl
      · refine e_bipush C dX6_hat_31 b8_m2 (q := 33) rfl ?_
        exact e_ireturn C dX6_hat_33 hret rfl
set_option maxHeartbeats 4000000 in
set_option maxRecDepth 100000 in
theorem xb_X6_put_b39 {l : Launch} {κ : Kx} {ω : Om} {a1 : Int32} {a2 : Int32} {a3 : Int32} (C : CX κ ω cX6_put 6 3 yX6_put.cls) (hlau : κ.2.1 = l) (hret : κ.2.2.2.2.2.2.2.2.1.sig.returnType = (some .int)) (hn : 56 ≤ oN ω)  : ∀ (x4 : Nat) (s0 : Int32) (s1 : Int32) (s2 : Int32) (I : Mem) (hx4 : okA x4 = true), EE κ ω 6 (Gi κ ω) (f_X6_put_b39 a1 a2 a3 x4 s0 s1 s2 I) I 39 [(4, .ref (oA ω x4)), (1, .int a1), (3, .int a3)] [.int s0, .int s1, .int s2] := by
  intro x4 s0 s1 s2 I hx4
  unfold f_X6_put_b39
  refine e_callSi C (l := l) (av := [.int s2, .int s1, .int s0]) (st := []) hlau (x_X6_within (l := l) (ω := ω) (a0 := s2) (a1 := s1) (a2 := s0) hn (I := I)) dX6_put_39 w_390 w_391 w_56 w_392 md_X6_within (by decide) (by decide) rfl (Nat.le_of_ble_eq_true rfl) (q := 42) rfl (fun v8 J7 => ?_)
  refine e_ifne C (tgt := 48) (q := 45) dX6_put_42 rfl rfl ?_ ?_
  · refine e_aload C dX6_put_48 0 rfl (q := 50) rfl ?_
    refine e_iload_n C dX6_put_50 rfl 1 rfl (q := 51) rfl ?_
    refine e_iald C (k := x4) (n := 6) dX6_put_51 (isArr_okA hn hx4).1 ((isArr_okA hn hx4).2 _) (q := 52) rfl ?_
    refine e_nmi (fun v9 => ?_)
    refine e_istore C (lv1 := [(5, .int v9), (4, .ref (oA ω x4)), (1, .int a1), (3, .int a3)]) dX6_put_52 (Nat.le_of_ble_eq_true rfl) rfl (q := 54) rfl ?_
    refine e_aload C dX6_put_54 1 rfl (q := 56) rfl ?_
    refine e_iload_n C dX6_put_56 rfl 2 rfl (q := 57) rfl ?_
    refine e_iload_n C dX6_put_57 rfl 3 rfl (q := 58) rfl ?_
    refine e_iast C (k := x4) (n := 6) dX6_put_58 (isArr_okA hn hx4).1 (isArr_okA hn hx4).2 (q := 59) rfl ?_
    refine e_nmM (fun J10 => ?_)
    refine e_iload C dX6_put_59 0 rfl (q := 61) rfl ?_
    exact e_ireturn C dX6_put_61 hret rfl
  · refine e_bipush C dX6_put_45 b8_m7 (q := 47) rfl ?_
    exact e_ireturn C dX6_put_47 hret rfl
set_option maxHeartbeats 4000000 in
set_option maxRecDepth 100000 in
theorem x_X6_put {l : Launch} {ω : Om} {a1 : Int32} {a2 : Int32} {a3 : Int32} (hn : 56 ≤ oN ω)  {I : Mem} : CTi l ω yX6_put cX6_put 6 (some .int) 3 [.ref (oA ω 0), .int a1, .int a2, .int a3] (f_X6_put a1 a2 a3 I) I := by
  refine ct_i (by decide) (Nat.le_of_ble_eq_true rfl) ?_
  intro κ hlau hret C
  refine e_lv [0, 1, 2, 3] (lv1 := [(0, .ref (oA ω 0)), (1, .int a1), (2, .int a2), (3, .int a3)]) rfl ?_
  unfold f_X6_put
  refine e_aload_n C dX6_put_0 rfl 0 rfl (q := 1) rfl ?_
  refine e_iload_n C dX6_put_1 rfl 1 rfl (q := 2) rfl ?_
  refine e_callVi C (l := l) (k := 0) (av := [.int a1]) (st := []) hlau (x_X6_isHat (l := l) (ω := ω) (a1 := a1) hn (I := I)) dX6_put_2 w_408 w_410 w_12 w_56 w_411 md_X6_isHat (by decide) (by decide) rfl (ltL hn (Nat.le_of_ble_eq_true rfl)) rfl rfl (Nat.le_of_ble_eq_true rfl) (q := 5) rfl (fun v2 J1 => ?_)
  refine e_ifne C (tgt := 11) (q := 8) dX6_put_5 rfl rfl ?_ ?_
  · refine e_aload_n C dX6_put_11 rfl 0 rfl (q := 12) rfl ?_
    refine e_getf C (k := 0) (j := 1) (T := TX6) (N := 10) (v := .ref (oA ω 2)) dX6_put_12 (ltL hn (Nat.le_of_ble_eq_true rfl)) rfl rfl (by decide) in_X6 w_347 rfl (q := 15) rfl ?_
    refine e_iload_n C dX6_put_15 rfl 2 rfl (q := 16) rfl ?_
    refine e_callVq C (l := l) (k := 2) (av := [.int a2]) (st := []) hlau (x_X2_rowOf (l := l) (ω := ω) (ρ := 0) (a1 := a2) hn (by decide) (I := J1)) dX6_put_16 w_440 w_441 w_442 w_57 w_443 md_X2_rowOf (by decide) (by decide) rfl (ltL hn (Nat.le_of_ble_eq_true rfl)) (cOb_Rg (ρ := 0) (by decide) _) rfl (Nat.le_of_ble_eq_true rfl) (q := 19) rfl (fun v4 J3 => ?_)
    refine e_om ?_ (fun k5 h6 => ?_)
    · refine e_astoreN C (lv1 := [(4, .null), (0, .ref (oA ω 0)), (1, .int a1), (2, .int a2), (3, .int a3)]) dX6_put_19 (Nat.le_of_ble_eq_true rfl) rfl (q := 21) rfl ?_
      refine e_aloadN C dX6_put_21 0 rfl (q := 23) rfl ?_
      refine e_ifnullN C (tgt := 45) dX6_put_23 rfl ?_
      refine e_bipush C dX6_put_45 b8_m7 (q := 47) rfl ?_
      exact e_ireturn C dX6_put_47 hret rfl
    · refine e_astore C (lv1 := [(4, .ref (oA ω k5)), (0, .ref (oA ω 0)), (1, .int a1), (2, .int a2), (3, .int a3)]) dX6_put_19 (Nat.le_of_ble_eq_true rfl) rfl (q := 21) rfl ?_
      refine e_aload C dX6_put_21 0 rfl (q := 23) rfl ?_
      refine e_ifnull C dX6_put_23 (q := 26) rfl ?_
      refine e_iload_n C dX6_put_26 rfl 4 rfl (q := 27) rfl ?_
      refine e_iconst C dX6_put_27 ic_0 (q := 28) rfl ?_
      refine e_iload_n C dX6_put_28 rfl 3 rfl (q := 29) rfl ?_
      refine e_ifne C (tgt := 37) (q := 32) dX6_put_29 rfl rfl ?_ ?_
      · refine e_bipush C dX6_put_37 b8_99 (q := 39) rfl ?_
        exact e_lv [0, 2, 4] (lv1 := [(4, .ref (oA ω k5)), (1, .int a1), (3, .int a3)]) rfl (xb_X6_put_b39 C hlau hret hn k5 (99 : Int32) (0 : Int32) a3 _ h6)
      · refine e_bipush C dX6_put_32 b8_63 (q := 34) rfl ?_
        refine e_goto C (tgt := 39) dX6_put_34 rfl ?_
        exact e_lv [0, 2, 4] (lv1 := [(4, .ref (oA ω k5)), (1, .int a1), (3, .int a3)]) rfl (xb_X6_put_b39 C hlau hret hn k5 (63 : Int32) (0 : Int32) a3 _ h6)
  · refine e_bipush C dX6_put_8 b8_m5 (q := 10) rfl ?_
    exact e_ireturn C dX6_put_10 hret rfl
