/-! WALKS, written by program (wip/gen) -/
set_option maxHeartbeats 4000000 in
set_option maxRecDepth 100000 in
theorem xb_X7_copy_b173 {l : Launch} {κ : Kx} {ω : Om} {a1 : Int32} {a2 : Int32} {a3 : Int32} {a4 : Int32} {a5 : Int32} (C : CX κ ω cX7_copy 10 2 yX7_copy.cls) (hlau : κ.2.1 = l) (hret : κ.2.2.2.2.2.2.2.2.1.sig.returnType = (some .int)) (hn : 75 ≤ oN ω)  {K147 : Int32 → Int32 → Int32 → Mem → Option (Int32 × Mem)} (hK147 : ∀ (x8 : Int32) (x7 : Int32) (x6 : Int32) (J : Mem), EE κ ω 10 (Gi κ ω) (K147 x8 x7 x6 J) J 147 [(8, .int x8), (7, .int x7), (6, .int x6), (0, .ref (oA ω 56)), (5, .int a5)] []) : ∀ (x8 : Int32) (x7 : Int32) (x6 : Int32) (s0 : Int32) (I : Mem), EE κ ω 10 (Gi κ ω) (f_X7_copy_b173 a1 a2 a3 a4 a5 K147 x8 x7 x6 s0 I) I 173 [(8, .int x8), (7, .int x7), (6, .int x6), (0, .ref (oA ω 56)), (5, .int a5)] [.int s0] := by
  intro x8 x7 x6 s0 I
  unfold f_X7_copy_b173
  refine e_istore C (lv1 := [(9, .int s0), (8, .int x8), (7, .int x7), (6, .int x6), (0, .ref (oA ω 56)), (5, .int a5)]) dX7_copy_173 (Nat.le_of_ble_eq_true rfl) rfl (q := 175) rfl ?_
  refine e_aload_n C dX7_copy_175 rfl 4 rfl (q := 176) rfl ?_
  refine e_getf C (k := 56) (j := 17) (T := TX7) (N := 32) (v := .ref (oA ω 68)) dX7_copy_176 (ltL hn (Nat.le_of_ble_eq_true rfl)) rfl rfl (by decide) in_X7 w_779 rfl (q := 179) rfl ?_
  refine e_iload C dX7_copy_179 2 rfl (q := 181) rfl ?_
  refine e_iload C dX7_copy_181 0 rfl (q := 183) rfl ?_
  refine e_iadd C dX7_copy_183 (q := 184) rfl ?_
  refine e_aload_n C dX7_copy_184 rfl 4 rfl (q := 185) rfl ?_
  refine e_getf C (k := 56) (j := 17) (T := TX7) (N := 32) (v := .ref (oA ω 68)) dX7_copy_185 (ltL hn (Nat.le_of_ble_eq_true rfl)) rfl rfl (by decide) in_X7 w_779 rfl (q := 188) rfl ?_
  refine e_iload C dX7_copy_188 3 rfl (q := 190) rfl ?_
  refine e_iload C dX7_copy_190 0 rfl (q := 192) rfl ?_
  refine e_iadd C dX7_copy_192 (q := 193) rfl ?_
  refine e_iald C (k := 68) (n := 160) dX7_copy_193 (ltL hn (Nat.le_of_ble_eq_true rfl)) rfl (q := 194) rfl ?_
  refine e_iast C (k := 68) (n := 160) dX7_copy_194 (ltL hn (Nat.le_of_ble_eq_true rfl)) (fun _ => rfl) (q := 195) rfl ?_
  refine e_nmM (fun J7 => ?_)
  refine e_iinc C (v := x8 + (1 : Int32)) (lv1 := [(8, .int (x8 + (1 : Int32))), (9, .int s0), (7, .int x7), (6, .int x6), (0, .ref (oA ω 56)), (5, .int a5)]) dX7_copy_195 1 rfl (Nat.le_of_ble_eq_true rfl) (by rw [ic_1]) rfl (q := 198) rfl ?_
  refine e_goto C (tgt := 147) dX7_copy_198 rfl ?_
  exact e_lv [0, 2, 3, 4, 5] (lv1 := [(8, .int (x8 + (1 : Int32))), (7, .int x7), (6, .int x6), (0, .ref (oA ω 56)), (5, .int a5)]) rfl (hK147 (x8 + (1 : Int32)) x7 x6 _)
set_option maxHeartbeats 4000000 in
set_option maxRecDepth 100000 in
theorem xb_X7_copy_b147 {l : Launch} {κ : Kx} {ω : Om} {a1 : Int32} {a2 : Int32} {a3 : Int32} {a4 : Int32} {a5 : Int32} (C : CX κ ω cX7_copy 10 2 yX7_copy.cls) (hlau : κ.2.1 = l) (hret : κ.2.2.2.2.2.2.2.2.1.sig.returnType = (some .int)) (hn : 75 ≤ oN ω)  : ∀ (n : Nat) (x8 : Int32) (x7 : Int32) (x6 : Int32) (I : Mem), EE κ ω 10 (Gi κ ω) (f_X7_copy_b147 a1 a2 a3 a4 a5 n x8 x7 x6 I) I 147 [(8, .int x8), (7, .int x7), (6, .int x6), (0, .ref (oA ω 56)), (5, .int a5)] [] := by
  intro n
  induction n with
  | zero => intro x8 x7 x6 I; exact e_none
  | succ n ih =>
    intro x8 x7 x6 I
    rw [f_X7_copy_b147]
    refine e_iload C dX7_copy_147 0 rfl (q := 149) rfl ?_
    refine e_iload C dX7_copy_149 4 rfl (q := 151) rfl ?_
    refine e_icmpge C (tgt := 201) (q := 154) dX7_copy_151 rfl rfl ?_ ?_
    · refine e_iload C dX7_copy_201 4 rfl (q := 203) rfl ?_
      exact e_ireturn C dX7_copy_203 hret rfl
    · refine e_iload C dX7_copy_154 2 rfl (q := 156) rfl ?_
      refine e_iload C dX7_copy_156 1 rfl (q := 158) rfl ?_
      refine e_icmpge C (tgt := 171) (q := 161) dX7_copy_158 rfl rfl ?_ ?_
      · refine e_iload C dX7_copy_171 0 rfl (q := 173) rfl ?_
        exact xb_X7_copy_b173 C hlau hret hn ih x8 x7 x6 x8 _
      · refine e_iload C dX7_copy_161 4 rfl (q := 163) rfl ?_
        refine e_iconst C dX7_copy_163 ic_1 (q := 164) rfl ?_
        refine e_isub C dX7_copy_164 (q := 165) rfl ?_
        refine e_iload C dX7_copy_165 0 rfl (q := 167) rfl ?_
        refine e_isub C dX7_copy_167 (q := 168) rfl ?_
        refine e_goto C (tgt := 173) dX7_copy_168 rfl ?_
        exact xb_X7_copy_b173 C hlau hret hn ih x8 x7 x6 ((a5 - (1 : Int32)) - x8) _
set_option maxHeartbeats 4000000 in
set_option maxRecDepth 100000 in
theorem x_X7_copy {l : Launch} {ω : Om} {a1 : Int32} {a2 : Int32} {a3 : Int32} {a4 : Int32} {a5 : Int32} (hn : 75 ≤ oN ω)  {I : Mem} : CTi l ω yX7_copy cX7_copy 10 (some .int) 2 [.ref (oA ω 56), .int a1, .int a2, .int a3, .int a4, .int a5] (f_X7_copy a1 a2 a3 a4 a5 I) I := by
  refine ct_i (by decide) (Nat.le_of_ble_eq_true rfl) ?_
  intro κ hlau hret C
  refine e_lv [0, 1, 2, 3, 4, 5] (lv1 := [(0, .ref (oA ω 56)), (1, .int a1), (2, .int a2), (3, .int a3), (4, .int a4), (5, .int a5)]) rfl ?_
  unfold f_X7_copy
  refine e_iload_n C dX7_copy_0 rfl 1 rfl (q := 1) rfl ?_
  refine e_iconst C dX7_copy_1 ic_0 (q := 2) rfl ?_
  refine e_iconst C dX7_copy_2 ic_3 (q := 3) rfl ?_
  refine e_callSi C (l := l) (av := [.int a1, .int (0 : Int32), .int (3 : Int32)]) (st := []) hlau (x_X7_in (l := l) (ω := ω) (a0 := a1) (a1 := (0 : Int32)) (a2 := (3 : Int32)) hn (I := I)) dX7_copy_3 w_723 w_724 w_67 w_725 md_X7_in (by decide) (by decide) rfl (Nat.le_of_ble_eq_true rfl) (q := 6) rfl (fun v2 J1 => ?_)
  refine e_ifeq C (tgt := 18) (q := 9) dX7_copy_6 rfl rfl ?_ ?_
  · refine e_bipush C dX7_copy_18 b8_m2 (q := 20) rfl ?_
    exact e_ireturn C dX7_copy_20 hret rfl
  · refine e_iload_n C dX7_copy_9 rfl 3 rfl (q := 10) rfl ?_
    refine e_iconst C dX7_copy_10 ic_0 (q := 11) rfl ?_
    refine e_iconst C dX7_copy_11 ic_3 (q := 12) rfl ?_
    refine e_callSi C (l := l) (av := [.int a3, .int (0 : Int32), .int (3 : Int32)]) (st := []) hlau (x_X7_in (l := l) (ω := ω) (a0 := a3) (a1 := (0 : Int32)) (a2 := (3 : Int32)) hn (I := J1)) dX7_copy_12 w_723 w_724 w_67 w_725 md_X7_in (by decide) (by decide) rfl (Nat.le_of_ble_eq_true rfl) (q := 15) rfl (fun v4 J3 => ?_)
    refine e_ifne C (tgt := 21) (q := 18) dX7_copy_15 rfl rfl ?_ ?_
    · refine e_aload_n C dX7_copy_21 rfl 0 rfl (q := 22) rfl ?_
      refine e_getf C (k := 56) (j := 15) (T := TX7) (N := 32) (v := .ref (oA ω 66)) dX7_copy_22 (ltL hn (Nat.le_of_ble_eq_true rfl)) rfl rfl (by decide) in_X7 w_777 rfl (q := 25) rfl ?_
      refine e_iload_n C dX7_copy_25 rfl 1 rfl (q := 26) rfl ?_
      refine e_iald C (k := 66) (n := 4) dX7_copy_26 (ltL hn (Nat.le_of_ble_eq_true rfl)) rfl (q := 27) rfl ?_
      refine e_iconst C dX7_copy_27 ic_m1 (q := 28) rfl ?_
      refine e_icmpeq C (tgt := 41) (q := 31) dX7_copy_28 rfl rfl ?_ ?_
      · refine e_bipush C dX7_copy_41 b8_m11 (q := 43) rfl ?_
        exact e_ireturn C dX7_copy_43 hret rfl
      · refine e_aload_n C dX7_copy_31 rfl 0 rfl (q := 32) rfl ?_
        refine e_getf C (k := 56) (j := 15) (T := TX7) (N := 32) (v := .ref (oA ω 66)) dX7_copy_32 (ltL hn (Nat.le_of_ble_eq_true rfl)) rfl rfl (by decide) in_X7 w_777 rfl (q := 35) rfl ?_
        refine e_iload_n C dX7_copy_35 rfl 3 rfl (q := 36) rfl ?_
        refine e_iald C (k := 66) (n := 4) dX7_copy_36 (ltL hn (Nat.le_of_ble_eq_true rfl)) rfl (q := 37) rfl ?_
        refine e_iconst C dX7_copy_37 ic_m1 (q := 38) rfl ?_
        refine e_icmpne C (tgt := 44) (q := 41) dX7_copy_38 rfl rfl ?_ ?_
        · refine e_aload_n C dX7_copy_44 rfl 0 rfl (q := 45) rfl ?_
          refine e_getf C (k := 56) (j := 15) (T := TX7) (N := 32) (v := .ref (oA ω 66)) dX7_copy_45 (ltL hn (Nat.le_of_ble_eq_true rfl)) rfl rfl (by decide) in_X7 w_777 rfl (q := 48) rfl ?_
          refine e_iload_n C dX7_copy_48 rfl 1 rfl (q := 49) rfl ?_
          refine e_iald C (k := 66) (n := 4) dX7_copy_49 (ltL hn (Nat.le_of_ble_eq_true rfl)) rfl (q := 50) rfl ?_
          refine e_aload_n C dX7_copy_50 rfl 0 rfl (q := 51) rfl ?_
          refine e_getf C (k := 56) (j := 15) (T := TX7) (N := 32) (v := .ref (oA ω 66)) dX7_copy_51 (ltL hn (Nat.le_of_ble_eq_true rfl)) rfl rfl (by decide) in_X7 w_777 rfl (q := 54) rfl ?_
          refine e_iload_n C dX7_copy_54 rfl 3 rfl (q := 55) rfl ?_
          refine e_iald C (k := 66) (n := 4) dX7_copy_55 (ltL hn (Nat.le_of_ble_eq_true rfl)) rfl (q := 56) rfl ?_
          refine e_icmpeq C (tgt := 62) (q := 59) dX7_copy_56 rfl rfl ?_ ?_
          · refine e_iload C dX7_copy_62 5 rfl (q := 64) rfl ?_
            refine e_iflt C (tgt := 124) (q := 67) dX7_copy_64 rfl rfl ?_ ?_
            · refine e_bipush C dX7_copy_124 b8_m12 (q := 126) rfl ?_
              exact e_ireturn C dX7_copy_126 hret rfl
            · refine e_iload_n C dX7_copy_67 rfl 2 rfl (q := 68) rfl ?_
              refine e_iflt C (tgt := 124) (q := 71) dX7_copy_68 rfl rfl ?_ ?_
              · refine e_bipush C dX7_copy_124 b8_m12 (q := 126) rfl ?_
                exact e_ireturn C dX7_copy_126 hret rfl
              · refine e_iload C dX7_copy_71 4 rfl (q := 73) rfl ?_
                refine e_iflt C (tgt := 124) (q := 76) dX7_copy_73 rfl rfl ?_ ?_
                · refine e_bipush C dX7_copy_124 b8_m12 (q := 126) rfl ?_
                  exact e_ireturn C dX7_copy_126 hret rfl
                · refine e_iload_n C dX7_copy_76 rfl 2 rfl (q := 77) rfl ?_
                  refine e_aload_n C dX7_copy_77 rfl 0 rfl (q := 78) rfl ?_
                  refine e_getf C (k := 56) (j := 16) (T := TX7) (N := 32) (v := .ref (oA ω 67)) dX7_copy_78 (ltL hn (Nat.le_of_ble_eq_true rfl)) rfl rfl (by decide) in_X7 w_778 rfl (q := 81) rfl ?_
                  refine e_iload_n C dX7_copy_81 rfl 1 rfl (q := 82) rfl ?_
                  refine e_iald C (k := 67) (n := 4) dX7_copy_82 (ltL hn (Nat.le_of_ble_eq_true rfl)) rfl (q := 83) rfl ?_
                  refine e_icmpgt C (tgt := 124) (q := 86) dX7_copy_83 rfl rfl ?_ ?_
                  · refine e_bipush C dX7_copy_124 b8_m12 (q := 126) rfl ?_
                    exact e_ireturn C dX7_copy_126 hret rfl
                  · refine e_iload C dX7_copy_86 4 rfl (q := 88) rfl ?_
                    refine e_aload_n C dX7_copy_88 rfl 0 rfl (q := 89) rfl ?_
                    refine e_getf C (k := 56) (j := 16) (T := TX7) (N := 32) (v := .ref (oA ω 67)) dX7_copy_89 (ltL hn (Nat.le_of_ble_eq_true rfl)) rfl rfl (by decide) in_X7 w_778 rfl (q := 92) rfl ?_
                    refine e_iload_n C dX7_copy_92 rfl 3 rfl (q := 93) rfl ?_
                    refine e_iald C (k := 67) (n := 4) dX7_copy_93 (ltL hn (Nat.le_of_ble_eq_true rfl)) rfl (q := 94) rfl ?_
                    refine e_icmpgt C (tgt := 124) (q := 97) dX7_copy_94 rfl rfl ?_ ?_
                    · refine e_bipush C dX7_copy_124 b8_m12 (q := 126) rfl ?_
                      exact e_ireturn C dX7_copy_126 hret rfl
                    · refine e_iload C dX7_copy_97 5 rfl (q := 99) rfl ?_
                      refine e_aload_n C dX7_copy_99 rfl 0 rfl (q := 100) rfl ?_
                      refine e_getf C (k := 56) (j := 16) (T := TX7) (N := 32) (v := .ref (oA ω 67)) dX7_copy_100 (ltL hn (Nat.le_of_ble_eq_true rfl)) rfl rfl (by decide) in_X7 w_778 rfl (q := 103) rfl ?_
                      refine e_iload_n C dX7_copy_103 rfl 1 rfl (q := 104) rfl ?_
                      refine e_iald C (k := 67) (n := 4) dX7_copy_104 (ltL hn (Nat.le_of_ble_eq_true rfl)) rfl (q := 105) rfl ?_
                      refine e_iload_n C dX7_copy_105 rfl 2 rfl (q := 106) rfl ?_
                      refine e_isub C dX7_copy_106 (q := 107) rfl ?_
                      refine e_icmpgt C (tgt := 124) (q := 110) dX7_copy_107 rfl rfl ?_ ?_
                      · refine e_bipush C dX7_copy_124 b8_m12 (q := 126) rfl ?_
                        exact e_ireturn C dX7_copy_126 hret rfl
                      · refine e_iload C dX7_copy_110 5 rfl (q := 112) rfl ?_
                        refine e_aload_n C dX7_copy_112 rfl 0 rfl (q := 113) rfl ?_
                        refine e_getf C (k := 56) (j := 16) (T := TX7) (N := 32) (v := .ref (oA ω 67)) dX7_copy_113 (ltL hn (Nat.le_of_ble_eq_true rfl)) rfl rfl (by decide) in_X7 w_778 rfl (q := 116) rfl ?_
                        refine e_iload_n C dX7_copy_116 rfl 3 rfl (q := 117) rfl ?_
                        refine e_iald C (k := 67) (n := 4) dX7_copy_117 (ltL hn (Nat.le_of_ble_eq_true rfl)) rfl (q := 118) rfl ?_
                        refine e_iload C dX7_copy_118 4 rfl (q := 120) rfl ?_
                        refine e_isub C dX7_copy_120 (q := 121) rfl ?_
                        refine e_icmple C (tgt := 127) (q := 124) dX7_copy_121 rfl rfl ?_ ?_
                        · refine e_bipush C dX7_copy_127 b8_40 (q := 129) rfl ?_
                          refine e_iload_n C dX7_copy_129 rfl 1 rfl (q := 130) rfl ?_
                          refine e_imul C dX7_copy_130 (q := 131) rfl ?_
                          refine e_iload_n C dX7_copy_131 rfl 2 rfl (q := 132) rfl ?_
                          refine e_iadd C dX7_copy_132 (q := 133) rfl ?_
                          refine e_nmi (fun v5 => ?_)
                          refine e_istore C (lv1 := [(6, .int v5), (0, .ref (oA ω 56)), (1, .int a1), (2, .int a2), (3, .int a3), (4, .int a4), (5, .int a5)]) dX7_copy_133 (Nat.le_of_ble_eq_true rfl) rfl (q := 135) rfl ?_
                          refine e_bipush C dX7_copy_135 b8_40 (q := 137) rfl ?_
                          refine e_iload_n C dX7_copy_137 rfl 4 rfl (q := 138) rfl ?_
                          refine e_imul C dX7_copy_138 (q := 139) rfl ?_
                          refine e_iload C dX7_copy_139 5 rfl (q := 141) rfl ?_
                          refine e_iadd C dX7_copy_141 (q := 142) rfl ?_
                          refine e_nmi (fun v6 => ?_)
                          refine e_istore C (lv1 := [(7, .int v6), (6, .int v5), (0, .ref (oA ω 56)), (1, .int a1), (2, .int a2), (3, .int a3), (4, .int a4), (5, .int a5)]) dX7_copy_142 (Nat.le_of_ble_eq_true rfl) rfl (q := 144) rfl ?_
                          refine e_iconst C dX7_copy_144 ic_0 (q := 145) rfl ?_
                          refine e_istore C (lv1 := [(8, .int (0 : Int32)), (7, .int v6), (6, .int v5), (0, .ref (oA ω 56)), (1, .int a1), (2, .int a2), (3, .int a3), (4, .int a4), (5, .int a5)]) dX7_copy_145 (Nat.le_of_ble_eq_true rfl) rfl (q := 147) rfl ?_
                          exact e_lv [0, 1, 2, 3, 8] (lv1 := [(8, .int (0 : Int32)), (7, .int v6), (6, .int v5), (0, .ref (oA ω 56)), (5, .int a5)]) rfl (xb_X7_copy_b147 C hlau hret hn FU (0 : Int32) v6 v5 _)
                        · refine e_bipush C dX7_copy_124 b8_m12 (q := 126) rfl ?_
                          exact e_ireturn C dX7_copy_126 hret rfl
          · refine e_bipush C dX7_copy_59 b8_m13 (q := 61) rfl ?_
            exact e_ireturn C dX7_copy_61 hret rfl
        · refine e_bipush C dX7_copy_41 b8_m11 (q := 43) rfl ?_
          exact e_ireturn C dX7_copy_43 hret rfl
    · refine e_bipush C dX7_copy_18 b8_m2 (q := 20) rfl ?_
      exact e_ireturn C dX7_copy_20 hret rfl
set_option maxHeartbeats 4000000 in
set_option maxRecDepth 100000 in
theorem xb_X7_hatsBy_b153 {l : Launch} {κ : Kx} {ω : Om} {a1 : Int32} {a2 : Int32} {a3 : Int32} {a4 : Int32} (C : CX κ ω cX7_hatsBy 9 3 yX7_hatsBy.cls) (hlau : κ.2.1 = l) (hret : κ.2.2.2.2.2.2.2.2.1.sig.returnType = (some .int)) (hn : 75 ≤ oN ω)  {K64 : Int32 → Int32 → Mem → Option (Int32 × Mem)} (hK64 : ∀ (x6 : Int32) (x5 : Int32) (J : Mem), EE κ ω 9 (Gi κ ω) (K64 x6 x5 J) J 64 [(6, .int x6), (5, .int x5), (0, .ref (oA ω 56)), (1, .int a1), (3, .int a3), (4, .int a4)] []) : ∀ (x6 : Int32) (s0 : Int32) (s1 : Int32) (I : Mem), EE κ ω 9 (Gi κ ω) (f_X7_hatsBy_b153 a1 a2 a3 a4 K64 x6 s0 s1 I) I 153 [(6, .int x6), (0, .ref (oA ω 56)), (1, .int a1), (3, .int a3), (4, .int a4)] [.int s0, .int s1] := by
  intro x6 s0 s1 I
  unfold f_X7_hatsBy_b153
  refine e_iadd C dX7_hatsBy_153 (q := 154) rfl ?_
  refine e_nmi (fun v11 => ?_)
  refine e_istore C (lv1 := [(5, .int v11), (6, .int x6), (0, .ref (oA ω 56)), (1, .int a1), (3, .int a3), (4, .int a4)]) dX7_hatsBy_154 (Nat.le_of_ble_eq_true rfl) rfl (q := 156) rfl ?_
  refine e_iinc C (v := x6 + (1 : Int32)) (lv1 := [(6, .int (x6 + (1 : Int32))), (5, .int v11), (0, .ref (oA ω 56)), (1, .int a1), (3, .int a3), (4, .int a4)]) dX7_hatsBy_156 1 rfl (Nat.le_of_ble_eq_true rfl) (by rw [ic_1]) rfl (q := 159) rfl ?_
  refine e_goto C (tgt := 64) dX7_hatsBy_159 rfl ?_
  exact hK64 (x6 + (1 : Int32)) v11 _
set_option maxHeartbeats 4000000 in
set_option maxRecDepth 100000 in
theorem xb_X7_hatsBy_b64 {l : Launch} {κ : Kx} {ω : Om} {a1 : Int32} {a2 : Int32} {a3 : Int32} {a4 : Int32} (C : CX κ ω cX7_hatsBy 9 3 yX7_hatsBy.cls) (hlau : κ.2.1 = l) (hret : κ.2.2.2.2.2.2.2.2.1.sig.returnType = (some .int)) (hn : 75 ≤ oN ω)  : ∀ (n : Nat) (x6 : Int32) (x5 : Int32) (I : Mem), EE κ ω 9 (Gi κ ω) (f_X7_hatsBy_b64 a1 a2 a3 a4 n x6 x5 I) I 64 [(6, .int x6), (5, .int x5), (0, .ref (oA ω 56)), (1, .int a1), (3, .int a3), (4, .int a4)] [] := by
  intro n
  induction n with
  | zero => intro x6 x5 I; exact e_none
  | succ n ih =>
    intro x6 x5 I
    rw [f_X7_hatsBy_b64]
    refine e_iload C dX7_hatsBy_64 0 rfl (q := 66) rfl ?_
    refine e_iload C dX7_hatsBy_66 5 rfl (q := 68) rfl ?_
    refine e_icmpge C (tgt := 162) (q := 71) dX7_hatsBy_68 rfl rfl ?_ ?_
    · refine e_iload C dX7_hatsBy_162 1 rfl (q := 164) rfl ?_
      exact e_ireturn C dX7_hatsBy_164 hret rfl
    · refine e_iload_n C dX7_hatsBy_71 rfl 4 rfl (q := 72) rfl ?_
      refine e_iconst C dX7_hatsBy_72 ic_3 (q := 73) rfl ?_
      refine e_iload C dX7_hatsBy_73 0 rfl (q := 75) rfl ?_
      refine e_imul C dX7_hatsBy_75 (q := 76) rfl ?_
      refine e_iadd C dX7_hatsBy_76 (q := 77) rfl ?_
      refine e_nmi (fun v7 => ?_)
      refine e_istore C (lv1 := [(7, .int v7), (6, .int x6), (5, .int x5), (0, .ref (oA ω 56)), (1, .int a1), (3, .int a3), (4, .int a4)]) dX7_hatsBy_77 (Nat.le_of_ble_eq_true rfl) rfl (q := 79) rfl ?_
      refine e_iload_n C dX7_hatsBy_79 rfl 5 rfl (q := 80) rfl ?_
      refine e_iflt C (tgt := 102) (q := 83) dX7_hatsBy_80 rfl rfl ?_ ?_
      · refine e_bipush C dX7_hatsBy_102 b8_m12 (q := 104) rfl ?_
        exact e_ireturn C dX7_hatsBy_104 hret rfl
      · refine e_iload C dX7_hatsBy_83 0 rfl (q := 85) rfl ?_
        refine e_iload_n C dX7_hatsBy_85 rfl 5 rfl (q := 86) rfl ?_
        refine e_icmplt C (tgt := 102) (q := 89) dX7_hatsBy_86 rfl rfl ?_ ?_
        · refine e_bipush C dX7_hatsBy_102 b8_m12 (q := 104) rfl ?_
          exact e_ireturn C dX7_hatsBy_104 hret rfl
        · refine e_iload C dX7_hatsBy_89 0 rfl (q := 91) rfl ?_
          refine e_aload_n C dX7_hatsBy_91 rfl 3 rfl (q := 92) rfl ?_
          refine e_getf C (k := 56) (j := 16) (T := TX7) (N := 32) (v := .ref (oA ω 67)) dX7_hatsBy_92 (ltL hn (Nat.le_of_ble_eq_true rfl)) rfl rfl (by decide) in_X7 w_778 rfl (q := 95) rfl ?_
          refine e_iload_n C dX7_hatsBy_95 rfl 4 rfl (q := 96) rfl ?_
          refine e_iald C (k := 67) (n := 4) dX7_hatsBy_96 (ltL hn (Nat.le_of_ble_eq_true rfl)) rfl (q := 97) rfl ?_
          refine e_iconst C dX7_hatsBy_97 ic_3 (q := 98) rfl ?_
          refine e_isub C dX7_hatsBy_98 (q := 99) rfl ?_
          refine e_icmple C (tgt := 105) (q := 102) dX7_hatsBy_99 rfl rfl ?_ ?_
          · refine e_bipush C dX7_hatsBy_105 b8_40 (q := 107) rfl ?_
            refine e_iload_n C dX7_hatsBy_107 rfl 4 rfl (q := 108) rfl ?_
            refine e_imul C dX7_hatsBy_108 (q := 109) rfl ?_
            refine e_iload C dX7_hatsBy_109 0 rfl (q := 111) rfl ?_
            refine e_iadd C dX7_hatsBy_111 (q := 112) rfl ?_
            refine e_nmi (fun v8 => ?_)
            refine e_istore C (lv1 := [(8, .int v8), (7, .int v7), (6, .int x6), (5, .int x5), (0, .ref (oA ω 56)), (1, .int a1), (3, .int a3), (4, .int a4)]) dX7_hatsBy_112 (Nat.le_of_ble_eq_true rfl) rfl (q := 114) rfl ?_
            refine e_iload C dX7_hatsBy_114 3 rfl (q := 116) rfl ?_
            refine e_aload_n C dX7_hatsBy_116 rfl 4 rfl (q := 117) rfl ?_
            refine e_aload_n C dX7_hatsBy_117 rfl 4 rfl (q := 118) rfl ?_
            refine e_getf C (k := 56) (j := 17) (T := TX7) (N := 32) (v := .ref (oA ω 68)) dX7_hatsBy_118 (ltL hn (Nat.le_of_ble_eq_true rfl)) rfl rfl (by decide) in_X7 w_779 rfl (q := 121) rfl ?_
            refine e_iload C dX7_hatsBy_121 0 rfl (q := 123) rfl ?_
            refine e_iald C (k := 68) (n := 160) dX7_hatsBy_123 (ltL hn (Nat.le_of_ble_eq_true rfl)) rfl (q := 124) rfl ?_
            refine e_aload_n C dX7_hatsBy_124 rfl 4 rfl (q := 125) rfl ?_
            refine e_getf C (k := 56) (j := 17) (T := TX7) (N := 32) (v := .ref (oA ω 68)) dX7_hatsBy_125 (ltL hn (Nat.le_of_ble_eq_true rfl)) rfl rfl (by decide) in_X7 w_779 rfl (q := 128) rfl ?_
            refine e_iload C dX7_hatsBy_128 0 rfl (q := 130) rfl ?_
            refine e_iconst C dX7_hatsBy_130 ic_1 (q := 131) rfl ?_
            refine e_iadd C dX7_hatsBy_131 (q := 132) rfl ?_
            refine e_iald C (k := 68) (n := 160) dX7_hatsBy_132 (ltL hn (Nat.le_of_ble_eq_true rfl)) rfl (q := 133) rfl ?_
            refine e_aload_n C dX7_hatsBy_133 rfl 4 rfl (q := 134) rfl ?_
            refine e_getf C (k := 56) (j := 17) (T := TX7) (N := 32) (v := .ref (oA ω 68)) dX7_hatsBy_134 (ltL hn (Nat.le_of_ble_eq_true rfl)) rfl rfl (by decide) in_X7 w_779 rfl (q := 137) rfl ?_
            refine e_iload C dX7_hatsBy_137 0 rfl (q := 139) rfl ?_
            refine e_iconst C dX7_hatsBy_139 ic_2 (q := 140) rfl ?_
            refine e_iadd C dX7_hatsBy_140 (q := 141) rfl ?_
            refine e_iald C (k := 68) (n := 160) dX7_hatsBy_141 (ltL hn (Nat.le_of_ble_eq_true rfl)) rfl (q := 142) rfl ?_
            refine e_callVi C (l := l) (k := 56) (av := [.int (I 68 (v8).toNatClampNeg), .int (I 68 (v8 + (1 : Int32)).toNatClampNeg), .int (I 68 (v8 + (2 : Int32)).toNatClampNeg)]) (st := [.int x5]) hlau (x_X7_hat (l := l) (ω := ω) (a1 := I 68 (v8).toNatClampNeg) (a2 := I 68 (v8 + (1 : Int32)).toNatClampNeg) (a3 := I 68 (v8 + (2 : Int32)).toNatClampNeg) hn (I := I)) dX7_hatsBy_142 w_1112 w_909 w_910 w_67 w_911 md_X7_hat (by decide) (by decide) rfl (ltL hn (Nat.le_of_ble_eq_true rfl)) rfl rfl (Nat.le_of_ble_eq_true rfl) (q := 145) rfl (fun v10 J9 => ?_)
            refine e_iflt C (tgt := 152) (q := 148) dX7_hatsBy_145 rfl rfl ?_ ?_
            · refine e_iconst C dX7_hatsBy_152 ic_0 (q := 153) rfl ?_
              exact e_lv [2, 4, 5, 6, 7] (lv1 := [(6, .int x6), (0, .ref (oA ω 56)), (1, .int a1), (3, .int a3), (4, .int a4)]) rfl (xb_X7_hatsBy_b153 C hlau hret hn ih x6 (0 : Int32) x5 _)
            · refine e_iconst C dX7_hatsBy_148 ic_1 (q := 149) rfl ?_
              refine e_goto C (tgt := 153) dX7_hatsBy_149 rfl ?_
              exact e_lv [2, 4, 5, 6, 7] (lv1 := [(6, .int x6), (0, .ref (oA ω 56)), (1, .int a1), (3, .int a3), (4, .int a4)]) rfl (xb_X7_hatsBy_b153 C hlau hret hn ih x6 (1 : Int32) x5 _)
          · refine e_bipush C dX7_hatsBy_102 b8_m12 (q := 104) rfl ?_
            exact e_ireturn C dX7_hatsBy_104 hret rfl
set_option maxHeartbeats 4000000 in
set_option maxRecDepth 100000 in
theorem x_X7_hatsBy {l : Launch} {ω : Om} {a1 : Int32} {a2 : Int32} {a3 : Int32} {a4 : Int32} (hn : 75 ≤ oN ω)  {I : Mem} : CTi l ω yX7_hatsBy cX7_hatsBy 9 (some .int) 3 [.ref (oA ω 56), .int a1, .int a2, .int a3, .int a4] (f_X7_hatsBy a1 a2 a3 a4 I) I := by
  refine ct_i (by decide) (Nat.le_of_ble_eq_true rfl) ?_
  intro κ hlau hret C
  refine e_lv [0, 1, 2, 3, 4] (lv1 := [(0, .ref (oA ω 56)), (1, .int a1), (2, .int a2), (3, .int a3), (4, .int a4)]) rfl ?_
  unfold f_X7_hatsBy
  refine e_iload_n C dX7_hatsBy_0 rfl 1 rfl (q := 1) rfl ?_
  refine e_iconst C dX7_hatsBy_1 ic_0 (q := 2) rfl ?_
  refine e_iconst C dX7_hatsBy_2 ic_3 (q := 3) rfl ?_
  refine e_callSi C (l := l) (av := [.int a1, .int (0 : Int32), .int (3 : Int32)]) (st := []) hlau (x_X7_in (l := l) (ω := ω) (a0 := a1) (a1 := (0 : Int32)) (a2 := (3 : Int32)) hn (I := I)) dX7_hatsBy_3 w_723 w_724 w_67 w_725 md_X7_in (by decide) (by decide) rfl (Nat.le_of_ble_eq_true rfl) (q := 6) rfl (fun v2 J1 => ?_)
  refine e_ifeq C (tgt := 29) (q := 9) dX7_hatsBy_6 rfl rfl ?_ ?_
  · refine e_bipush C dX7_hatsBy_29 b8_m2 (q := 31) rfl ?_
    exact e_ireturn C dX7_hatsBy_31 hret rfl
  · refine e_iload_n C dX7_hatsBy_9 rfl 2 rfl (q := 10) rfl ?_
    refine e_iconst C dX7_hatsBy_10 ic_0 (q := 11) rfl ?_
    refine e_iconst C dX7_hatsBy_11 ic_2 (q := 12) rfl ?_
    refine e_callSi C (l := l) (av := [.int a2, .int (0 : Int32), .int (2 : Int32)]) (st := []) hlau (x_X7_in (l := l) (ω := ω) (a0 := a2) (a1 := (0 : Int32)) (a2 := (2 : Int32)) hn (I := J1)) dX7_hatsBy_12 w_723 w_724 w_67 w_725 md_X7_in (by decide) (by decide) rfl (Nat.le_of_ble_eq_true rfl) (q := 15) rfl (fun v4 J3 => ?_)
    refine e_ifeq C (tgt := 29) (q := 18) dX7_hatsBy_15 rfl rfl ?_ ?_
    · refine e_bipush C dX7_hatsBy_29 b8_m2 (q := 31) rfl ?_
      exact e_ireturn C dX7_hatsBy_31 hret rfl
    · refine e_iload C dX7_hatsBy_18 4 rfl (q := 20) rfl ?_
      refine e_iconst C dX7_hatsBy_20 ic_0 (q := 21) rfl ?_
      refine e_bipush C dX7_hatsBy_21 b8_6 (q := 23) rfl ?_
      refine e_callSi C (l := l) (av := [.int a4, .int (0 : Int32), .int (6 : Int32)]) (st := []) hlau (x_X7_in (l := l) (ω := ω) (a0 := a4) (a1 := (0 : Int32)) (a2 := (6 : Int32)) hn (I := J3)) dX7_hatsBy_23 w_723 w_724 w_67 w_725 md_X7_in (by decide) (by decide) rfl (Nat.le_of_ble_eq_true rfl) (q := 26) rfl (fun v6 J5 => ?_)
      refine e_ifne C (tgt := 32) (q := 29) dX7_hatsBy_26 rfl rfl ?_ ?_
      · refine e_aload_n C dX7_hatsBy_32 rfl 0 rfl (q := 33) rfl ?_
        refine e_getf C (k := 56) (j := 15) (T := TX7) (N := 32) (v := .ref (oA ω 66)) dX7_hatsBy_33 (ltL hn (Nat.le_of_ble_eq_true rfl)) rfl rfl (by decide) in_X7 w_777 rfl (q := 36) rfl ?_
        refine e_iload_n C dX7_hatsBy_36 rfl 1 rfl (q := 37) rfl ?_
        refine e_iald C (k := 66) (n := 4) dX7_hatsBy_37 (ltL hn (Nat.le_of_ble_eq_true rfl)) rfl (q := 38) rfl ?_
        refine e_iconst C dX7_hatsBy_38 ic_m1 (q := 39) rfl ?_
        refine e_icmpne C (tgt := 45) (q := 42) dX7_hatsBy_39 rfl rfl ?_ ?_
        · refine e_aload_n C dX7_hatsBy_45 rfl 0 rfl (q := 46) rfl ?_
          refine e_getf C (k := 56) (j := 15) (T := TX7) (N := 32) (v := .ref (oA ω 66)) dX7_hatsBy_46 (ltL hn (Nat.le_of_ble_eq_true rfl)) rfl rfl (by decide) in_X7 w_777 rfl (q := 49) rfl ?_
          refine e_iload_n C dX7_hatsBy_49 rfl 1 rfl (q := 50) rfl ?_
          refine e_iald C (k := 66) (n := 4) dX7_hatsBy_50 (ltL hn (Nat.le_of_ble_eq_true rfl)) rfl (q := 51) rfl ?_
          refine e_iload_n C dX7_hatsBy_51 rfl 2 rfl (q := 52) rfl ?_
          refine e_icmpeq C (tgt := 58) (q := 55) dX7_hatsBy_52 rfl rfl ?_ ?_
          · refine e_iconst C dX7_hatsBy_58 ic_0 (q := 59) rfl ?_
            refine e_istore C (lv1 := [(5, .int (0 : Int32)), (0, .ref (oA ω 56)), (1, .int a1), (2, .int a2), (3, .int a3), (4, .int a4)]) dX7_hatsBy_59 (Nat.le_of_ble_eq_true rfl) rfl (q := 61) rfl ?_
            refine e_iconst C dX7_hatsBy_61 ic_0 (q := 62) rfl ?_
            refine e_istore C (lv1 := [(6, .int (0 : Int32)), (5, .int (0 : Int32)), (0, .ref (oA ω 56)), (1, .int a1), (2, .int a2), (3, .int a3), (4, .int a4)]) dX7_hatsBy_62 (Nat.le_of_ble_eq_true rfl) rfl (q := 64) rfl ?_
            exact e_lv [0, 1, 2, 3, 5, 6] (lv1 := [(6, .int (0 : Int32)), (5, .int (0 : Int32)), (0, .ref (oA ω 56)), (1, .int a1), (3, .int a3), (4, .int a4)]) rfl (xb_X7_hatsBy_b64 C hlau hret hn FU (0 : Int32) (0 : Int32) _)
          · refine e_bipush C dX7_hatsBy_55 b8_m13 (q := 57) rfl ?_
            exact e_ireturn C dX7_hatsBy_57 hret rfl
        · refine e_bipush C dX7_hatsBy_42 b8_m11 (q := 44) rfl ?_
          exact e_ireturn C dX7_hatsBy_44 hret rfl
      · refine e_bipush C dX7_hatsBy_29 b8_m2 (q := 31) rfl ?_
        exact e_ireturn C dX7_hatsBy_31 hret rfl
set_option maxHeartbeats 4000000 in
set_option maxRecDepth 100000 in
theorem xb_X7_isUnder_b29 {l : Launch} {κ : Kx} {ω : Om} {a0 : Int32} {a1 : Int32} (C : CX κ ω cX7_isUnder 2 1 yX7_isUnder.cls) (hlau : κ.2.1 = l) (hret : κ.2.2.2.2.2.2.2.2.1.sig.returnType = (some .boolean)) (hn : 75 ≤ oN ω)  : ∀  (I : Mem), EE κ ω 2 (Gi κ ω) (f_X7_isUnder_b29 a0 a1  I) I 29 [] [] := by
  intro  I
  unfold f_X7_isUnder_b29
  refine e_iconst C dX7_isUnder_29 ic_1 (q := 30) rfl ?_
  refine e_goto C (tgt := 34) dX7_isUnder_30 rfl ?_
  exact e_ireturn C dX7_isUnder_34 hret rfl
set_option maxHeartbeats 4000000 in
set_option maxRecDepth 100000 in
theorem xb_X7_isUnder_b19 {l : Launch} {κ : Kx} {ω : Om} {a0 : Int32} {a1 : Int32} (C : CX κ ω cX7_isUnder 2 1 yX7_isUnder.cls) (hlau : κ.2.1 = l) (hret : κ.2.2.2.2.2.2.2.2.1.sig.returnType = (some .boolean)) (hn : 75 ≤ oN ω)  : ∀  (I : Mem), EE κ ω 2 (Gi κ ω) (f_X7_isUnder_b19 a0 a1  I) I 19 [(0, .int a0), (1, .int a1)] [] := by
  intro  I
  unfold f_X7_isUnder_b19
  refine e_iload_n C dX7_isUnder_19 rfl 1 rfl (q := 20) rfl ?_
  refine e_iconst C dX7_isUnder_20 ic_2 (q := 21) rfl ?_
  refine e_icmpne C (tgt := 33) (q := 24) dX7_isUnder_21 rfl rfl ?_ ?_
  · refine e_iconst C dX7_isUnder_33 ic_0 (q := 34) rfl ?_
    exact e_ireturn C dX7_isUnder_34 hret rfl
  · refine e_iload_n C dX7_isUnder_24 rfl 0 rfl (q := 25) rfl ?_
    refine e_iconst C dX7_isUnder_25 ic_4 (q := 26) rfl ?_
    refine e_icmpne C (tgt := 33) (q := 29) dX7_isUnder_26 rfl rfl ?_ ?_
    · refine e_iconst C dX7_isUnder_33 ic_0 (q := 34) rfl ?_
      exact e_ireturn C dX7_isUnder_34 hret rfl
    · exact e_lv [] (lv1 := []) rfl (xb_X7_isUnder_b29 C hlau hret hn _)
set_option maxHeartbeats 4000000 in
set_option maxRecDepth 100000 in
theorem x_X7_isUnder {l : Launch} {ω : Om} {a0 : Int32} {a1 : Int32} (hn : 75 ≤ oN ω)  {I : Mem} : CTi l ω yX7_isUnder cX7_isUnder 2 (some .boolean) 1 [.int a0, .int a1] (f_X7_isUnder a0 a1 I) I := by
  refine ct_i (by decide) (Nat.le_of_ble_eq_true rfl) ?_
  intro κ hlau hret C
  refine e_lv [0, 1] (lv1 := [(0, .int a0), (1, .int a1)]) rfl ?_
  unfold f_X7_isUnder
  refine e_iload_n C dX7_isUnder_0 rfl 1 rfl (q := 1) rfl ?_
  refine e_ifeq C (tgt := 29) (q := 4) dX7_isUnder_1 rfl rfl ?_ ?_
  · exact e_lv [] (lv1 := []) rfl (xb_X7_isUnder_b29 C hlau hret hn _)
  · refine e_iload_n C dX7_isUnder_4 rfl 0 rfl (q := 5) rfl ?_
    refine e_iload_n C dX7_isUnder_5 rfl 1 rfl (q := 6) rfl ?_
    refine e_icmpeq C (tgt := 29) (q := 9) dX7_isUnder_6 rfl rfl ?_ ?_
    · exact e_lv [] (lv1 := []) rfl (xb_X7_isUnder_b29 C hlau hret hn _)
    · refine e_iload_n C dX7_isUnder_9 rfl 1 rfl (q := 10) rfl ?_
      refine e_iconst C dX7_isUnder_10 ic_1 (q := 11) rfl ?_
      refine e_icmpne C (tgt := 19) (q := 14) dX7_isUnder_11 rfl rfl ?_ ?_
      · exact xb_X7_isUnder_b19 C hlau hret hn _
      · refine e_iload_n C dX7_isUnder_14 rfl 0 rfl (q := 15) rfl ?_
        refine e_iconst C dX7_isUnder_15 ic_3 (q := 16) rfl ?_
        refine e_icmpeq C (tgt := 29) (q := 19) dX7_isUnder_16 rfl rfl ?_ ?_
        · exact e_lv [] (lv1 := []) rfl (xb_X7_isUnder_b29 C hlau hret hn _)
        · exact xb_X7_isUnder_b19 C hlau hret hn _
set_option maxHeartbeats 4000000 in
set_option maxRecDepth 100000 in
theorem x_X7_taken {l : Launch} {ω : Om} {a1 : Int32} {a2 : Int32} (hn : 75 ≤ oN ω)  {I : Mem} : CTi l ω yX7_taken cX7_taken 3 (some .int) 2 [.ref (oA ω 56), .int a1, .int a2] (f_X7_taken a1 a2 I) I := by
  refine ct_i (by decide) (Nat.le_of_ble_eq_true rfl) ?_
  intro κ hlau hret C
  refine e_lv [0, 1, 2] (lv1 := [(0, .ref (oA ω 56)), (1, .int a1), (2, .int a2)]) rfl ?_
  unfold f_X7_taken
  refine e_iload_n C dX7_taken_0 rfl 2 rfl (q := 1) rfl ?_
  refine e_iconst C dX7_taken_1 ic_0 (q := 2) rfl ?_
  refine e_bipush C dX7_taken_2 b8_6 (q := 4) rfl ?_
  refine e_callSi C (l := l) (av := [.int a2, .int (0 : Int32), .int (6 : Int32)]) (st := []) hlau (x_X7_in (l := l) (ω := ω) (a0 := a2) (a1 := (0 : Int32)) (a2 := (6 : Int32)) hn (I := I)) dX7_taken_4 w_723 w_724 w_67 w_725 md_X7_in (by decide) (by decide) rfl (Nat.le_of_ble_eq_true rfl) (q := 7) rfl (fun v2 J1 => ?_)
  refine e_ifne C (tgt := 13) (q := 10) dX7_taken_7 rfl rfl ?_ ?_
  · refine e_iload_n C dX7_taken_13 rfl 1 rfl (q := 14) rfl ?_
    refine e_iconst C dX7_taken_14 ic_0 (q := 15) rfl ?_
    refine e_bipush C dX7_taken_15 b8_11 (q := 17) rfl ?_
    refine e_callSi C (l := l) (av := [.int a1, .int (0 : Int32), .int (11 : Int32)]) (st := []) hlau (x_X7_in (l := l) (ω := ω) (a0 := a1) (a1 := (0 : Int32)) (a2 := (11 : Int32)) hn (I := J1)) dX7_taken_17 w_723 w_724 w_67 w_725 md_X7_in (by decide) (by decide) rfl (Nat.le_of_ble_eq_true rfl) (q := 20) rfl (fun v4 J3 => ?_)
    refine e_ifne C (tgt := 26) (q := 23) dX7_taken_20 rfl rfl ?_ ?_
    · refine e_iload_n C dX7_taken_26 rfl 1 rfl (q := 27) rfl ?_
      refine e_bipush C dX7_taken_27 b8_6 (q := 29) rfl ?_
      refine e_irem C dX7_taken_29 (by decide) (q := 30) rfl ?_
      refine e_aload_n C dX7_taken_30 rfl 0 rfl (q := 31) rfl ?_
      refine e_getf C (k := 56) (j := 0) (T := TX7) (N := 32) (v := .int (J3 56 0)) dX7_taken_31 (ltL hn (Nat.le_of_ble_eq_true rfl)) rfl rfl (by decide) in_X7 w_762 rfl (q := 34) rfl ?_
      refine e_icmplt C (tgt := 40) (q := 37) dX7_taken_34 rfl rfl ?_ ?_
      · refine e_iload_n C dX7_taken_40 rfl 1 rfl (q := 41) rfl ?_
        refine e_bipush C dX7_taken_41 b8_6 (q := 43) rfl ?_
        refine e_icmplt C (tgt := 71) (q := 46) dX7_taken_43 rfl rfl ?_ ?_
        · refine e_iload_n C dX7_taken_71 rfl 2 rfl (q := 72) rfl ?_
          refine e_bipush C dX7_taken_72 b8_6 (q := 74) rfl ?_
          refine e_icmpge C (tgt := 94) (q := 77) dX7_taken_74 rfl rfl ?_ ?_
          · refine e_bipush C dX7_taken_94 b8_m13 (q := 96) rfl ?_
            exact e_ireturn C dX7_taken_96 hret rfl
          · refine e_aload_n C dX7_taken_77 rfl 0 rfl (q := 78) rfl ?_
            refine e_getf C (k := 56) (j := 1) (T := TX7) (N := 32) (v := .ref (oA ω 57)) dX7_taken_78 (ltL hn (Nat.le_of_ble_eq_true rfl)) rfl rfl (by decide) in_X7 w_763 rfl (q := 81) rfl ?_
            refine e_iload_n C dX7_taken_81 rfl 1 rfl (q := 82) rfl ?_
            refine e_iald C (k := 57) (n := 6) dX7_taken_82 (ltL hn (Nat.le_of_ble_eq_true rfl)) rfl (q := 83) rfl ?_
            refine e_iload_n C dX7_taken_83 rfl 2 rfl (q := 84) rfl ?_
            refine e_callSi C (l := l) (av := [.int (J3 57 (a1).toNatClampNeg), .int a2]) (st := []) hlau (x_X7_isUnder (l := l) (ω := ω) (a0 := J3 57 (a1).toNatClampNeg) (a1 := a2) hn (I := J3)) dX7_taken_84 w_1117 w_1118 w_67 w_1119 md_X7_isUnder (by decide) (by decide) rfl (Nat.le_of_ble_eq_true rfl) (q := 87) rfl (fun v6 J5 => ?_)
            refine e_ifeq C (tgt := 94) (q := 90) dX7_taken_87 rfl rfl ?_ ?_
            · refine e_bipush C dX7_taken_94 b8_m13 (q := 96) rfl ?_
              exact e_ireturn C dX7_taken_96 hret rfl
            · refine e_iload_n C dX7_taken_90 rfl 1 rfl (q := 91) rfl ?_
              refine e_goto C (tgt := 96) dX7_taken_91 rfl ?_
              exact e_ireturn C dX7_taken_96 hret rfl
        · refine e_iload_n C dX7_taken_46 rfl 2 rfl (q := 47) rfl ?_
          refine e_bipush C dX7_taken_47 b8_6 (q := 49) rfl ?_
          refine e_icmpne C (tgt := 68) (q := 52) dX7_taken_49 rfl rfl ?_ ?_
          · refine e_bipush C dX7_taken_68 b8_m13 (q := 70) rfl ?_
            exact e_ireturn C dX7_taken_70 hret rfl
          · refine e_aload_n C dX7_taken_52 rfl 0 rfl (q := 53) rfl ?_
            refine e_getf C (k := 56) (j := 3) (T := TX7) (N := 32) (v := .ref (oA ω 59)) dX7_taken_53 (ltL hn (Nat.le_of_ble_eq_true rfl)) rfl rfl (by decide) in_X7 w_765 rfl (q := 56) rfl ?_
            refine e_iconst C dX7_taken_56 ic_4 (q := 57) rfl ?_
            refine e_iload_n C dX7_taken_57 rfl 1 rfl (q := 58) rfl ?_
            refine e_bipush C dX7_taken_58 b8_6 (q := 60) rfl ?_
            refine e_isub C dX7_taken_60 (q := 61) rfl ?_
            refine e_imul C dX7_taken_61 (q := 62) rfl ?_
            refine e_iconst C dX7_taken_62 ic_1 (q := 63) rfl ?_
            refine e_iadd C dX7_taken_63 (q := 64) rfl ?_
            refine e_nmi (fun v7 => ?_)
            refine e_iald C (k := 59) (n := 24) dX7_taken_64 (ltL hn (Nat.le_of_ble_eq_true rfl)) rfl (q := 65) rfl ?_
            refine e_goto C (tgt := 70) dX7_taken_65 rfl ?_
            exact e_ireturn C dX7_taken_70 hret rfl
      · refine e_bipush C dX7_taken_37 b8_m11 (q := 39) rfl ?_
        exact e_ireturn C dX7_taken_39 hret rfl
    · refine e_bipush C dX7_taken_23 b8_m12 (q := 25) rfl ?_
      exact e_ireturn C dX7_taken_25 hret rfl
  · refine e_bipush C dX7_taken_10 b8_m2 (q := 12) rfl ?_
    exact e_ireturn C dX7_taken_12 hret rfl
set_option maxHeartbeats 4000000 in
set_option maxRecDepth 100000 in
theorem xb_X1_readOne_b17 {l : Launch} {κ : Kx} {ω : Om} {a1 : Int32} {gR : Nat → Int32 → Mem → Option (Unit × Mem)} {D : Nat} (C : CX κ ω cX1_readOne 2 (D + 1) yX1_readOne.cls) (hlau : κ.2.1 = l) (hret : κ.2.2.2.2.2.2.2.2.1.sig.returnType = none) (hn : 56 ≤ oN ω) (hD : 10 ≤ D) (hG : ∀ w o J, CTv l ω (gy w) (gc w) (gm w) none D [.ref (oA ω 26), .int o] (gR w o J) J)  : ∀  (I : Mem), EE κ ω 2 (Gv κ ω) (f_X1_readOne_b17 gR a1  I) I 17 [(0, .ref (oA ω 26))] [] := by
  intro  I
  unfold f_X1_readOne_b17
  refine e_aload_n C dX1_readOne_17 rfl 0 rfl (q := 18) rfl ?_
  refine e_into C hn dX1_readOne_18 in_X1 w_150 (q := 21) rfl (fun h1 => ?_)
  refine e_aload_n C dX1_readOne_21 rfl 0 rfl (q := 22) rfl ?_
  refine e_getf C (k := 26) (j := 4) (T := TX1) (N := 7) (v := .int (I 26 4)) dX1_readOne_22 (ltL hn (Nat.le_of_ble_eq_true rfl)) rfl rfl (by decide) in_X1 w_148 rfl (q := 25) rfl ?_
  refine e_callVv C (l := l) (k := (30 + 3 * (I 26 6 - 1).toNatClampNeg)) (av := [.int (I 26 4)]) (st := []) hlau (x_X4_write (l := l) (ω := ω) (τ := (I 26 6 - 1).toNatClampNeg) (a1 := I 26 4) hn h1 (I := I)) dX1_readOne_25 w_323 w_324 w_325 w_59 w_326 md_X4_write (by omega) (by decide) rfl (ltTx hn h1) (cOb_Tx (τ := (I 26 6 - 1).toNatClampNeg) h1 _) rfl (Nat.le_of_ble_eq_true rfl) (q := 28) rfl (fun _ J2 => ?_)
  refine e_aload_n C dX1_readOne_28 rfl 0 rfl (q := 29) rfl ?_
  refine e_callVv C (l := l) (k := 26) (av := []) (st := []) hlau (x_X1_next (l := l) (ω := ω) hn (I := J2)) dX1_readOne_29 w_264 w_266 w_0 w_58 w_267 md_X1_next (by omega) (by decide) rfl (ltL hn (Nat.le_of_ble_eq_true rfl)) rfl rfl (Nat.le_of_ble_eq_true rfl) (q := 32) rfl (fun _ J3 => ?_)
  refine e_goto C (tgt := 110) dX1_readOne_32 rfl ?_
  exact e_vreturn C dX1_readOne_110 hret
set_option maxHeartbeats 4000000 in
set_option maxRecDepth 100000 in
theorem xb_X1_readOne_b106 {l : Launch} {κ : Kx} {ω : Om} {a1 : Int32} {gR : Nat → Int32 → Mem → Option (Unit × Mem)} {D : Nat} (C : CX κ ω cX1_readOne 2 (D + 1) yX1_readOne.cls) (hlau : κ.2.1 = l) (hret : κ.2.2.2.2.2.2.2.2.1.sig.returnType = none) (hn : 56 ≤ oN ω) (hD : 10 ≤ D) (hG : ∀ w o J, CTv l ω (gy w) (gc w) (gm w) none D [.ref (oA ω 26), .int o] (gR w o J) J)  : ∀  (I : Mem), EE κ ω 2 (Gv κ ω) (f_X1_readOne_b106 gR a1  I) I 106 [(0, .ref (oA ω 26))] [] := by
  intro  I
  unfold f_X1_readOne_b106
  refine e_aload_n C dX1_readOne_106 rfl 0 rfl (q := 107) rfl ?_
  refine e_callVv C (l := l) (k := 26) (av := []) (st := []) hlau (x_X1_refuse (l := l) (ω := ω) hn (I := I)) dX1_readOne_107 w_307 w_309 w_5 w_58 w_310 md_X1_refuse (by omega) (by decide) rfl (ltL hn (Nat.le_of_ble_eq_true rfl)) rfl rfl (Nat.le_of_ble_eq_true rfl) (q := 110) rfl (fun _ J6 => ?_)
  exact e_vreturn C dX1_readOne_110 hret
set_option maxHeartbeats 4000000 in
set_option maxRecDepth 100000 in
theorem xb_X1_readOne_b72 {l : Launch} {κ : Kx} {ω : Om} {a1 : Int32} {gR : Nat → Int32 → Mem → Option (Unit × Mem)} {D : Nat} (C : CX κ ω cX1_readOne 2 (D + 1) yX1_readOne.cls) (hlau : κ.2.1 = l) (hret : κ.2.2.2.2.2.2.2.2.1.sig.returnType = none) (hn : 56 ≤ oN ω) (hD : 10 ≤ D) (hG : ∀ w o J, CTv l ω (gy w) (gc w) (gm w) none D [.ref (oA ω 26), .int o] (gR w o J) J)  : ∀  (I : Mem), EE κ ω 2 (Gv κ ω) (f_X1_readOne_b72 gR a1  I) I 72 [(0, .ref (oA ω 26)), (1, .int a1)] [] := by
  intro  I
  unfold f_X1_readOne_b72
  refine e_aload_n C dX1_readOne_72 rfl 0 rfl (q := 73) rfl ?_
  refine e_getf C (k := 26) (j := 4) (T := TX1) (N := 7) (v := .int (I 26 4)) dX1_readOne_73 (ltL hn (Nat.le_of_ble_eq_true rfl)) rfl rfl (by decide) in_X1 w_148 rfl (q := 76) rfl ?_
  refine e_bipush C dX1_readOne_76 b8_m15 (q := 78) rfl ?_
  refine e_icmpne C (tgt := 106) (q := 81) dX1_readOne_78 rfl rfl ?_ ?_
  · exact e_lv [0] (lv1 := [(0, .ref (oA ω 26))]) rfl (xb_X1_readOne_b106 C hlau hret hn hD hG _)
  · refine e_iload_n C dX1_readOne_81 rfl 1 rfl (q := 82) rfl ?_
    refine e_iconst C dX1_readOne_82 ic_5 (q := 83) rfl ?_
    refine e_icmpge C (tgt := 106) (q := 86) dX1_readOne_83 rfl rfl ?_ ?_
    · exact e_lv [0] (lv1 := [(0, .ref (oA ω 26))]) rfl (xb_X1_readOne_b106 C hlau hret hn hD hG _)
    · refine e_aload_n C dX1_readOne_86 rfl 0 rfl (q := 87) rfl ?_
      refine e_callVv C (l := l) (k := 26) (av := []) (st := []) hlau (x_X1_next (l := l) (ω := ω) hn (I := I)) dX1_readOne_87 w_264 w_266 w_0 w_58 w_267 md_X1_next (by omega) (by decide) rfl (ltL hn (Nat.le_of_ble_eq_true rfl)) rfl rfl (Nat.le_of_ble_eq_true rfl) (q := 90) rfl (fun _ J7 => ?_)
      refine e_aload_n C dX1_readOne_90 rfl 0 rfl (q := 91) rfl ?_
      refine e_iload_n C dX1_readOne_91 rfl 1 rfl (q := 92) rfl ?_
      refine e_iconst C dX1_readOne_92 ic_1 (q := 93) rfl ?_
      refine e_iadd C dX1_readOne_93 (q := 94) rfl ?_
      refine e_callVv C (l := l) (k := 26) (av := [.int (a1 + (1 : Int32))]) (st := []) (y := yX1_readE) (b := cX1_readE) (maxL := 3) (ret := none) hlau (hG 0 (a1 + (1 : Int32)) J7) dX1_readOne_94 w_311 w_313 w_6 w_58 w_314 md_X1_readE (Nat.lt_succ_self _) (by decide) rfl (ltL hn (Nat.le_of_ble_eq_true rfl)) rfl rfl (Nat.le_of_ble_eq_true rfl) (q := 97) rfl (fun _ J8 => ?_)
      refine e_aload_n C dX1_readOne_97 rfl 0 rfl (q := 98) rfl ?_
      refine e_bipush C dX1_readOne_98 b8_m16 (q := 100) rfl ?_
      refine e_callVv C (l := l) (k := 26) (av := [.int (-16 : Int32)]) (st := []) hlau (x_X1_expect (l := l) (ω := ω) (a1 := (-16 : Int32)) hn (I := J8)) dX1_readOne_100 w_303 w_305 w_4 w_58 w_306 md_X1_expect (by omega) (by decide) rfl (ltL hn (Nat.le_of_ble_eq_true rfl)) rfl rfl (Nat.le_of_ble_eq_true rfl) (q := 103) rfl (fun _ J9 => ?_)
      refine e_goto C (tgt := 110) dX1_readOne_103 rfl ?_
      exact e_vreturn C dX1_readOne_110 hret
set_option maxHeartbeats 4000000 in
set_option maxRecDepth 100000 in
theorem xB_X1_readOne {l : Launch} {ω : Om} {gR : Nat → Int32 → Mem → Option (Unit × Mem)} {D : Nat} {a1 : Int32} (hn : 56 ≤ oN ω) (hD : 10 ≤ D) (hG : ∀ w o J, CTv l ω (gy w) (gc w) (gm w) none D [.ref (oA ω 26), .int o] (gR w o J) J)  {I : Mem} : CTv l ω yX1_readOne cX1_readOne 2 none (D + 1) [.ref (oA ω 26), .int a1] (B_X1_readOne gR a1 I) I := by
  refine ct_v (by decide) (Nat.le_of_ble_eq_true rfl) ?_
  intro κ hlau hret C
  refine e_lv [0, 1] (lv1 := [(0, .ref (oA ω 26)), (1, .int a1)]) rfl ?_
  unfold B_X1_readOne
  refine e_aload_n C dX1_readOne_0 rfl 0 rfl (q := 1) rfl ?_
  refine e_getf C (k := 26) (j := 4) (T := TX1) (N := 7) (v := .int (I 26 4)) dX1_readOne_1 (ltL hn (Nat.le_of_ble_eq_true rfl)) rfl rfl (by decide) in_X1 w_148 rfl (q := 4) rfl ?_
  refine e_ifge C (tgt := 17) (q := 7) dX1_readOne_4 rfl rfl ?_ ?_
  · exact e_lv [0] (lv1 := [(0, .ref (oA ω 26))]) rfl (xb_X1_readOne_b17 C hlau hret hn hD hG _)
  · refine e_aload_n C dX1_readOne_7 rfl 0 rfl (q := 8) rfl ?_
    refine e_getf C (k := 26) (j := 4) (T := TX1) (N := 7) (v := .int (I 26 4)) dX1_readOne_8 (ltL hn (Nat.le_of_ble_eq_true rfl)) rfl rfl (by decide) in_X1 w_148 rfl (q := 11) rfl ?_
    refine e_callSi C (l := l) (av := [.int (I 26 4)]) (st := []) hlau (x_X5_isName (l := l) (ω := ω) (a0 := I 26 4) hn (I := I)) dX1_readOne_11 w_339 w_340 w_66 w_341 md_X5_isName (by omega) (by decide) rfl (Nat.le_of_ble_eq_true rfl) (q := 14) rfl (fun v5 J4 => ?_)
    refine e_ifeq C (tgt := 35) (q := 17) dX1_readOne_14 rfl rfl ?_ ?_
    · refine e_aload_n C dX1_readOne_35 rfl 0 rfl (q := 36) rfl ?_
      refine e_getf C (k := 26) (j := 4) (T := TX1) (N := 7) (v := .int (J4 26 4)) dX1_readOne_36 (ltL hn (Nat.le_of_ble_eq_true rfl)) rfl rfl (by decide) in_X1 w_148 rfl (q := 39) rfl ?_
      refine e_bipush C dX1_readOne_39 b8_m19 (q := 41) rfl ?_
      refine e_icmpne C (tgt := 72) (q := 44) dX1_readOne_41 rfl rfl ?_ ?_
      · exact xb_X1_readOne_b72 C hlau hret hn hD hG _
      · refine e_iload_n C dX1_readOne_44 rfl 1 rfl (q := 45) rfl ?_
        refine e_iconst C dX1_readOne_45 ic_5 (q := 46) rfl ?_
        refine e_icmpge C (tgt := 72) (q := 49) dX1_readOne_46 rfl rfl ?_ ?_
        · exact xb_X1_readOne_b72 C hlau hret hn hD hG _
        · refine e_aload_n C dX1_readOne_49 rfl 0 rfl (q := 50) rfl ?_
          refine e_callVv C (l := l) (k := 26) (av := []) (st := []) hlau (x_X1_next (l := l) (ω := ω) hn (I := J4)) dX1_readOne_50 w_264 w_266 w_0 w_58 w_267 md_X1_next (by omega) (by decide) rfl (ltL hn (Nat.le_of_ble_eq_true rfl)) rfl rfl (Nat.le_of_ble_eq_true rfl) (q := 53) rfl (fun _ J10 => ?_)
          refine e_aload_n C dX1_readOne_53 rfl 0 rfl (q := 54) rfl ?_
          refine e_iload_n C dX1_readOne_54 rfl 1 rfl (q := 55) rfl ?_
          refine e_iconst C dX1_readOne_55 ic_1 (q := 56) rfl ?_
          refine e_iadd C dX1_readOne_56 (q := 57) rfl ?_
          refine e_callVv C (l := l) (k := 26) (av := [.int (a1 + (1 : Int32))]) (st := []) (y := yX1_readOne) (b := cX1_readOne) (maxL := 2) (ret := none) hlau (hG 5 (a1 + (1 : Int32)) J10) dX1_readOne_57 w_335 w_337 w_11 w_58 w_338 md_X1_readOne (Nat.lt_succ_self _) (by decide) rfl (ltL hn (Nat.le_of_ble_eq_true rfl)) rfl rfl (Nat.le_of_ble_eq_true rfl) (q := 60) rfl (fun _ J11 => ?_)
          refine e_aload_n C dX1_readOne_60 rfl 0 rfl (q := 61) rfl ?_
          refine e_into C hn dX1_readOne_61 in_X1 w_150 (q := 64) rfl (fun h12 => ?_)
          refine e_bipush C dX1_readOne_64 b8_m23 (q := 66) rfl ?_
          refine e_callVv C (l := l) (k := (30 + 3 * (J11 26 6 - 1).toNatClampNeg)) (av := [.int (-23 : Int32)]) (st := []) hlau (x_X4_write (l := l) (ω := ω) (τ := (J11 26 6 - 1).toNatClampNeg) (a1 := (-23 : Int32)) hn h12 (I := J11)) dX1_readOne_66 w_323 w_324 w_325 w_59 w_326 md_X4_write (by omega) (by decide) rfl (ltTx hn h12) (cOb_Tx (τ := (J11 26 6 - 1).toNatClampNeg) h12 _) rfl (Nat.le_of_ble_eq_true rfl) (q := 69) rfl (fun _ J13 => ?_)
          refine e_goto C (tgt := 110) dX1_readOne_69 rfl ?_
          exact e_vreturn C dX1_readOne_110 hret
    · exact e_lv [0] (lv1 := [(0, .ref (oA ω 26))]) rfl (xb_X1_readOne_b17 C hlau hret hn hD hG _)
set_option maxHeartbeats 4000000 in
set_option maxRecDepth 100000 in
theorem xb_X1_readTerm_b7 {l : Launch} {κ : Kx} {ω : Om} {a1 : Int32} {gR : Nat → Int32 → Mem → Option (Unit × Mem)} {D : Nat} (C : CX κ ω cX1_readTerm 3 (D + 1) yX1_readTerm.cls) (hlau : κ.2.1 = l) (hret : κ.2.2.2.2.2.2.2.2.1.sig.returnType = none) (hn : 56 ≤ oN ω) (hD : 10 ≤ D) (hG : ∀ w o J, CTv l ω (gy w) (gc w) (gm w) none D [.ref (oA ω 26), .int o] (gR w o J) J)  : ∀ (n : Nat) (x2 : Int32) (I : Mem), EE κ ω 3 (Gv κ ω) (f_X1_readTerm_b7 gR a1 n x2 I) I 7 [(2, .int x2), (0, .ref (oA ω 26)), (1, .int a1)] [] := by
  intro n
  induction n with
  | zero => intro x2 I; exact e_none
  | succ n ih =>
    intro x2 I
    rw [f_X1_readTerm_b7]
    refine e_iload_n C dX1_readTerm_7 rfl 0 rfl (q := 8) rfl ?_
    refine e_sipush C dX1_readTerm_8 b16_160 (q := 11) rfl ?_
    refine e_icmpge C (tgt := 47) (q := 14) dX1_readTerm_11 rfl rfl ?_ ?_
    · exact e_vreturn C dX1_readTerm_47 hret
    · refine e_aload_n C dX1_readTerm_14 rfl 1 rfl (q := 15) rfl ?_
      refine e_getf C (k := 26) (j := 4) (T := TX1) (N := 7) (v := .int (I 26 4)) dX1_readTerm_15 (ltL hn (Nat.le_of_ble_eq_true rfl)) rfl rfl (by decide) in_X1 w_148 rfl (q := 18) rfl ?_
      refine e_bipush C dX1_readTerm_18 b8_m20 (q := 20) rfl ?_
      refine e_icmpne C (tgt := 47) (q := 23) dX1_readTerm_20 rfl rfl ?_ ?_
      · exact e_vreturn C dX1_readTerm_47 hret
      · refine e_aload_n C dX1_readTerm_23 rfl 1 rfl (q := 24) rfl ?_
        refine e_callVv C (l := l) (k := 26) (av := []) (st := []) hlau (x_X1_next (l := l) (ω := ω) hn (I := I)) dX1_readTerm_24 w_264 w_266 w_0 w_58 w_267 md_X1_next (by omega) (by decide) rfl (ltL hn (Nat.le_of_ble_eq_true rfl)) rfl rfl (Nat.le_of_ble_eq_true rfl) (q := 27) rfl (fun _ J2 => ?_)
        refine e_aload_n C dX1_readTerm_27 rfl 1 rfl (q := 28) rfl ?_
        refine e_iload_n C dX1_readTerm_28 rfl 2 rfl (q := 29) rfl ?_
        refine e_callVv C (l := l) (k := 26) (av := [.int a1]) (st := []) (y := yX1_readOne) (b := cX1_readOne) (maxL := 2) (ret := none) hlau (hG 5 a1 J2) dX1_readTerm_29 w_335 w_337 w_11 w_58 w_338 md_X1_readOne (Nat.lt_succ_self _) (by decide) rfl (ltL hn (Nat.le_of_ble_eq_true rfl)) rfl rfl (Nat.le_of_ble_eq_true rfl) (q := 32) rfl (fun _ J3 => ?_)
        refine e_aload_n C dX1_readTerm_32 rfl 1 rfl (q := 33) rfl ?_
        refine e_into C hn dX1_readTerm_33 in_X1 w_150 (q := 36) rfl (fun h4 => ?_)
        refine e_bipush C dX1_readTerm_36 b8_m20 (q := 38) rfl ?_
        refine e_callVv C (l := l) (k := (30 + 3 * (J3 26 6 - 1).toNatClampNeg)) (av := [.int (-20 : Int32)]) (st := []) hlau (x_X4_write (l := l) (ω := ω) (τ := (J3 26 6 - 1).toNatClampNeg) (a1 := (-20 : Int32)) hn h4 (I := J3)) dX1_readTerm_38 w_323 w_324 w_325 w_59 w_326 md_X4_write (by omega) (by decide) rfl (ltTx hn h4) (cOb_Tx (τ := (J3 26 6 - 1).toNatClampNeg) h4 _) rfl (Nat.le_of_ble_eq_true rfl) (q := 41) rfl (fun _ J5 => ?_)
        refine e_iinc C (v := x2 + (1 : Int32)) (lv1 := [(2, .int (x2 + (1 : Int32))), (0, .ref (oA ω 26)), (1, .int a1)]) dX1_readTerm_41 0 rfl (Nat.le_of_ble_eq_true rfl) (by rw [ic_1]) rfl (q := 44) rfl ?_
        refine e_goto C (tgt := 7) dX1_readTerm_44 rfl ?_
        exact ih (x2 + (1 : Int32)) _
set_option maxHeartbeats 4000000 in
set_option maxRecDepth 100000 in
theorem xB_X1_readTerm {l : Launch} {ω : Om} {gR : Nat → Int32 → Mem → Option (Unit × Mem)} {D : Nat} {a1 : Int32} (hn : 56 ≤ oN ω) (hD : 10 ≤ D) (hG : ∀ w o J, CTv l ω (gy w) (gc w) (gm w) none D [.ref (oA ω 26), .int o] (gR w o J) J)  {I : Mem} : CTv l ω yX1_readTerm cX1_readTerm 3 none (D + 1) [.ref (oA ω 26), .int a1] (B_X1_readTerm gR a1 I) I := by
  refine ct_v (by decide) (Nat.le_of_ble_eq_true rfl) ?_
  intro κ hlau hret C
  refine e_lv [0, 1] (lv1 := [(0, .ref (oA ω 26)), (1, .int a1)]) rfl ?_
  unfold B_X1_readTerm
  refine e_aload_n C dX1_readTerm_0 rfl 0 rfl (q := 1) rfl ?_
  refine e_iload_n C dX1_readTerm_1 rfl 1 rfl (q := 2) rfl ?_
  refine e_callVv C (l := l) (k := 26) (av := [.int a1]) (st := []) (y := yX1_readOne) (b := cX1_readOne) (maxL := 2) (ret := none) hlau (hG 5 a1 I) dX1_readTerm_2 w_335 w_337 w_11 w_58 w_338 md_X1_readOne (Nat.lt_succ_self _) (by decide) rfl (ltL hn (Nat.le_of_ble_eq_true rfl)) rfl rfl (Nat.le_of_ble_eq_true rfl) (q := 5) rfl (fun _ J1 => ?_)
  refine e_iconst C dX1_readTerm_5 ic_0 (q := 6) rfl ?_
  refine e_istore_n C (lv1 := [(2, .int (0 : Int32)), (0, .ref (oA ω 26)), (1, .int a1)]) dX1_readTerm_6 rfl (Nat.le_of_ble_eq_true rfl) rfl (q := 7) rfl ?_
  exact xb_X1_readTerm_b7 C hlau hret hn hD hG FU (0 : Int32) _
set_option maxHeartbeats 4000000 in
set_option maxRecDepth 100000 in
theorem xb_X1_readSum_b32 {l : Launch} {κ : Kx} {ω : Om} {a1 : Int32} {gR : Nat → Int32 → Mem → Option (Unit × Mem)} {D : Nat} (C : CX κ ω cX1_readSum 4 (D + 1) yX1_readSum.cls) (hlau : κ.2.1 = l) (hret : κ.2.2.2.2.2.2.2.2.1.sig.returnType = none) (hn : 56 ≤ oN ω) (hD : 10 ≤ D) (hG : ∀ w o J, CTv l ω (gy w) (gc w) (gm w) none D [.ref (oA ω 26), .int o] (gR w o J) J)  {K7 : Int32 → Mem → Option (Unit × Mem)} (hK7 : ∀ (x2 : Int32) (J : Mem), EE κ ω 4 (Gv κ ω) (K7 x2 J) J 7 [(2, .int x2), (0, .ref (oA ω 26)), (1, .int a1)] []) : ∀ (x2 : Int32) (I : Mem), EE κ ω 4 (Gv κ ω) (f_X1_readSum_b32 gR a1 K7 x2 I) I 32 [(2, .int x2), (0, .ref (oA ω 26)), (1, .int a1)] [] := by
  intro x2 I
  unfold f_X1_readSum_b32
  refine e_aload_n C dX1_readSum_32 rfl 1 rfl (q := 33) rfl ?_
  refine e_getf C (k := 26) (j := 4) (T := TX1) (N := 7) (v := .int (I 26 4)) dX1_readSum_33 (ltL hn (Nat.le_of_ble_eq_true rfl)) rfl rfl (by decide) in_X1 w_148 rfl (q := 36) rfl ?_
  refine e_nmi (fun v2 => ?_)
  refine e_istore_n C (lv1 := [(3, .int v2), (2, .int x2), (0, .ref (oA ω 26)), (1, .int a1)]) dX1_readSum_36 rfl (Nat.le_of_ble_eq_true rfl) rfl (q := 37) rfl ?_
  refine e_aload_n C dX1_readSum_37 rfl 2 rfl (q := 38) rfl ?_
  refine e_callVv C (l := l) (k := 26) (av := []) (st := []) hlau (x_X1_next (l := l) (ω := ω) hn (I := I)) dX1_readSum_38 w_264 w_266 w_0 w_58 w_267 md_X1_next (by omega) (by decide) rfl (ltL hn (Nat.le_of_ble_eq_true rfl)) rfl rfl (Nat.le_of_ble_eq_true rfl) (q := 41) rfl (fun _ J3 => ?_)
  refine e_aload_n C dX1_readSum_41 rfl 2 rfl (q := 42) rfl ?_
  refine e_iload_n C dX1_readSum_42 rfl 3 rfl (q := 43) rfl ?_
  refine e_callVv C (l := l) (k := 26) (av := [.int a1]) (st := []) (y := yX1_readTerm) (b := cX1_readTerm) (maxL := 3) (ret := none) hlau (hG 4 a1 J3) dX1_readSum_43 w_331 w_333 w_10 w_58 w_334 md_X1_readTerm (Nat.lt_succ_self _) (by decide) rfl (ltL hn (Nat.le_of_ble_eq_true rfl)) rfl rfl (Nat.le_of_ble_eq_true rfl) (q := 46) rfl (fun _ J4 => ?_)
  refine e_aload_n C dX1_readSum_46 rfl 2 rfl (q := 47) rfl ?_
  refine e_into C hn dX1_readSum_47 in_X1 w_150 (q := 50) rfl (fun h5 => ?_)
  refine e_iload_n C dX1_readSum_50 rfl 0 rfl (q := 51) rfl ?_
  refine e_callVv C (l := l) (k := (30 + 3 * (J4 26 6 - 1).toNatClampNeg)) (av := [.int v2]) (st := []) hlau (x_X4_write (l := l) (ω := ω) (τ := (J4 26 6 - 1).toNatClampNeg) (a1 := v2) hn h5 (I := J4)) dX1_readSum_51 w_323 w_324 w_325 w_59 w_326 md_X4_write (by omega) (by decide) rfl (ltTx hn h5) (cOb_Tx (τ := (J4 26 6 - 1).toNatClampNeg) h5 _) rfl (Nat.le_of_ble_eq_true rfl) (q := 54) rfl (fun _ J6 => ?_)
  refine e_iinc C (v := x2 + (1 : Int32)) (lv1 := [(2, .int (x2 + (1 : Int32))), (3, .int v2), (0, .ref (oA ω 26)), (1, .int a1)]) dX1_readSum_54 1 rfl (Nat.le_of_ble_eq_true rfl) (by rw [ic_1]) rfl (q := 57) rfl ?_
  refine e_goto C (tgt := 7) dX1_readSum_57 rfl ?_
  exact e_lv [0, 2, 3] (lv1 := [(2, .int (x2 + (1 : Int32))), (0, .ref (oA ω 26)), (1, .int a1)]) rfl (hK7 (x2 + (1 : Int32)) _)
set_option maxHeartbeats 4000000 in
set_option maxRecDepth 100000 in
theorem xb_X1_readSum_b7 {l : Launch} {κ : Kx} {ω : Om} {a1 : Int32} {gR : Nat → Int32 → Mem → Option (Unit × Mem)} {D : Nat} (C : CX κ ω cX1_readSum 4 (D + 1) yX1_readSum.cls) (hlau : κ.2.1 = l) (hret : κ.2.2.2.2.2.2.2.2.1.sig.returnType = none) (hn : 56 ≤ oN ω) (hD : 10 ≤ D) (hG : ∀ w o J, CTv l ω (gy w) (gc w) (gm w) none D [.ref (oA ω 26), .int o] (gR w o J) J)  : ∀ (n : Nat) (x2 : Int32) (I : Mem), EE κ ω 4 (Gv κ ω) (f_X1_readSum_b7 gR a1 n x2 I) I 7 [(2, .int x2), (0, .ref (oA ω 26)), (1, .int a1)] [] := by
  intro n
  induction n with
  | zero => intro x2 I; exact e_none
  | succ n ih =>
    intro x2 I
    rw [f_X1_readSum_b7]
    refine e_iload_n C dX1_readSum_7 rfl 0 rfl (q := 8) rfl ?_
    refine e_sipush C dX1_readSum_8 b16_160 (q := 11) rfl ?_
    refine e_icmpge C (tgt := 60) (q := 14) dX1_readSum_11 rfl rfl ?_ ?_
    · exact e_vreturn C dX1_readSum_60 hret
    · refine e_aload_n C dX1_readSum_14 rfl 1 rfl (q := 15) rfl ?_
      refine e_getf C (k := 26) (j := 4) (T := TX1) (N := 7) (v := .int (I 26 4)) dX1_readSum_15 (ltL hn (Nat.le_of_ble_eq_true rfl)) rfl rfl (by decide) in_X1 w_148 rfl (q := 18) rfl ?_
      refine e_bipush C dX1_readSum_18 b8_m18 (q := 20) rfl ?_
      refine e_icmpeq C (tgt := 32) (q := 23) dX1_readSum_20 rfl rfl ?_ ?_
      · exact xb_X1_readSum_b32 C hlau hret hn hD hG ih x2 _
      · refine e_aload_n C dX1_readSum_23 rfl 1 rfl (q := 24) rfl ?_
        refine e_getf C (k := 26) (j := 4) (T := TX1) (N := 7) (v := .int (I 26 4)) dX1_readSum_24 (ltL hn (Nat.le_of_ble_eq_true rfl)) rfl rfl (by decide) in_X1 w_148 rfl (q := 27) rfl ?_
        refine e_bipush C dX1_readSum_27 b8_m19 (q := 29) rfl ?_
        refine e_icmpne C (tgt := 60) (q := 32) dX1_readSum_29 rfl rfl ?_ ?_
        · exact e_vreturn C dX1_readSum_60 hret
        · exact xb_X1_readSum_b32 C hlau hret hn hD hG ih x2 _
set_option maxHeartbeats 4000000 in
set_option maxRecDepth 100000 in
theorem xB_X1_readSum {l : Launch} {ω : Om} {gR : Nat → Int32 → Mem → Option (Unit × Mem)} {D : Nat} {a1 : Int32} (hn : 56 ≤ oN ω) (hD : 10 ≤ D) (hG : ∀ w o J, CTv l ω (gy w) (gc w) (gm w) none D [.ref (oA ω 26), .int o] (gR w o J) J)  {I : Mem} : CTv l ω yX1_readSum cX1_readSum 4 none (D + 1) [.ref (oA ω 26), .int a1] (B_X1_readSum gR a1 I) I := by
  refine ct_v (by decide) (Nat.le_of_ble_eq_true rfl) ?_
  intro κ hlau hret C
  refine e_lv [0, 1] (lv1 := [(0, .ref (oA ω 26)), (1, .int a1)]) rfl ?_
  unfold B_X1_readSum
  refine e_aload_n C dX1_readSum_0 rfl 0 rfl (q := 1) rfl ?_
  refine e_iload_n C dX1_readSum_1 rfl 1 rfl (q := 2) rfl ?_
  refine e_callVv C (l := l) (k := 26) (av := [.int a1]) (st := []) (y := yX1_readTerm) (b := cX1_readTerm) (maxL := 3) (ret := none) hlau (hG 4 a1 I) dX1_readSum_2 w_331 w_333 w_10 w_58 w_334 md_X1_readTerm (Nat.lt_succ_self _) (by decide) rfl (ltL hn (Nat.le_of_ble_eq_true rfl)) rfl rfl (Nat.le_of_ble_eq_true rfl) (q := 5) rfl (fun _ J1 => ?_)
  refine e_iconst C dX1_readSum_5 ic_0 (q := 6) rfl ?_
  refine e_istore_n C (lv1 := [(2, .int (0 : Int32)), (0, .ref (oA ω 26)), (1, .int a1)]) dX1_readSum_6 rfl (Nat.le_of_ble_eq_true rfl) rfl (q := 7) rfl ?_
  exact xb_X1_readSum_b7 C hlau hret hn hD hG FU (0 : Int32) _
set_option maxHeartbeats 4000000 in
set_option maxRecDepth 100000 in
theorem xb_X1_readNot_b58 {l : Launch} {κ : Kx} {ω : Om} {a1 : Int32} {gR : Nat → Int32 → Mem → Option (Unit × Mem)} {D : Nat} (C : CX κ ω cX1_readNot 3 (D + 1) yX1_readNot.cls) (hlau : κ.2.1 = l) (hret : κ.2.2.2.2.2.2.2.2.1.sig.returnType = none) (hn : 56 ≤ oN ω) (hD : 10 ≤ D) (hG : ∀ w o J, CTv l ω (gy w) (gc w) (gm w) none D [.ref (oA ω 26), .int o] (gR w o J) J)  : ∀  (I : Mem), EE κ ω 3 (Gv κ ω) (f_X1_readNot_b58 gR a1  I) I 58 [(0, .ref (oA ω 26)), (1, .int a1)] [] := by
  intro  I
  unfold f_X1_readNot_b58
  refine e_aload_n C dX1_readNot_58 rfl 0 rfl (q := 59) rfl ?_
  refine e_getf C (k := 26) (j := 4) (T := TX1) (N := 7) (v := .int (I 26 4)) dX1_readNot_59 (ltL hn (Nat.le_of_ble_eq_true rfl)) rfl rfl (by decide) in_X1 w_148 rfl (q := 62) rfl ?_
  refine e_nmi (fun v2 => ?_)
  refine e_istore_n C (lv1 := [(2, .int v2), (0, .ref (oA ω 26)), (1, .int a1)]) dX1_readNot_62 rfl (Nat.le_of_ble_eq_true rfl) rfl (q := 63) rfl ?_
  refine e_aload_n C dX1_readNot_63 rfl 1 rfl (q := 64) rfl ?_
  refine e_callVv C (l := l) (k := 26) (av := []) (st := []) hlau (x_X1_next (l := l) (ω := ω) hn (I := I)) dX1_readNot_64 w_264 w_266 w_0 w_58 w_267 md_X1_next (by omega) (by decide) rfl (ltL hn (Nat.le_of_ble_eq_true rfl)) rfl rfl (Nat.le_of_ble_eq_true rfl) (q := 67) rfl (fun _ J3 => ?_)
  refine e_aload_n C dX1_readNot_67 rfl 1 rfl (q := 68) rfl ?_
  refine e_iload_n C dX1_readNot_68 rfl 2 rfl (q := 69) rfl ?_
  refine e_callVv C (l := l) (k := 26) (av := [.int a1]) (st := []) (y := yX1_readSum) (b := cX1_readSum) (maxL := 4) (ret := none) hlau (hG 3 a1 J3) dX1_readNot_69 w_327 w_329 w_9 w_58 w_330 md_X1_readSum (Nat.lt_succ_self _) (by decide) rfl (ltL hn (Nat.le_of_ble_eq_true rfl)) rfl rfl (Nat.le_of_ble_eq_true rfl) (q := 72) rfl (fun _ J4 => ?_)
  refine e_aload_n C dX1_readNot_72 rfl 1 rfl (q := 73) rfl ?_
  refine e_into C hn dX1_readNot_73 in_X1 w_150 (q := 76) rfl (fun h5 => ?_)
  refine e_iload_n C dX1_readNot_76 rfl 0 rfl (q := 77) rfl ?_
  refine e_callVv C (l := l) (k := (30 + 3 * (J4 26 6 - 1).toNatClampNeg)) (av := [.int v2]) (st := []) hlau (x_X4_write (l := l) (ω := ω) (τ := (J4 26 6 - 1).toNatClampNeg) (a1 := v2) hn h5 (I := J4)) dX1_readNot_77 w_323 w_324 w_325 w_59 w_326 md_X4_write (by omega) (by decide) rfl (ltTx hn h5) (cOb_Tx (τ := (J4 26 6 - 1).toNatClampNeg) h5 _) rfl (Nat.le_of_ble_eq_true rfl) (q := 80) rfl (fun _ J6 => ?_)
  exact e_vreturn C dX1_readNot_80 hret
set_option maxHeartbeats 4000000 in
set_option maxRecDepth 100000 in
theorem xb_X1_readNot_b35 {l : Launch} {κ : Kx} {ω : Om} {a1 : Int32} {gR : Nat → Int32 → Mem → Option (Unit × Mem)} {D : Nat} (C : CX κ ω cX1_readNot 3 (D + 1) yX1_readNot.cls) (hlau : κ.2.1 = l) (hret : κ.2.2.2.2.2.2.2.2.1.sig.returnType = none) (hn : 56 ≤ oN ω) (hD : 10 ≤ D) (hG : ∀ w o J, CTv l ω (gy w) (gc w) (gm w) none D [.ref (oA ω 26), .int o] (gR w o J) J)  : ∀  (I : Mem), EE κ ω 3 (Gv κ ω) (f_X1_readNot_b35 gR a1  I) I 35 [(0, .ref (oA ω 26)), (1, .int a1)] [] := by
  intro  I
  unfold f_X1_readNot_b35
  refine e_aload_n C dX1_readNot_35 rfl 0 rfl (q := 36) rfl ?_
  refine e_iload_n C dX1_readNot_36 rfl 1 rfl (q := 37) rfl ?_
  refine e_callVv C (l := l) (k := 26) (av := [.int a1]) (st := []) (y := yX1_readSum) (b := cX1_readSum) (maxL := 4) (ret := none) hlau (hG 3 a1 I) dX1_readNot_37 w_327 w_329 w_9 w_58 w_330 md_X1_readSum (Nat.lt_succ_self _) (by decide) rfl (ltL hn (Nat.le_of_ble_eq_true rfl)) rfl rfl (Nat.le_of_ble_eq_true rfl) (q := 40) rfl (fun _ J1 => ?_)
  refine e_aload_n C dX1_readNot_40 rfl 0 rfl (q := 41) rfl ?_
  refine e_getf C (k := 26) (j := 4) (T := TX1) (N := 7) (v := .int (J1 26 4)) dX1_readNot_41 (ltL hn (Nat.le_of_ble_eq_true rfl)) rfl rfl (by decide) in_X1 w_148 rfl (q := 44) rfl ?_
  refine e_bipush C dX1_readNot_44 b8_m21 (q := 46) rfl ?_
  refine e_icmpeq C (tgt := 58) (q := 49) dX1_readNot_46 rfl rfl ?_ ?_
  · exact xb_X1_readNot_b58 C hlau hret hn hD hG _
  · refine e_aload_n C dX1_readNot_49 rfl 0 rfl (q := 50) rfl ?_
    refine e_getf C (k := 26) (j := 4) (T := TX1) (N := 7) (v := .int (J1 26 4)) dX1_readNot_50 (ltL hn (Nat.le_of_ble_eq_true rfl)) rfl rfl (by decide) in_X1 w_148 rfl (q := 53) rfl ?_
    refine e_bipush C dX1_readNot_53 b8_m22 (q := 55) rfl ?_
    refine e_icmpne C (tgt := 80) (q := 58) dX1_readNot_55 rfl rfl ?_ ?_
    · exact e_vreturn C dX1_readNot_80 hret
    · exact xb_X1_readNot_b58 C hlau hret hn hD hG _
set_option maxHeartbeats 4000000 in
set_option maxRecDepth 100000 in
theorem xB_X1_readNot {l : Launch} {ω : Om} {gR : Nat → Int32 → Mem → Option (Unit × Mem)} {D : Nat} {a1 : Int32} (hn : 56 ≤ oN ω) (hD : 10 ≤ D) (hG : ∀ w o J, CTv l ω (gy w) (gc w) (gm w) none D [.ref (oA ω 26), .int o] (gR w o J) J)  {I : Mem} : CTv l ω yX1_readNot cX1_readNot 3 none (D + 1) [.ref (oA ω 26), .int a1] (B_X1_readNot gR a1 I) I := by
  refine ct_v (by decide) (Nat.le_of_ble_eq_true rfl) ?_
  intro κ hlau hret C
  refine e_lv [0, 1] (lv1 := [(0, .ref (oA ω 26)), (1, .int a1)]) rfl ?_
  unfold B_X1_readNot
  refine e_aload_n C dX1_readNot_0 rfl 0 rfl (q := 1) rfl ?_
  refine e_getf C (k := 26) (j := 4) (T := TX1) (N := 7) (v := .int (I 26 4)) dX1_readNot_1 (ltL hn (Nat.le_of_ble_eq_true rfl)) rfl rfl (by decide) in_X1 w_148 rfl (q := 4) rfl ?_
  refine e_bipush C dX1_readNot_4 b8_m8 (q := 6) rfl ?_
  refine e_icmpne C (tgt := 35) (q := 9) dX1_readNot_6 rfl rfl ?_ ?_
  · exact xb_X1_readNot_b35 C hlau hret hn hD hG _
  · refine e_iload_n C dX1_readNot_9 rfl 1 rfl (q := 10) rfl ?_
    refine e_iconst C dX1_readNot_10 ic_5 (q := 11) rfl ?_
    refine e_icmpge C (tgt := 35) (q := 14) dX1_readNot_11 rfl rfl ?_ ?_
    · exact xb_X1_readNot_b35 C hlau hret hn hD hG _
    · refine e_aload_n C dX1_readNot_14 rfl 0 rfl (q := 15) rfl ?_
      refine e_callVv C (l := l) (k := 26) (av := []) (st := []) hlau (x_X1_next (l := l) (ω := ω) hn (I := I)) dX1_readNot_15 w_264 w_266 w_0 w_58 w_267 md_X1_next (by omega) (by decide) rfl (ltL hn (Nat.le_of_ble_eq_true rfl)) rfl rfl (Nat.le_of_ble_eq_true rfl) (q := 18) rfl (fun _ J7 => ?_)
      refine e_aload_n C dX1_readNot_18 rfl 0 rfl (q := 19) rfl ?_
      refine e_iload_n C dX1_readNot_19 rfl 1 rfl (q := 20) rfl ?_
      refine e_iconst C dX1_readNot_20 ic_1 (q := 21) rfl ?_
      refine e_iadd C dX1_readNot_21 (q := 22) rfl ?_
      refine e_callVv C (l := l) (k := 26) (av := [.int (a1 + (1 : Int32))]) (st := []) (y := yX1_readNot) (b := cX1_readNot) (maxL := 3) (ret := none) hlau (hG 2 (a1 + (1 : Int32)) J7) dX1_readNot_22 w_319 w_321 w_8 w_58 w_322 md_X1_readNot (Nat.lt_succ_self _) (by decide) rfl (ltL hn (Nat.le_of_ble_eq_true rfl)) rfl rfl (Nat.le_of_ble_eq_true rfl) (q := 25) rfl (fun _ J8 => ?_)
      refine e_aload_n C dX1_readNot_25 rfl 0 rfl (q := 26) rfl ?_
      refine e_into C hn dX1_readNot_26 in_X1 w_150 (q := 29) rfl (fun h9 => ?_)
      refine e_bipush C dX1_readNot_29 b8_m8 (q := 31) rfl ?_
      refine e_callVv C (l := l) (k := (30 + 3 * (J8 26 6 - 1).toNatClampNeg)) (av := [.int (-8 : Int32)]) (st := []) hlau (x_X4_write (l := l) (ω := ω) (τ := (J8 26 6 - 1).toNatClampNeg) (a1 := (-8 : Int32)) hn h9 (I := J8)) dX1_readNot_31 w_323 w_324 w_325 w_59 w_326 md_X4_write (by omega) (by decide) rfl (ltTx hn h9) (cOb_Tx (τ := (J8 26 6 - 1).toNatClampNeg) h9 _) rfl (Nat.le_of_ble_eq_true rfl) (q := 34) rfl (fun _ J10 => ?_)
      exact e_vreturn C dX1_readNot_34 hret
set_option maxHeartbeats 4000000 in
set_option maxRecDepth 100000 in
theorem xb_X1_readAnd_b7 {l : Launch} {κ : Kx} {ω : Om} {a1 : Int32} {gR : Nat → Int32 → Mem → Option (Unit × Mem)} {D : Nat} (C : CX κ ω cX1_readAnd 3 (D + 1) yX1_readAnd.cls) (hlau : κ.2.1 = l) (hret : κ.2.2.2.2.2.2.2.2.1.sig.returnType = none) (hn : 56 ≤ oN ω) (hD : 10 ≤ D) (hG : ∀ w o J, CTv l ω (gy w) (gc w) (gm w) none D [.ref (oA ω 26), .int o] (gR w o J) J)  : ∀ (n : Nat) (x2 : Int32) (I : Mem), EE κ ω 3 (Gv κ ω) (f_X1_readAnd_b7 gR a1 n x2 I) I 7 [(2, .int x2), (0, .ref (oA ω 26)), (1, .int a1)] [] := by
  intro n
  induction n with
  | zero => intro x2 I; exact e_none
  | succ n ih =>
    intro x2 I
    rw [f_X1_readAnd_b7]
    refine e_iload_n C dX1_readAnd_7 rfl 0 rfl (q := 8) rfl ?_
    refine e_sipush C dX1_readAnd_8 b16_160 (q := 11) rfl ?_
    refine e_icmpge C (tgt := 47) (q := 14) dX1_readAnd_11 rfl rfl ?_ ?_
    · exact e_vreturn C dX1_readAnd_47 hret
    · refine e_aload_n C dX1_readAnd_14 rfl 1 rfl (q := 15) rfl ?_
      refine e_getf C (k := 26) (j := 4) (T := TX1) (N := 7) (v := .int (I 26 4)) dX1_readAnd_15 (ltL hn (Nat.le_of_ble_eq_true rfl)) rfl rfl (by decide) in_X1 w_148 rfl (q := 18) rfl ?_
      refine e_bipush C dX1_readAnd_18 b8_m7 (q := 20) rfl ?_
      refine e_icmpne C (tgt := 47) (q := 23) dX1_readAnd_20 rfl rfl ?_ ?_
      · exact e_vreturn C dX1_readAnd_47 hret
      · refine e_aload_n C dX1_readAnd_23 rfl 1 rfl (q := 24) rfl ?_
        refine e_callVv C (l := l) (k := 26) (av := []) (st := []) hlau (x_X1_next (l := l) (ω := ω) hn (I := I)) dX1_readAnd_24 w_264 w_266 w_0 w_58 w_267 md_X1_next (by omega) (by decide) rfl (ltL hn (Nat.le_of_ble_eq_true rfl)) rfl rfl (Nat.le_of_ble_eq_true rfl) (q := 27) rfl (fun _ J2 => ?_)
        refine e_aload_n C dX1_readAnd_27 rfl 1 rfl (q := 28) rfl ?_
        refine e_iload_n C dX1_readAnd_28 rfl 2 rfl (q := 29) rfl ?_
        refine e_callVv C (l := l) (k := 26) (av := [.int a1]) (st := []) (y := yX1_readNot) (b := cX1_readNot) (maxL := 3) (ret := none) hlau (hG 2 a1 J2) dX1_readAnd_29 w_319 w_321 w_8 w_58 w_322 md_X1_readNot (Nat.lt_succ_self _) (by decide) rfl (ltL hn (Nat.le_of_ble_eq_true rfl)) rfl rfl (Nat.le_of_ble_eq_true rfl) (q := 32) rfl (fun _ J3 => ?_)
        refine e_aload_n C dX1_readAnd_32 rfl 1 rfl (q := 33) rfl ?_
        refine e_into C hn dX1_readAnd_33 in_X1 w_150 (q := 36) rfl (fun h4 => ?_)
        refine e_bipush C dX1_readAnd_36 b8_m7 (q := 38) rfl ?_
        refine e_callVv C (l := l) (k := (30 + 3 * (J3 26 6 - 1).toNatClampNeg)) (av := [.int (-7 : Int32)]) (st := []) hlau (x_X4_write (l := l) (ω := ω) (τ := (J3 26 6 - 1).toNatClampNeg) (a1 := (-7 : Int32)) hn h4 (I := J3)) dX1_readAnd_38 w_323 w_324 w_325 w_59 w_326 md_X4_write (by omega) (by decide) rfl (ltTx hn h4) (cOb_Tx (τ := (J3 26 6 - 1).toNatClampNeg) h4 _) rfl (Nat.le_of_ble_eq_true rfl) (q := 41) rfl (fun _ J5 => ?_)
        refine e_iinc C (v := x2 + (1 : Int32)) (lv1 := [(2, .int (x2 + (1 : Int32))), (0, .ref (oA ω 26)), (1, .int a1)]) dX1_readAnd_41 0 rfl (Nat.le_of_ble_eq_true rfl) (by rw [ic_1]) rfl (q := 44) rfl ?_
        refine e_goto C (tgt := 7) dX1_readAnd_44 rfl ?_
        exact ih (x2 + (1 : Int32)) _
set_option maxHeartbeats 4000000 in
set_option maxRecDepth 100000 in
theorem xB_X1_readAnd {l : Launch} {ω : Om} {gR : Nat → Int32 → Mem → Option (Unit × Mem)} {D : Nat} {a1 : Int32} (hn : 56 ≤ oN ω) (hD : 10 ≤ D) (hG : ∀ w o J, CTv l ω (gy w) (gc w) (gm w) none D [.ref (oA ω 26), .int o] (gR w o J) J)  {I : Mem} : CTv l ω yX1_readAnd cX1_readAnd 3 none (D + 1) [.ref (oA ω 26), .int a1] (B_X1_readAnd gR a1 I) I := by
  refine ct_v (by decide) (Nat.le_of_ble_eq_true rfl) ?_
  intro κ hlau hret C
  refine e_lv [0, 1] (lv1 := [(0, .ref (oA ω 26)), (1, .int a1)]) rfl ?_
  unfold B_X1_readAnd
  refine e_aload_n C dX1_readAnd_0 rfl 0 rfl (q := 1) rfl ?_
  refine e_iload_n C dX1_readAnd_1 rfl 1 rfl (q := 2) rfl ?_
  refine e_callVv C (l := l) (k := 26) (av := [.int a1]) (st := []) (y := yX1_readNot) (b := cX1_readNot) (maxL := 3) (ret := none) hlau (hG 2 a1 I) dX1_readAnd_2 w_319 w_321 w_8 w_58 w_322 md_X1_readNot (Nat.lt_succ_self _) (by decide) rfl (ltL hn (Nat.le_of_ble_eq_true rfl)) rfl rfl (Nat.le_of_ble_eq_true rfl) (q := 5) rfl (fun _ J1 => ?_)
  refine e_iconst C dX1_readAnd_5 ic_0 (q := 6) rfl ?_
  refine e_istore_n C (lv1 := [(2, .int (0 : Int32)), (0, .ref (oA ω 26)), (1, .int a1)]) dX1_readAnd_6 rfl (Nat.le_of_ble_eq_true rfl) rfl (q := 7) rfl ?_
  exact xb_X1_readAnd_b7 C hlau hret hn hD hG FU (0 : Int32) _
set_option maxHeartbeats 4000000 in
set_option maxRecDepth 100000 in
theorem xb_X1_readE_b7 {l : Launch} {κ : Kx} {ω : Om} {a1 : Int32} {gR : Nat → Int32 → Mem → Option (Unit × Mem)} {D : Nat} (C : CX κ ω cX1_readE 3 (D + 1) yX1_readE.cls) (hlau : κ.2.1 = l) (hret : κ.2.2.2.2.2.2.2.2.1.sig.returnType = none) (hn : 56 ≤ oN ω) (hD : 10 ≤ D) (hG : ∀ w o J, CTv l ω (gy w) (gc w) (gm w) none D [.ref (oA ω 26), .int o] (gR w o J) J)  : ∀ (n : Nat) (x2 : Int32) (I : Mem), EE κ ω 3 (Gv κ ω) (f_X1_readE_b7 gR a1 n x2 I) I 7 [(2, .int x2), (0, .ref (oA ω 26)), (1, .int a1)] [] := by
  intro n
  induction n with
  | zero => intro x2 I; exact e_none
  | succ n ih =>
    intro x2 I
    rw [f_X1_readE_b7]
    refine e_iload_n C dX1_readE_7 rfl 0 rfl (q := 8) rfl ?_
    refine e_sipush C dX1_readE_8 b16_160 (q := 11) rfl ?_
    refine e_icmpge C (tgt := 47) (q := 14) dX1_readE_11 rfl rfl ?_ ?_
    · exact e_vreturn C dX1_readE_47 hret
    · refine e_aload_n C dX1_readE_14 rfl 1 rfl (q := 15) rfl ?_
      refine e_getf C (k := 26) (j := 4) (T := TX1) (N := 7) (v := .int (I 26 4)) dX1_readE_15 (ltL hn (Nat.le_of_ble_eq_true rfl)) rfl rfl (by decide) in_X1 w_148 rfl (q := 18) rfl ?_
      refine e_bipush C dX1_readE_18 b8_m6 (q := 20) rfl ?_
      refine e_icmpne C (tgt := 47) (q := 23) dX1_readE_20 rfl rfl ?_ ?_
      · exact e_vreturn C dX1_readE_47 hret
      · refine e_aload_n C dX1_readE_23 rfl 1 rfl (q := 24) rfl ?_
        refine e_callVv C (l := l) (k := 26) (av := []) (st := []) hlau (x_X1_next (l := l) (ω := ω) hn (I := I)) dX1_readE_24 w_264 w_266 w_0 w_58 w_267 md_X1_next (by omega) (by decide) rfl (ltL hn (Nat.le_of_ble_eq_true rfl)) rfl rfl (Nat.le_of_ble_eq_true rfl) (q := 27) rfl (fun _ J2 => ?_)
        refine e_aload_n C dX1_readE_27 rfl 1 rfl (q := 28) rfl ?_
        refine e_iload_n C dX1_readE_28 rfl 2 rfl (q := 29) rfl ?_
        refine e_callVv C (l := l) (k := 26) (av := [.int a1]) (st := []) (y := yX1_readAnd) (b := cX1_readAnd) (maxL := 3) (ret := none) hlau (hG 1 a1 J2) dX1_readE_29 w_315 w_317 w_7 w_58 w_318 md_X1_readAnd (Nat.lt_succ_self _) (by decide) rfl (ltL hn (Nat.le_of_ble_eq_true rfl)) rfl rfl (Nat.le_of_ble_eq_true rfl) (q := 32) rfl (fun _ J3 => ?_)
        refine e_aload_n C dX1_readE_32 rfl 1 rfl (q := 33) rfl ?_
        refine e_into C hn dX1_readE_33 in_X1 w_150 (q := 36) rfl (fun h4 => ?_)
        refine e_bipush C dX1_readE_36 b8_m6 (q := 38) rfl ?_
        refine e_callVv C (l := l) (k := (30 + 3 * (J3 26 6 - 1).toNatClampNeg)) (av := [.int (-6 : Int32)]) (st := []) hlau (x_X4_write (l := l) (ω := ω) (τ := (J3 26 6 - 1).toNatClampNeg) (a1 := (-6 : Int32)) hn h4 (I := J3)) dX1_readE_38 w_323 w_324 w_325 w_59 w_326 md_X4_write (by omega) (by decide) rfl (ltTx hn h4) (cOb_Tx (τ := (J3 26 6 - 1).toNatClampNeg) h4 _) rfl (Nat.le_of_ble_eq_true rfl) (q := 41) rfl (fun _ J5 => ?_)
        refine e_iinc C (v := x2 + (1 : Int32)) (lv1 := [(2, .int (x2 + (1 : Int32))), (0, .ref (oA ω 26)), (1, .int a1)]) dX1_readE_41 0 rfl (Nat.le_of_ble_eq_true rfl) (by rw [ic_1]) rfl (q := 44) rfl ?_
        refine e_goto C (tgt := 7) dX1_readE_44 rfl ?_
        exact ih (x2 + (1 : Int32)) _
set_option maxHeartbeats 4000000 in
set_option maxRecDepth 100000 in
theorem xB_X1_readE {l : Launch} {ω : Om} {gR : Nat → Int32 → Mem → Option (Unit × Mem)} {D : Nat} {a1 : Int32} (hn : 56 ≤ oN ω) (hD : 10 ≤ D) (hG : ∀ w o J, CTv l ω (gy w) (gc w) (gm w) none D [.ref (oA ω 26), .int o] (gR w o J) J)  {I : Mem} : CTv l ω yX1_readE cX1_readE 3 none (D + 1) [.ref (oA ω 26), .int a1] (B_X1_readE gR a1 I) I := by
  refine ct_v (by decide) (Nat.le_of_ble_eq_true rfl) ?_
  intro κ hlau hret C
  refine e_lv [0, 1] (lv1 := [(0, .ref (oA ω 26)), (1, .int a1)]) rfl ?_
  unfold B_X1_readE
  refine e_aload_n C dX1_readE_0 rfl 0 rfl (q := 1) rfl ?_
  refine e_iload_n C dX1_readE_1 rfl 1 rfl (q := 2) rfl ?_
  refine e_callVv C (l := l) (k := 26) (av := [.int a1]) (st := []) (y := yX1_readAnd) (b := cX1_readAnd) (maxL := 3) (ret := none) hlau (hG 1 a1 I) dX1_readE_2 w_315 w_317 w_7 w_58 w_318 md_X1_readAnd (Nat.lt_succ_self _) (by decide) rfl (ltL hn (Nat.le_of_ble_eq_true rfl)) rfl rfl (Nat.le_of_ble_eq_true rfl) (q := 5) rfl (fun _ J1 => ?_)
  refine e_iconst C dX1_readE_5 ic_0 (q := 6) rfl ?_
  refine e_istore_n C (lv1 := [(2, .int (0 : Int32)), (0, .ref (oA ω 26)), (1, .int a1)]) dX1_readE_6 rfl (Nat.le_of_ble_eq_true rfl) rfl (q := 7) rfl ?_
  exact xb_X1_readE_b7 C hlau hret hn hD hG FU (0 : Int32) _
set_option maxHeartbeats 4000000 in
set_option maxRecDepth 100000 in
theorem x_rd {l : Launch} {ω : Om} (hn : 56 ≤ oN ω) : ∀ (g w : Nat) (o : Int32) (I : Mem), CTv l ω (gy w) (gc w) (gm w) none (10 + g) [.ref (oA ω 26), .int o] (f_rd g w o I) I := by
  intro g
  induction g with
  | zero => intro w o I r hr; exact nomatch hr
  | succ g ih =>
    intro w o I
    by_cases h0 : w = 0
    · subst h0
      exact xB_X1_readE (l := l) (a1 := o) hn (Nat.le_add_right 10 g) (fun w o J => ih w o J)
    by_cases h1 : w = 1
    · subst h1
      exact xB_X1_readAnd (l := l) (a1 := o) hn (Nat.le_add_right 10 g) (fun w o J => ih w o J)
    by_cases h2 : w = 2
    · subst h2
      exact xB_X1_readNot (l := l) (a1 := o) hn (Nat.le_add_right 10 g) (fun w o J => ih w o J)
    by_cases h3 : w = 3
    · subst h3
      exact xB_X1_readSum (l := l) (a1 := o) hn (Nat.le_add_right 10 g) (fun w o J => ih w o J)
    by_cases h4 : w = 4
    · subst h4
      exact xB_X1_readTerm (l := l) (a1 := o) hn (Nat.le_add_right 10 g) (fun w o J => ih w o J)
    by_cases h5 : w = 5
    · subst h5
      exact xB_X1_readOne (l := l) (a1 := o) hn (Nat.le_add_right 10 g) (fun w o J => ih w o J)
    · intro r hr
      simp only [f_rd, if_neg h0, if_neg h1, if_neg h2, if_neg h3, if_neg h4, if_neg h5] at hr
      exact nomatch hr
set_option maxHeartbeats 4000000 in
set_option maxRecDepth 100000 in
theorem xb_X1_read_b115 {l : Launch} {κ : Kx} {ω : Om} {a2 : Int32} {t3 : Nat} (C : CX κ ω cX1_read 5 71 yX1_read.cls) (hlau : κ.2.1 = l) (hret : κ.2.2.2.2.2.2.2.2.1.sig.returnType = (some .int)) (hn : 56 ≤ oN ω) (ht3 : t3 < 6) : ∀  (I : Mem), EE κ ω 5 (Gi κ ω) (f_X1_read_b115 a2 t3  I) I 115 [(0, .ref (oA ω 26))] [] := by
  intro  I
  unfold f_X1_read_b115
  refine e_aload_n C dX1_read_115 rfl 0 rfl (q := 116) rfl ?_
  refine e_getf C (k := 26) (j := 5) (T := TX1) (N := 7) (v := .int (I 26 5)) dX1_read_116 (ltL hn (Nat.le_of_ble_eq_true rfl)) rfl rfl (by decide) in_X1 w_149 rfl (q := 119) rfl ?_
  exact e_ireturn C dX1_read_119 hret rfl
set_option maxHeartbeats 4000000 in
set_option maxRecDepth 100000 in
theorem xb_X1_read_b74 {l : Launch} {κ : Kx} {ω : Om} {a2 : Int32} {t3 : Nat} (C : CX κ ω cX1_read 5 71 yX1_read.cls) (hlau : κ.2.1 = l) (hret : κ.2.2.2.2.2.2.2.2.1.sig.returnType = (some .int)) (hn : 56 ≤ oN ω) (ht3 : t3 < 6) {K44 : Int32 → Mem → Option (Int32 × Mem)} (hK44 : ∀ (x4 : Int32) (J : Mem), EE κ ω 5 (Gi κ ω) (K44 x4 J) J 44 [(4, .int x4), (0, .ref (oA ω 26))] []) : ∀ (x4 : Int32) (s0 : Int32) (I : Mem), EE κ ω 5 (Gi κ ω) (f_X1_read_b74 a2 t3 K44 x4 s0 I) I 74 [(4, .int x4), (0, .ref (oA ω 26))] [.int s0, .ref (oA ω 26)] := by
  intro x4 s0 I
  unfold f_X1_read_b74
  refine e_callVv C (l := l) (k := 26) (av := [.int s0]) (st := []) hlau (x_X1_expect (l := l) (ω := ω) (a1 := s0) hn (I := I)) dX1_read_74 w_303 w_305 w_4 w_58 w_306 md_X1_expect (by decide) (by decide) rfl (ltL hn (Nat.le_of_ble_eq_true rfl)) rfl rfl (Nat.le_of_ble_eq_true rfl) (q := 77) rfl (fun _ J10 => ?_)
  refine e_aload_n C dX1_read_77 rfl 1 rfl (q := 78) rfl ?_
  refine e_iconst C dX1_read_78 ic_0 (q := 79) rfl ?_
  refine e_callVv C (l := l) (k := 26) (av := [.int (0 : Int32)]) (st := []) (y := yX1_readE) (b := cX1_readE) (maxL := 3) (ret := none) hlau (x_rd (l := l) hn 60 0 (0 : Int32) J10) dX1_read_79 w_311 w_313 w_6 w_58 w_314 md_X1_readE (by decide) (by decide) rfl (ltL hn (Nat.le_of_ble_eq_true rfl)) rfl rfl (Nat.le_of_ble_eq_true rfl) (q := 82) rfl (fun _ J11 => ?_)
  refine e_aload_n C dX1_read_82 rfl 1 rfl (q := 83) rfl ?_
  refine e_bipush C dX1_read_83 b8_m17 (q := 85) rfl ?_
  refine e_callVv C (l := l) (k := 26) (av := [.int (-17 : Int32)]) (st := []) hlau (x_X1_expect (l := l) (ω := ω) (a1 := (-17 : Int32)) hn (I := J11)) dX1_read_85 w_303 w_305 w_4 w_58 w_306 md_X1_expect (by decide) (by decide) rfl (ltL hn (Nat.le_of_ble_eq_true rfl)) rfl rfl (Nat.le_of_ble_eq_true rfl) (q := 88) rfl (fun _ J12 => ?_)
  refine e_aload_n C dX1_read_88 rfl 1 rfl (q := 89) rfl ?_
  refine e_into C hn dX1_read_89 in_X1 w_150 (q := 92) rfl (fun h13 => ?_)
  refine e_iload C dX1_read_92 0 rfl (q := 94) rfl ?_
  refine e_callVv C (l := l) (k := (30 + 3 * (J12 26 6 - 1).toNatClampNeg)) (av := [.int x4]) (st := []) hlau (x_X4_endPart (l := l) (ω := ω) (τ := (J12 26 6 - 1).toNatClampNeg) (a1 := x4) hn h13 (I := J12)) dX1_read_94 w_342 w_343 w_344 w_59 w_345 md_X4_endPart (by decide) (by decide) rfl (ltTx hn h13) (cOb_Tx (τ := (J12 26 6 - 1).toNatClampNeg) h13 _) rfl (Nat.le_of_ble_eq_true rfl) (q := 97) rfl (fun _ J14 => ?_)
  refine e_iinc C (v := x4 + (1 : Int32)) (lv1 := [(4, .int (x4 + (1 : Int32))), (0, .ref (oA ω 26))]) dX1_read_97 0 rfl (Nat.le_of_ble_eq_true rfl) (by rw [ic_1]) rfl (q := 100) rfl ?_
  refine e_goto C (tgt := 44) dX1_read_100 rfl ?_
  exact hK44 (x4 + (1 : Int32)) _
set_option maxHeartbeats 4000000 in
set_option maxRecDepth 100000 in
theorem xb_X1_read_b44 {l : Launch} {κ : Kx} {ω : Om} {a2 : Int32} {t3 : Nat} (C : CX κ ω cX1_read 5 71 yX1_read.cls) (hlau : κ.2.1 = l) (hret : κ.2.2.2.2.2.2.2.2.1.sig.returnType = (some .int)) (hn : 56 ≤ oN ω) (ht3 : t3 < 6) : ∀ (n : Nat) (x4 : Int32) (I : Mem), EE κ ω 5 (Gi κ ω) (f_X1_read_b44 a2 t3 n x4 I) I 44 [(4, .int x4), (0, .ref (oA ω 26))] [] := by
  intro n
  induction n with
  | zero => intro x4 I; exact e_none
  | succ n ih =>
    intro x4 I
    rw [f_X1_read_b44]
    refine e_iload C dX1_read_44 0 rfl (q := 46) rfl ?_
    refine e_iconst C dX1_read_46 ic_3 (q := 47) rfl ?_
    refine e_icmpge C (tgt := 103) (q := 50) dX1_read_47 rfl rfl ?_ ?_
    · refine e_aload_n C dX1_read_103 rfl 1 rfl (q := 104) rfl ?_
      refine e_getf C (k := 26) (j := 4) (T := TX1) (N := 7) (v := .int (I 26 4)) dX1_read_104 (ltL hn (Nat.le_of_ble_eq_true rfl)) rfl rfl (by decide) in_X1 w_148 rfl (q := 107) rfl ?_
      refine e_iconst C dX1_read_107 ic_m1 (q := 108) rfl ?_
      refine e_icmpeq C (tgt := 115) (q := 111) dX1_read_108 rfl rfl ?_ ?_
      · exact e_lv [1] (lv1 := [(0, .ref (oA ω 26))]) rfl (xb_X1_read_b115 C hlau hret hn ht3 _)
      · refine e_aload_n C dX1_read_111 rfl 1 rfl (q := 112) rfl ?_
        refine e_callVv C (l := l) (k := 26) (av := []) (st := []) hlau (x_X1_refuse (l := l) (ω := ω) hn (I := I)) dX1_read_112 w_307 w_309 w_5 w_58 w_310 md_X1_refuse (by decide) (by decide) rfl (ltL hn (Nat.le_of_ble_eq_true rfl)) rfl rfl (Nat.le_of_ble_eq_true rfl) (q := 115) rfl (fun _ J9 => ?_)
        exact e_lv [1] (lv1 := [(0, .ref (oA ω 26))]) rfl (xb_X1_read_b115 C hlau hret hn ht3 _)
    · refine e_aload_n C dX1_read_50 rfl 1 rfl (q := 51) rfl ?_
      refine e_iload C dX1_read_51 0 rfl (q := 53) rfl ?_
      refine e_ifne C (tgt := 61) (q := 56) dX1_read_53 rfl rfl ?_ ?_
      · refine e_iload C dX1_read_61 0 rfl (q := 63) rfl ?_
        refine e_iconst C dX1_read_63 ic_1 (q := 64) rfl ?_
        refine e_icmpne C (tgt := 72) (q := 67) dX1_read_64 rfl rfl ?_ ?_
        · refine e_bipush C dX1_read_72 b8_m5 (q := 74) rfl ?_
          exact xb_X1_read_b74 C hlau hret hn ht3 ih x4 (-5 : Int32) _
        · refine e_bipush C dX1_read_67 b8_m4 (q := 69) rfl ?_
          refine e_goto C (tgt := 74) dX1_read_69 rfl ?_
          exact xb_X1_read_b74 C hlau hret hn ht3 ih x4 (-4 : Int32) _
      · refine e_bipush C dX1_read_56 b8_m3 (q := 58) rfl ?_
        refine e_goto C (tgt := 74) dX1_read_58 rfl ?_
        exact xb_X1_read_b74 C hlau hret hn ht3 ih x4 (-3 : Int32) _
set_option maxHeartbeats 4000000 in
set_option maxRecDepth 100000 in
theorem x_X1_read {l : Launch} {ω : Om} {a2 : Int32} {t3 : Nat} (hn : 56 ≤ oN ω) (ht3 : t3 < 6) {I : Mem} : CTi l ω yX1_read cX1_read 5 (some .int) 71 [.ref (oA ω 26), .ref (oA ω 27), .int a2, .ref (oA ω (30 + 3 * t3))] (f_X1_read a2 t3 I) I := by
  refine ct_i (by decide) (Nat.le_of_ble_eq_true rfl) ?_
  intro κ hlau hret C
  refine e_lv [0, 1, 2, 3] (lv1 := [(0, .ref (oA ω 26)), (1, .ref (oA ω 27)), (2, .int a2), (3, .ref (oA ω (30 + 3 * t3)))]) rfl ?_
  unfold f_X1_read
  refine e_aload_n C dX1_read_0 rfl 0 rfl (q := 1) rfl ?_
  refine e_aload_n C dX1_read_1 rfl 1 rfl (q := 2) rfl ?_
  refine e_putr C (k := 26) (j := 0) (x := (1 : Int32)) (T := TX1) (N := 7) dX1_read_2 (ltL hn (Nat.le_of_ble_eq_true rfl)) rfl rfl (by decide) in_X1 w_144 tyX1_ok nmX1 rfl rfl rfl (show 0 < 7 by decide) rfl (q := 5) rfl ?_
  refine e_nmM (fun J1 => ?_)
  refine e_aload_n C dX1_read_5 rfl 0 rfl (q := 6) rfl ?_
  refine e_iload_n C dX1_read_6 rfl 2 rfl (q := 7) rfl ?_
  refine e_aload_n C dX1_read_7 rfl 1 rfl (q := 8) rfl ?_
  refine e_alen C (k := 27) (n := 160) (v := (160 : Int32)) dX1_read_8 (ltL hn (Nat.le_of_ble_eq_true rfl)) rfl (by decide) (q := 9) rfl ?_
  refine e_mmin C dX1_read_9 w_257 w_258 w_65 w_259 (Nat.le_of_ble_eq_true rfl) (Nat.le_of_ble_eq_true rfl) (q := 12) rfl ?_
  refine e_putf C (k := 26) (j := 1) (T := TX1) (N := 7) dX1_read_12 (ltL hn (Nat.le_of_ble_eq_true rfl)) rfl rfl (by decide) in_X1 w_145 tyX1_ok nmX1 rfl rfl rfl (show 1 < 7 by decide) (set_Rd_1_ _) (q := 15) rfl ?_
  refine e_nmM (fun J2 => ?_)
  refine e_aload_n C dX1_read_15 rfl 0 rfl (q := 16) rfl ?_
  refine e_iconst C dX1_read_16 ic_0 (q := 17) rfl ?_
  refine e_putf C (k := 26) (j := 2) (T := TX1) (N := 7) dX1_read_17 (ltL hn (Nat.le_of_ble_eq_true rfl)) rfl rfl (by decide) in_X1 w_146 tyX1_ok nmX1 rfl rfl rfl (show 2 < 7 by decide) (set_Rd_2_ _) (q := 20) rfl ?_
  refine e_nmM (fun J3 => ?_)
  refine e_aload_n C dX1_read_20 rfl 0 rfl (q := 21) rfl ?_
  refine e_iconst C dX1_read_21 ic_m1 (q := 22) rfl ?_
  refine e_putf C (k := 26) (j := 5) (T := TX1) (N := 7) dX1_read_22 (ltL hn (Nat.le_of_ble_eq_true rfl)) rfl rfl (by decide) in_X1 w_149 tyX1_ok nmX1 rfl rfl rfl (show 5 < 7 by decide) (set_Rd_5_ _) (q := 25) rfl ?_
  refine e_nmM (fun J4 => ?_)
  refine e_aload_n C dX1_read_25 rfl 0 rfl (q := 26) rfl ?_
  refine e_aload_n C dX1_read_26 rfl 3 rfl (q := 27) rfl ?_
  refine e_putr C (k := 26) (j := 6) (x := (nI (t3 + 1))) (T := TX1) (N := 7) dX1_read_27 (ltL hn (Nat.le_of_ble_eq_true rfl)) rfl rfl (by decide) in_X1 w_150 tyX1_ok nmX1 rfl rfl rfl (show 6 < 7 by decide) (set_Rd_6 ht3 _) (q := 30) rfl ?_
  refine e_nmM (fun J5 => ?_)
  refine e_aload_n C dX1_read_30 rfl 0 rfl (q := 31) rfl ?_
  refine e_into C hn dX1_read_31 in_X1 w_150 (q := 34) rfl (fun h6 => ?_)
  refine e_callVv C (l := l) (k := (30 + 3 * (J5 26 6 - 1).toNatClampNeg)) (av := []) (st := []) hlau (x_X4_clear (l := l) (ω := ω) (τ := (J5 26 6 - 1).toNatClampNeg) hn h6 (I := J5)) dX1_read_34 w_260 w_261 w_262 w_59 w_263 md_X4_clear (by decide) (by decide) rfl (ltTx hn h6) (cOb_Tx (τ := (J5 26 6 - 1).toNatClampNeg) h6 _) rfl (Nat.le_of_ble_eq_true rfl) (q := 37) rfl (fun _ J7 => ?_)
  refine e_aload_n C dX1_read_37 rfl 0 rfl (q := 38) rfl ?_
  refine e_callVv C (l := l) (k := 26) (av := []) (st := []) hlau (x_X1_next (l := l) (ω := ω) hn (I := J7)) dX1_read_38 w_264 w_266 w_0 w_58 w_267 md_X1_next (by decide) (by decide) rfl (ltL hn (Nat.le_of_ble_eq_true rfl)) rfl rfl (Nat.le_of_ble_eq_true rfl) (q := 41) rfl (fun _ J8 => ?_)
  refine e_iconst C dX1_read_41 ic_0 (q := 42) rfl ?_
  refine e_istore C (lv1 := [(4, .int (0 : Int32)), (0, .ref (oA ω 26)), (1, .ref (oA ω 27)), (2, .int a2), (3, .ref (oA ω (30 + 3 * t3)))]) dX1_read_42 (Nat.le_of_ble_eq_true rfl) rfl (q := 44) rfl ?_
  exact e_lv [0, 1] (lv1 := [(4, .int (0 : Int32)), (0, .ref (oA ω 26))]) rfl (xb_X1_read_b44 C hlau hret hn ht3 FU (0 : Int32) _)
set_option maxHeartbeats 4000000 in
set_option maxRecDepth 100000 in
theorem x_X6_text {l : Launch} {ω : Om}  (hn : 56 ≤ oN ω)  {I : Mem} : CTi l ω yX6_text cX6_text 2 (some .int) 72 [.ref (oA ω 0)] (f_X6_text  I) I := by
  refine ct_i (by decide) (Nat.le_of_ble_eq_true rfl) ?_
  intro κ hlau hret C
  refine e_lv [0] (lv1 := [(0, .ref (oA ω 0))]) rfl ?_
  unfold f_X6_text
  refine e_aload_n C dX6_text_0 rfl 0 rfl (q := 1) rfl ?_
  refine e_getf C (k := 0) (j := 7) (T := TX6) (N := 10) (v := .int (I 0 7)) dX6_text_1 (ltL hn (Nat.le_of_ble_eq_true rfl)) rfl rfl (by decide) in_X6 w_353 rfl (q := 4) rfl ?_
  refine e_bipush C dX6_text_4 b8_6 (q := 6) rfl ?_
  refine e_icmplt C (tgt := 12) (q := 9) dX6_text_6 rfl rfl ?_ ?_
  · refine e_aload_n C dX6_text_12 rfl 0 rfl (q := 13) rfl ?_
    refine e_getf C (k := 0) (j := 4) (T := TX6) (N := 10) (v := .ref (oA ω 26)) dX6_text_13 (ltL hn (Nat.le_of_ble_eq_true rfl)) rfl rfl (by decide) in_X6 w_350 rfl (q := 16) rfl ?_
    refine e_aload_n C dX6_text_16 rfl 0 rfl (q := 17) rfl ?_
    refine e_getf C (k := 0) (j := 5) (T := TX6) (N := 10) (v := .ref (oA ω 27)) dX6_text_17 (ltL hn (Nat.le_of_ble_eq_true rfl)) rfl rfl (by decide) in_X6 w_351 rfl (q := 20) rfl ?_
    refine e_aload_n C dX6_text_20 rfl 0 rfl (q := 21) rfl ?_
    refine e_getf C (k := 0) (j := 8) (T := TX6) (N := 10) (v := .int (I 0 8)) dX6_text_21 (ltL hn (Nat.le_of_ble_eq_true rfl)) rfl rfl (by decide) in_X6 w_354 rfl (q := 24) rfl ?_
    refine e_aload_n C dX6_text_24 rfl 0 rfl (q := 25) rfl ?_
    refine e_getf C (k := 0) (j := 0) (T := TX6) (N := 10) (v := .ref (oA ω 1)) dX6_text_25 (ltL hn (Nat.le_of_ble_eq_true rfl)) rfl rfl (by decide) in_X6 w_346 rfl (q := 28) rfl ?_
    refine e_aload_n C dX6_text_28 rfl 0 rfl (q := 29) rfl ?_
    refine e_getf C (k := 0) (j := 7) (T := TX6) (N := 10) (v := .int (I 0 7)) dX6_text_29 (ltL hn (Nat.le_of_ble_eq_true rfl)) rfl rfl (by decide) in_X6 w_353 rfl (q := 32) rfl ?_
    refine e_nmi (fun v1 => ?_)
    refine e_aldT1 C hn dX6_text_32 (q := 33) rfl (fun h2 => ?_)
    refine e_callVi C (l := l) (k := 26) (av := [.ref (oA ω 27), .int (I 0 8), .ref (oA ω (30 + 3 * v1.toNatClampNeg))]) (st := []) hlau (x_X1_read (l := l) (ω := ω) (a2 := I 0 8) (t3 := v1.toNatClampNeg) hn h2 (I := I)) dX6_text_33 w_253 w_254 w_255 w_58 w_256 md_X1_read (by decide) (by decide) rfl (ltL hn (Nat.le_of_ble_eq_true rfl)) rfl rfl (Nat.le_of_ble_eq_true rfl) (q := 36) rfl (fun v4 J3 => ?_)
    refine e_istore_n C (lv1 := [(1, .int v4), (0, .ref (oA ω 0))]) dX6_text_36 rfl (Nat.le_of_ble_eq_true rfl) rfl (q := 37) rfl ?_
    refine e_aload_n C dX6_text_37 rfl 1 rfl (q := 38) rfl ?_
    refine e_iconst C dX6_text_38 ic_0 (q := 39) rfl ?_
    refine e_putf C (k := 0) (j := 8) (T := TX6) (N := 10) dX6_text_39 (ltL hn (Nat.le_of_ble_eq_true rfl)) rfl rfl (by decide) in_X6 w_354 tyX6_ok nmX6 rfl rfl rfl (show 8 < 10 by decide) (set_Ha_8_ _) (q := 42) rfl ?_
    refine e_nmM (fun J5 => ?_)
    refine e_iload_n C dX6_text_42 rfl 0 rfl (q := 43) rfl ?_
    refine e_iconst C dX6_text_43 ic_m1 (q := 44) rfl ?_
    refine e_icmpeq C (tgt := 52) (q := 47) dX6_text_44 rfl rfl ?_ ?_
    · refine e_aload_n C dX6_text_52 rfl 1 rfl (q := 53) rfl ?_
      refine e_dup C dX6_text_53 rfl (q := 54) rfl ?_
      refine e_getf C (k := 0) (j := 7) (T := TX6) (N := 10) (v := .int (J5 0 7)) dX6_text_54 (ltL hn (Nat.le_of_ble_eq_true rfl)) rfl rfl (by decide) in_X6 w_353 rfl (q := 57) rfl ?_
      refine e_iconst C dX6_text_57 ic_1 (q := 58) rfl ?_
      refine e_iadd C dX6_text_58 (q := 59) rfl ?_
      refine e_putf C (k := 0) (j := 7) (T := TX6) (N := 10) dX6_text_59 (ltL hn (Nat.le_of_ble_eq_true rfl)) rfl rfl (by decide) in_X6 w_353 tyX6_ok nmX6 rfl rfl rfl (show 7 < 10 by decide) (set_Ha_7_ _) (q := 62) rfl ?_
      refine e_nmM (fun J6 => ?_)
      refine e_aload_n C dX6_text_62 rfl 1 rfl (q := 63) rfl ?_
      refine e_getf C (k := 0) (j := 7) (T := TX6) (N := 10) (v := .int (J6 0 7)) dX6_text_63 (ltL hn (Nat.le_of_ble_eq_true rfl)) rfl rfl (by decide) in_X6 w_353 rfl (q := 66) rfl ?_
      refine e_iconst C dX6_text_66 ic_1 (q := 67) rfl ?_
      refine e_isub C dX6_text_67 (q := 68) rfl ?_
      exact e_ireturn C dX6_text_68 hret rfl
    · refine e_bipush C dX6_text_47 b8_m100 (q := 49) rfl ?_
      refine e_iload_n C dX6_text_49 rfl 0 rfl (q := 50) rfl ?_
      refine e_isub C dX6_text_50 (q := 51) rfl ?_
      exact e_ireturn C dX6_text_51 hret rfl
  · refine e_bipush C dX6_text_9 b8_m4 (q := 11) rfl ?_
    exact e_ireturn C dX6_text_11 hret rfl
