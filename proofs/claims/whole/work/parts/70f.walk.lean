/-! WALKS, written by program (wip/gen) -/
set_option maxHeartbeats 4000000 in
set_option maxRecDepth 100000 in
theorem xb_X7_says_b93 {l : Launch} {κ : Kx} {ω : Om} {a1 : Int32} (C : CX κ ω cX7_says 5 2 yX7_says.cls) (hlau : κ.2.1 = l) (hret : κ.2.2.2.2.2.2.2.2.1.sig.returnType = (some .int)) (hn : 75 ≤ oN ω)  {K16 : Int32 → Int32 → Mem → Option (Int32 × Mem)} (hK16 : ∀ (x3 : Int32) (x2 : Int32) (J : Mem), EE κ ω 5 (Gi κ ω) (K16 x3 x2 J) J 16 [(3, .int x3), (2, .int x2), (0, .ref (oA ω 56)), (1, .int a1)] []) : ∀ (x3 : Int32) (x2 : Int32) (s0 : Int32) (s1 : Int32) (I : Mem), EE κ ω 5 (Gi κ ω) (f_X7_says_b93 a1 K16 x3 x2 s0 s1 I) I 93 [(3, .int x3), (2, .int x2), (0, .ref (oA ω 56)), (1, .int a1)] [.int s0, .int s1, .ref (oA ω 72)] := by
  intro x3 x2 s0 s1 I
  unfold f_X7_says_b93
  refine e_iast C (k := 72) (n := 200) dX7_says_93 (ltL hn (Nat.le_of_ble_eq_true rfl)) (fun _ => rfl) (q := 94) rfl ?_
  refine e_nmM (fun J6 => ?_)
  refine e_iinc C (v := x2 + (1 : Int32)) (lv1 := [(2, .int (x2 + (1 : Int32))), (3, .int x3), (0, .ref (oA ω 56)), (1, .int a1)]) dX7_says_94 1 rfl (Nat.le_of_ble_eq_true rfl) (by rw [ic_1]) rfl (q := 97) rfl ?_
  refine e_goto C (tgt := 191) dX7_says_97 rfl ?_
  refine e_iinc C (v := x3 + (1 : Int32)) (lv1 := [(3, .int (x3 + (1 : Int32))), (2, .int (x2 + (1 : Int32))), (0, .ref (oA ω 56)), (1, .int a1)]) dX7_says_191 1 rfl (Nat.le_of_ble_eq_true rfl) (by rw [ic_1]) rfl (q := 194) rfl ?_
  refine e_goto C (tgt := 16) dX7_says_194 rfl ?_
  exact hK16 (x3 + (1 : Int32)) (x2 + (1 : Int32)) _
set_option maxHeartbeats 4000000 in
set_option maxRecDepth 100000 in
theorem xb_X7_says_b66 {l : Launch} {κ : Kx} {ω : Om} {a1 : Int32} (C : CX κ ω cX7_says 5 2 yX7_says.cls) (hlau : κ.2.1 = l) (hret : κ.2.2.2.2.2.2.2.2.1.sig.returnType = (some .int)) (hn : 75 ≤ oN ω)  {K16 : Int32 → Int32 → Mem → Option (Int32 × Mem)} (hK16 : ∀ (x3 : Int32) (x2 : Int32) (J : Mem), EE κ ω 5 (Gi κ ω) (K16 x3 x2 J) J 16 [(3, .int x3), (2, .int x2), (0, .ref (oA ω 56)), (1, .int a1)] []) : ∀ (x4 : Int32) (x3 : Int32) (x2 : Int32) (I : Mem), EE κ ω 5 (Gi κ ω) (f_X7_says_b66 a1 K16 x4 x3 x2 I) I 66 [(4, .int x4), (3, .int x3), (2, .int x2), (0, .ref (oA ω 56)), (1, .int a1)] [] := by
  intro x4 x3 x2 I
  unfold f_X7_says_b66
  refine e_aload_n C dX7_says_66 rfl 3 rfl (q := 67) rfl ?_
  refine e_getf C (k := 56) (j := 28) (T := TX7) (N := 32) (v := .ref (oA ω 72)) dX7_says_67 (ltL hn (Nat.le_of_ble_eq_true rfl)) rfl rfl (by decide) in_X7 w_790 rfl (q := 70) rfl ?_
  refine e_iload_n C dX7_says_70 rfl 2 rfl (q := 71) rfl ?_
  refine e_iload C dX7_says_71 0 rfl (q := 73) rfl ?_
  refine e_bipush C dX7_says_73 b8_11 (q := 75) rfl ?_
  refine e_icmpge C (tgt := 88) (q := 78) dX7_says_75 rfl rfl ?_ ?_
  · refine e_iload C dX7_says_88 0 rfl (q := 90) rfl ?_
    refine e_ldc C dX7_says_90 w_734 (q := 92) rfl ?_
    refine e_isub C dX7_says_92 (q := 93) rfl ?_
    exact e_lv [1, 2, 3, 4] (lv1 := [(3, .int x3), (2, .int x2), (0, .ref (oA ω 56)), (1, .int a1)]) rfl (xb_X7_says_b93 C hlau hret hn hK16 x3 x2 (x4 - (100000 : Int32)) x2 _)
  · refine e_aload_n C dX7_says_78 rfl 3 rfl (q := 79) rfl ?_
    refine e_getf C (k := 56) (j := 29) (T := TX7) (N := 32) (v := .ref (oA ω 73)) dX7_says_79 (ltL hn (Nat.le_of_ble_eq_true rfl)) rfl rfl (by decide) in_X7 w_791 rfl (q := 82) rfl ?_
    refine e_iload C dX7_says_82 0 rfl (q := 84) rfl ?_
    refine e_iald C (k := 73) (n := 6) dX7_says_84 (ltL hn (Nat.le_of_ble_eq_true rfl)) rfl (q := 85) rfl ?_
    refine e_goto C (tgt := 93) dX7_says_85 rfl ?_
    exact e_lv [1, 2, 3, 4] (lv1 := [(3, .int x3), (2, .int x2), (0, .ref (oA ω 56)), (1, .int a1)]) rfl (xb_X7_says_b93 C hlau hret hn hK16 x3 x2 (I 73 (x4).toNatClampNeg) x2 _)
set_option maxHeartbeats 4000000 in
set_option maxRecDepth 100000 in
theorem xb_X7_says_b130 {l : Launch} {κ : Kx} {ω : Om} {a1 : Int32} (C : CX κ ω cX7_says 5 2 yX7_says.cls) (hlau : κ.2.1 = l) (hret : κ.2.2.2.2.2.2.2.2.1.sig.returnType = (some .int)) (hn : 75 ≤ oN ω)  {K16 : Int32 → Int32 → Mem → Option (Int32 × Mem)} (hK16 : ∀ (x3 : Int32) (x2 : Int32) (J : Mem), EE κ ω 5 (Gi κ ω) (K16 x3 x2 J) J 16 [(3, .int x3), (2, .int x2), (0, .ref (oA ω 56)), (1, .int a1)] []) : ∀ (x3 : Int32) (x2 : Int32) (s0 : Int32) (s1 : Int32) (I : Mem), EE κ ω 5 (Gi κ ω) (f_X7_says_b130 a1 K16 x3 x2 s0 s1 I) I 130 [(3, .int x3), (2, .int x2), (0, .ref (oA ω 56)), (1, .int a1)] [.int s0, .int s1, .ref (oA ω 72)] := by
  intro x3 x2 s0 s1 I
  unfold f_X7_says_b130
  refine e_iast C (k := 72) (n := 200) dX7_says_130 (ltL hn (Nat.le_of_ble_eq_true rfl)) (fun _ => rfl) (q := 131) rfl ?_
  refine e_nmM (fun J12 => ?_)
  refine e_goto C (tgt := 191) dX7_says_131 rfl ?_
  refine e_iinc C (v := x3 + (1 : Int32)) (lv1 := [(3, .int (x3 + (1 : Int32))), (2, .int x2), (0, .ref (oA ω 56)), (1, .int a1)]) dX7_says_191 0 rfl (Nat.le_of_ble_eq_true rfl) (by rw [ic_1]) rfl (q := 194) rfl ?_
  refine e_goto C (tgt := 16) dX7_says_194 rfl ?_
  exact hK16 (x3 + (1 : Int32)) x2 _
set_option maxHeartbeats 4000000 in
set_option maxRecDepth 100000 in
theorem xb_X7_says_b16 {l : Launch} {κ : Kx} {ω : Om} {a1 : Int32} (C : CX κ ω cX7_says 5 2 yX7_says.cls) (hlau : κ.2.1 = l) (hret : κ.2.2.2.2.2.2.2.2.1.sig.returnType = (some .int)) (hn : 75 ≤ oN ω)  : ∀ (n : Nat) (x3 : Int32) (x2 : Int32) (I : Mem), EE κ ω 5 (Gi κ ω) (f_X7_says_b16 a1 n x3 x2 I) I 16 [(3, .int x3), (2, .int x2), (0, .ref (oA ω 56)), (1, .int a1)] [] := by
  intro n
  induction n with
  | zero => intro x3 x2 I; exact e_none
  | succ n ih =>
    intro x3 x2 I
    rw [f_X7_says_b16]
    refine e_iload_n C dX7_says_16 rfl 0 rfl (q := 17) rfl ?_
    refine e_aload_n C dX7_says_17 rfl 2 rfl (q := 18) rfl ?_
    refine e_getf C (k := 56) (j := 9) (T := TX7) (N := 32) (v := .ref (oA ω 63)) dX7_says_18 (ltL hn (Nat.le_of_ble_eq_true rfl)) rfl rfl (by decide) in_X7 w_771 rfl (q := 21) rfl ?_
    refine e_iconst C dX7_says_21 ic_4 (q := 22) rfl ?_
    refine e_aload_n C dX7_says_22 rfl 2 rfl (q := 23) rfl ?_
    refine e_getf C (k := 56) (j := 11) (T := TX7) (N := 32) (v := .int (I 56 11)) dX7_says_23 (ltL hn (Nat.le_of_ble_eq_true rfl)) rfl rfl (by decide) in_X7 w_773 rfl (q := 26) rfl ?_
    refine e_imul C dX7_says_26 (q := 27) rfl ?_
    refine e_iload_n C dX7_says_27 rfl 3 rfl (q := 28) rfl ?_
    refine e_iadd C dX7_says_28 (q := 29) rfl ?_
    refine e_iconst C dX7_says_29 ic_1 (q := 30) rfl ?_
    refine e_iadd C dX7_says_30 (q := 31) rfl ?_
    refine e_nmi (fun v3 => ?_)
    refine e_iald C (k := 63) (n := 24) dX7_says_31 (ltL hn (Nat.le_of_ble_eq_true rfl)) rfl (q := 32) rfl ?_
    refine e_icmpge C (tgt := 197) (q := 35) dX7_says_32 rfl rfl ?_ ?_
    · refine e_aload_n C dX7_says_197 rfl 2 rfl (q := 198) rfl ?_
      refine e_getf C (k := 56) (j := 28) (T := TX7) (N := 32) (v := .ref (oA ω 72)) dX7_says_198 (ltL hn (Nat.le_of_ble_eq_true rfl)) rfl rfl (by decide) in_X7 w_790 rfl (q := 201) rfl ?_
      refine e_iconst C dX7_says_201 ic_0 (q := 202) rfl ?_
      refine e_iald C (k := 72) (n := 200) dX7_says_202 (ltL hn (Nat.le_of_ble_eq_true rfl)) rfl (q := 203) rfl ?_
      exact e_ireturn C dX7_says_203 hret rfl
    · refine e_aload_n C dX7_says_35 rfl 2 rfl (q := 36) rfl ?_
      refine e_getf C (k := 56) (j := 8) (T := TX7) (N := 32) (v := .ref (oA ω 62)) dX7_says_36 (ltL hn (Nat.le_of_ble_eq_true rfl)) rfl rfl (by decide) in_X7 w_770 rfl (q := 39) rfl ?_
      refine e_sipush C dX7_says_39 b16_200 (q := 42) rfl ?_
      refine e_aload_n C dX7_says_42 rfl 2 rfl (q := 43) rfl ?_
      refine e_getf C (k := 56) (j := 11) (T := TX7) (N := 32) (v := .int (I 56 11)) dX7_says_43 (ltL hn (Nat.le_of_ble_eq_true rfl)) rfl rfl (by decide) in_X7 w_773 rfl (q := 46) rfl ?_
      refine e_imul C dX7_says_46 (q := 47) rfl ?_
      refine e_iload_n C dX7_says_47 rfl 0 rfl (q := 48) rfl ?_
      refine e_iadd C dX7_says_48 (q := 49) rfl ?_
      refine e_nmi (fun v4 => ?_)
      refine e_iald C (k := 62) (n := 1200) dX7_says_49 (ltL hn (Nat.le_of_ble_eq_true rfl)) rfl (q := 50) rfl ?_
      refine e_nmi (fun v5 => ?_)
      refine e_istore C (lv1 := [(4, .int v5), (3, .int x3), (2, .int x2), (0, .ref (oA ω 56)), (1, .int a1)]) dX7_says_50 (Nat.le_of_ble_eq_true rfl) rfl (q := 52) rfl ?_
      refine e_iload C dX7_says_52 0 rfl (q := 54) rfl ?_
      refine e_ldc C dX7_says_54 w_734 (q := 56) rfl ?_
      refine e_icmpge C (tgt := 66) (q := 59) dX7_says_56 rfl rfl ?_ ?_
      · exact xb_X7_says_b66 C hlau hret hn ih v5 x3 x2 _
      · refine e_iload C dX7_says_59 0 rfl (q := 61) rfl ?_
        refine e_bipush C dX7_says_61 b8_11 (q := 63) rfl ?_
        refine e_icmpge C (tgt := 100) (q := 66) dX7_says_63 rfl rfl ?_ ?_
        · refine e_iload C dX7_says_100 0 rfl (q := 102) rfl ?_
          refine e_bipush C dX7_says_102 b8_13 (q := 104) rfl ?_
          refine e_icmpne C (tgt := 134) (q := 107) dX7_says_104 rfl rfl ?_ ?_
          · refine e_iload C dX7_says_134 0 rfl (q := 136) rfl ?_
            refine e_bipush C dX7_says_136 b8_19 (q := 138) rfl ?_
            refine e_icmpne C (tgt := 161) (q := 141) dX7_says_138 rfl rfl ?_ ?_
            · refine e_iinc C (v := x2 + (-1 : Int32)) (lv1 := [(2, .int (x2 + (-1 : Int32))), (4, .int v5), (3, .int x3), (0, .ref (oA ω 56)), (1, .int a1)]) dX7_says_161 2 rfl (Nat.le_of_ble_eq_true rfl) (by rw [ic_m1]) rfl (q := 164) rfl ?_
              refine e_aload_n C dX7_says_164 rfl 3 rfl (q := 165) rfl ?_
              refine e_getf C (k := 56) (j := 28) (T := TX7) (N := 32) (v := .ref (oA ω 72)) dX7_says_165 (ltL hn (Nat.le_of_ble_eq_true rfl)) rfl rfl (by decide) in_X7 w_790 rfl (q := 168) rfl ?_
              refine e_iload_n C dX7_says_168 rfl 0 rfl (q := 169) rfl ?_
              refine e_iconst C dX7_says_169 ic_1 (q := 170) rfl ?_
              refine e_isub C dX7_says_170 (q := 171) rfl ?_
              refine e_iload C dX7_says_171 1 rfl (q := 173) rfl ?_
              refine e_aload_n C dX7_says_173 rfl 3 rfl (q := 174) rfl ?_
              refine e_getf C (k := 56) (j := 28) (T := TX7) (N := 32) (v := .ref (oA ω 72)) dX7_says_174 (ltL hn (Nat.le_of_ble_eq_true rfl)) rfl rfl (by decide) in_X7 w_790 rfl (q := 177) rfl ?_
              refine e_iload_n C dX7_says_177 rfl 0 rfl (q := 178) rfl ?_
              refine e_iconst C dX7_says_178 ic_1 (q := 179) rfl ?_
              refine e_isub C dX7_says_179 (q := 180) rfl ?_
              refine e_nmi (fun v7 => ?_)
              refine e_iald C (k := 72) (n := 200) dX7_says_180 (ltL hn (Nat.le_of_ble_eq_true rfl)) rfl (q := 181) rfl ?_
              refine e_aload_n C dX7_says_181 rfl 3 rfl (q := 182) rfl ?_
              refine e_getf C (k := 56) (j := 28) (T := TX7) (N := 32) (v := .ref (oA ω 72)) dX7_says_182 (ltL hn (Nat.le_of_ble_eq_true rfl)) rfl rfl (by decide) in_X7 w_790 rfl (q := 185) rfl ?_
              refine e_iload_n C dX7_says_185 rfl 0 rfl (q := 186) rfl ?_
              refine e_iald C (k := 72) (n := 200) dX7_says_186 (ltL hn (Nat.le_of_ble_eq_true rfl)) rfl (q := 187) rfl ?_
              refine e_callSi C (l := l) (av := [.int v5, .int (I 72 (v7).toNatClampNeg), .int (I 72 (x2 + (-1 : Int32)).toNatClampNeg)]) (st := [.int ((x2 + (-1 : Int32)) - (1 : Int32)), .ref (oA ω 72)]) hlau (x_X7_two (l := l) (ω := ω) (a0 := v5) (a1 := I 72 (v7).toNatClampNeg) (a2 := I 72 (x2 + (-1 : Int32)).toNatClampNeg) hn (I := I)) dX7_says_187 w_902 w_903 w_67 w_904 md_X7_two (by decide) (by decide) rfl (Nat.le_of_ble_eq_true rfl) (q := 190) rfl (fun v9 J8 => ?_)
              refine e_iast C (k := 72) (n := 200) dX7_says_190 (ltL hn (Nat.le_of_ble_eq_true rfl)) (fun _ => rfl) (q := 191) rfl ?_
              refine e_nmM (fun J10 => ?_)
              refine e_iinc C (v := x3 + (1 : Int32)) (lv1 := [(3, .int (x3 + (1 : Int32))), (2, .int (x2 + (-1 : Int32))), (4, .int v5), (0, .ref (oA ω 56)), (1, .int a1)]) dX7_says_191 2 rfl (Nat.le_of_ble_eq_true rfl) (by rw [ic_1]) rfl (q := 194) rfl ?_
              refine e_goto C (tgt := 16) dX7_says_194 rfl ?_
              exact e_lv [0, 1, 3, 4] (lv1 := [(3, .int (x3 + (1 : Int32))), (2, .int (x2 + (-1 : Int32))), (0, .ref (oA ω 56)), (1, .int a1)]) rfl (ih (x3 + (1 : Int32)) (x2 + (-1 : Int32)) _)
            · refine e_aload_n C dX7_says_141 rfl 3 rfl (q := 142) rfl ?_
              refine e_getf C (k := 56) (j := 28) (T := TX7) (N := 32) (v := .ref (oA ω 72)) dX7_says_142 (ltL hn (Nat.le_of_ble_eq_true rfl)) rfl rfl (by decide) in_X7 w_790 rfl (q := 145) rfl ?_
              refine e_iload_n C dX7_says_145 rfl 2 rfl (q := 146) rfl ?_
              refine e_iconst C dX7_says_146 ic_1 (q := 147) rfl ?_
              refine e_isub C dX7_says_147 (q := 148) rfl ?_
              refine e_aload_n C dX7_says_148 rfl 3 rfl (q := 149) rfl ?_
              refine e_getf C (k := 56) (j := 28) (T := TX7) (N := 32) (v := .ref (oA ω 72)) dX7_says_149 (ltL hn (Nat.le_of_ble_eq_true rfl)) rfl rfl (by decide) in_X7 w_790 rfl (q := 152) rfl ?_
              refine e_iload_n C dX7_says_152 rfl 2 rfl (q := 153) rfl ?_
              refine e_iconst C dX7_says_153 ic_1 (q := 154) rfl ?_
              refine e_isub C dX7_says_154 (q := 155) rfl ?_
              refine e_iald C (k := 72) (n := 200) dX7_says_155 (ltL hn (Nat.le_of_ble_eq_true rfl)) rfl (q := 156) rfl ?_
              refine e_ineg C dX7_says_156 (q := 157) rfl ?_
              refine e_iast C (k := 72) (n := 200) dX7_says_157 (ltL hn (Nat.le_of_ble_eq_true rfl)) (fun _ => rfl) (q := 158) rfl ?_
              refine e_nmM (fun J11 => ?_)
              refine e_goto C (tgt := 191) dX7_says_158 rfl ?_
              refine e_iinc C (v := x3 + (1 : Int32)) (lv1 := [(3, .int (x3 + (1 : Int32))), (4, .int v5), (2, .int x2), (0, .ref (oA ω 56)), (1, .int a1)]) dX7_says_191 1 rfl (Nat.le_of_ble_eq_true rfl) (by rw [ic_1]) rfl (q := 194) rfl ?_
              refine e_goto C (tgt := 16) dX7_says_194 rfl ?_
              exact e_lv [0, 2, 3, 4] (lv1 := [(3, .int (x3 + (1 : Int32))), (2, .int x2), (0, .ref (oA ω 56)), (1, .int a1)]) rfl (ih (x3 + (1 : Int32)) x2 _)
          · refine e_aload_n C dX7_says_107 rfl 3 rfl (q := 108) rfl ?_
            refine e_getf C (k := 56) (j := 28) (T := TX7) (N := 32) (v := .ref (oA ω 72)) dX7_says_108 (ltL hn (Nat.le_of_ble_eq_true rfl)) rfl rfl (by decide) in_X7 w_790 rfl (q := 111) rfl ?_
            refine e_iload_n C dX7_says_111 rfl 2 rfl (q := 112) rfl ?_
            refine e_iconst C dX7_says_112 ic_1 (q := 113) rfl ?_
            refine e_isub C dX7_says_113 (q := 114) rfl ?_
            refine e_aload_n C dX7_says_114 rfl 3 rfl (q := 115) rfl ?_
            refine e_getf C (k := 56) (j := 28) (T := TX7) (N := 32) (v := .ref (oA ω 72)) dX7_says_115 (ltL hn (Nat.le_of_ble_eq_true rfl)) rfl rfl (by decide) in_X7 w_790 rfl (q := 118) rfl ?_
            refine e_iload_n C dX7_says_118 rfl 2 rfl (q := 119) rfl ?_
            refine e_iconst C dX7_says_119 ic_1 (q := 120) rfl ?_
            refine e_isub C dX7_says_120 (q := 121) rfl ?_
            refine e_iald C (k := 72) (n := 200) dX7_says_121 (ltL hn (Nat.le_of_ble_eq_true rfl)) rfl (q := 122) rfl ?_
            refine e_ifne C (tgt := 129) (q := 125) dX7_says_122 rfl rfl ?_ ?_
            · refine e_iconst C dX7_says_129 ic_0 (q := 130) rfl ?_
              exact e_lv [1, 2, 3, 4] (lv1 := [(3, .int x3), (2, .int x2), (0, .ref (oA ω 56)), (1, .int a1)]) rfl (xb_X7_says_b130 C hlau hret hn ih x3 x2 (0 : Int32) (x2 - (1 : Int32)) _)
            · refine e_iconst C dX7_says_125 ic_1 (q := 126) rfl ?_
              refine e_goto C (tgt := 130) dX7_says_126 rfl ?_
              exact e_lv [1, 2, 3, 4] (lv1 := [(3, .int x3), (2, .int x2), (0, .ref (oA ω 56)), (1, .int a1)]) rfl (xb_X7_says_b130 C hlau hret hn ih x3 x2 (1 : Int32) (x2 - (1 : Int32)) _)
        · exact xb_X7_says_b66 C hlau hret hn ih v5 x3 x2 _
set_option maxHeartbeats 4000000 in
set_option maxRecDepth 100000 in
theorem x_X7_says {l : Launch} {ω : Om} {a1 : Int32} (hn : 75 ≤ oN ω)  {I : Mem} : CTi l ω yX7_says cX7_says 5 (some .int) 2 [.ref (oA ω 56), .int a1] (f_X7_says a1 I) I := by
  refine ct_i (by decide) (Nat.le_of_ble_eq_true rfl) ?_
  intro κ hlau hret C
  refine e_lv [0, 1] (lv1 := [(0, .ref (oA ω 56)), (1, .int a1)]) rfl ?_
  unfold f_X7_says
  refine e_iconst C dX7_says_0 ic_0 (q := 1) rfl ?_
  refine e_istore_n C (lv1 := [(2, .int (0 : Int32)), (0, .ref (oA ω 56)), (1, .int a1)]) dX7_says_1 rfl (Nat.le_of_ble_eq_true rfl) rfl (q := 2) rfl ?_
  refine e_aload_n C dX7_says_2 rfl 1 rfl (q := 3) rfl ?_
  refine e_getf C (k := 56) (j := 9) (T := TX7) (N := 32) (v := .ref (oA ω 63)) dX7_says_3 (ltL hn (Nat.le_of_ble_eq_true rfl)) rfl rfl (by decide) in_X7 w_771 rfl (q := 6) rfl ?_
  refine e_iconst C dX7_says_6 ic_4 (q := 7) rfl ?_
  refine e_aload_n C dX7_says_7 rfl 1 rfl (q := 8) rfl ?_
  refine e_getf C (k := 56) (j := 11) (T := TX7) (N := 32) (v := .int (I 56 11)) dX7_says_8 (ltL hn (Nat.le_of_ble_eq_true rfl)) rfl rfl (by decide) in_X7 w_773 rfl (q := 11) rfl ?_
  refine e_imul C dX7_says_11 (q := 12) rfl ?_
  refine e_iload_n C dX7_says_12 rfl 2 rfl (q := 13) rfl ?_
  refine e_iadd C dX7_says_13 (q := 14) rfl ?_
  refine e_nmi (fun v1 => ?_)
  refine e_iald C (k := 63) (n := 24) dX7_says_14 (ltL hn (Nat.le_of_ble_eq_true rfl)) rfl (q := 15) rfl ?_
  refine e_nmi (fun v2 => ?_)
  refine e_istore_n C (lv1 := [(3, .int v2), (2, .int (0 : Int32)), (0, .ref (oA ω 56)), (1, .int a1)]) dX7_says_15 rfl (Nat.le_of_ble_eq_true rfl) rfl (q := 16) rfl ?_
  exact xb_X7_says_b16 C hlau hret hn FU v2 (0 : Int32) _
set_option maxHeartbeats 4000000 in
set_option maxRecDepth 100000 in
theorem x_X7_force {l : Launch} {ω : Om} {a1 : Int32} (hn : 75 ≤ oN ω)  {I : Mem} : CTi l ω yX7_force cX7_force 3 (some .int) 2 [.ref (oA ω 56), .int a1] (f_X7_force a1 I) I := by
  refine ct_i (by decide) (Nat.le_of_ble_eq_true rfl) ?_
  intro κ hlau hret C
  refine e_lv [0, 1] (lv1 := [(0, .ref (oA ω 56)), (1, .int a1)]) rfl ?_
  unfold f_X7_force
  refine e_iload_n C dX7_force_0 rfl 1 rfl (q := 1) rfl ?_
  refine e_iconst C dX7_force_1 ic_0 (q := 2) rfl ?_
  refine e_aload_n C dX7_force_2 rfl 0 rfl (q := 3) rfl ?_
  refine e_getf C (k := 56) (j := 10) (T := TX7) (N := 32) (v := .int (I 56 10)) dX7_force_3 (ltL hn (Nat.le_of_ble_eq_true rfl)) rfl rfl (by decide) in_X7 w_772 rfl (q := 6) rfl ?_
  refine e_iconst C dX7_force_6 ic_1 (q := 7) rfl ?_
  refine e_isub C dX7_force_7 (q := 8) rfl ?_
  refine e_callSi C (l := l) (av := [.int a1, .int (0 : Int32), .int ((I 56 10) - (1 : Int32))]) (st := []) hlau (x_X7_in (l := l) (ω := ω) (a0 := a1) (a1 := (0 : Int32)) (a2 := (I 56 10) - (1 : Int32)) hn (I := I)) dX7_force_8 w_723 w_724 w_67 w_725 md_X7_in (by decide) (by decide) rfl (Nat.le_of_ble_eq_true rfl) (q := 11) rfl (fun v2 J1 => ?_)
  refine e_ifne C (tgt := 17) (q := 14) dX7_force_11 rfl rfl ?_ ?_
  · refine e_aload_n C dX7_force_17 rfl 0 rfl (q := 18) rfl ?_
    refine e_getf C (k := 56) (j := 11) (T := TX7) (N := 32) (v := .int (J1 56 11)) dX7_force_18 (ltL hn (Nat.le_of_ble_eq_true rfl)) rfl rfl (by decide) in_X7 w_773 rfl (q := 21) rfl ?_
    refine e_nmi (fun v3 => ?_)
    refine e_istore_n C (lv1 := [(2, .int v3), (0, .ref (oA ω 56)), (1, .int a1)]) dX7_force_21 rfl (Nat.le_of_ble_eq_true rfl) rfl (q := 22) rfl ?_
    refine e_aload_n C dX7_force_22 rfl 1 rfl (q := 23) rfl ?_
    refine e_iload_n C dX7_force_23 rfl 2 rfl (q := 24) rfl ?_
    refine e_putf C (k := 56) (j := 11) (T := TX7) (N := 32) dX7_force_24 (ltL hn (Nat.le_of_ble_eq_true rfl)) rfl rfl (by decide) in_X7 w_773 tyX7_ok nmX7 rfl rfl rfl (show 11 < 32 by decide) (set_Mo_11_ _) (q := 27) rfl ?_
    refine e_nmM (fun J4 => ?_)
    refine e_iload_n C dX7_force_27 rfl 0 rfl (q := 28) rfl ?_
    exact e_ireturn C dX7_force_28 hret rfl
  · refine e_bipush C dX7_force_14 b8_m2 (q := 16) rfl ?_
    exact e_ireturn C dX7_force_16 hret rfl
set_option maxHeartbeats 4000000 in
set_option maxRecDepth 100000 in
theorem xb_X7_asksOf_b99 {l : Launch} {κ : Kx} {ω : Om} {a1 : Int32} {a2 : Int32} (C : CX κ ω cX7_asksOf 3 3 yX7_asksOf.cls) (hlau : κ.2.1 = l) (hret : κ.2.2.2.2.2.2.2.2.1.sig.returnType = (some .int)) (hn : 75 ≤ oN ω)  : ∀ (s0 : Int32) (s1 : Int32) (I : Mem), EE κ ω 3 (Gi κ ω) (f_X7_asksOf_b99 a1 a2 s0 s1 I) I 99 [] [.int s0, .int s1] := by
  intro s0 s1 I
  unfold f_X7_asksOf_b99
  refine e_bipush C dX7_asksOf_99 b8_99 (q := 101) rfl ?_
  refine e_callSi C (l := l) (av := [.int s1, .int s0, .int (99 : Int32)]) (st := []) hlau (x_X7_within (l := l) (ω := ω) (a0 := s1) (a1 := s0) (a2 := (99 : Int32)) hn (I := I)) dX7_asksOf_101 w_905 w_906 w_67 w_907 md_X7_within (by decide) (by decide) rfl (Nat.le_of_ble_eq_true rfl) (q := 104) rfl (fun v17 J16 => ?_)
  exact e_ireturn C dX7_asksOf_104 hret rfl
set_option maxHeartbeats 4000000 in
set_option maxRecDepth 100000 in
theorem x_X7_asksOf {l : Launch} {ω : Om} {a1 : Int32} {a2 : Int32} (hn : 75 ≤ oN ω)  {I : Mem} : CTi l ω yX7_asksOf cX7_asksOf 3 (some .int) 3 [.ref (oA ω 56), .int a1, .int a2] (f_X7_asksOf a1 a2 I) I := by
  refine ct_i (by decide) (Nat.le_of_ble_eq_true rfl) ?_
  intro κ hlau hret C
  refine e_lv [0, 1, 2] (lv1 := [(0, .ref (oA ω 56)), (1, .int a1), (2, .int a2)]) rfl ?_
  unfold f_X7_asksOf
  refine e_aload_n C dX7_asksOf_0 rfl 0 rfl (q := 1) rfl ?_
  refine e_getf C (k := 56) (j := 29) (T := TX7) (N := 32) (v := .ref (oA ω 73)) dX7_asksOf_1 (ltL hn (Nat.le_of_ble_eq_true rfl)) rfl rfl (by decide) in_X7 w_791 rfl (q := 4) rfl ?_
  refine e_iconst C dX7_asksOf_4 ic_0 (q := 5) rfl ?_
  refine e_aload_n C dX7_asksOf_5 rfl 0 rfl (q := 6) rfl ?_
  refine e_getf C (k := 56) (j := 3) (T := TX7) (N := 32) (v := .ref (oA ω 59)) dX7_asksOf_6 (ltL hn (Nat.le_of_ble_eq_true rfl)) rfl rfl (by decide) in_X7 w_765 rfl (q := 9) rfl ?_
  refine e_iconst C dX7_asksOf_9 ic_4 (q := 10) rfl ?_
  refine e_iload_n C dX7_asksOf_10 rfl 2 rfl (q := 11) rfl ?_
  refine e_imul C dX7_asksOf_11 (q := 12) rfl ?_
  refine e_iconst C dX7_asksOf_12 ic_1 (q := 13) rfl ?_
  refine e_iadd C dX7_asksOf_13 (q := 14) rfl ?_
  refine e_nmi (fun v1 => ?_)
  refine e_iald C (k := 59) (n := 24) dX7_asksOf_14 (ltL hn (Nat.le_of_ble_eq_true rfl)) rfl (q := 15) rfl ?_
  refine e_iast C (k := 73) (n := 6) dX7_asksOf_15 (ltL hn (Nat.le_of_ble_eq_true rfl)) (fun _ => rfl) (q := 16) rfl ?_
  refine e_nmM (fun J2 => ?_)
  refine e_aload_n C dX7_asksOf_16 rfl 0 rfl (q := 17) rfl ?_
  refine e_getf C (k := 56) (j := 29) (T := TX7) (N := 32) (v := .ref (oA ω 73)) dX7_asksOf_17 (ltL hn (Nat.le_of_ble_eq_true rfl)) rfl rfl (by decide) in_X7 w_791 rfl (q := 20) rfl ?_
  refine e_iconst C dX7_asksOf_20 ic_1 (q := 21) rfl ?_
  refine e_aload_n C dX7_asksOf_21 rfl 0 rfl (q := 22) rfl ?_
  refine e_getf C (k := 56) (j := 3) (T := TX7) (N := 32) (v := .ref (oA ω 59)) dX7_asksOf_22 (ltL hn (Nat.le_of_ble_eq_true rfl)) rfl rfl (by decide) in_X7 w_765 rfl (q := 25) rfl ?_
  refine e_iconst C dX7_asksOf_25 ic_4 (q := 26) rfl ?_
  refine e_iload_n C dX7_asksOf_26 rfl 2 rfl (q := 27) rfl ?_
  refine e_imul C dX7_asksOf_27 (q := 28) rfl ?_
  refine e_iconst C dX7_asksOf_28 ic_2 (q := 29) rfl ?_
  refine e_iadd C dX7_asksOf_29 (q := 30) rfl ?_
  refine e_nmi (fun v3 => ?_)
  refine e_iald C (k := 59) (n := 24) dX7_asksOf_30 (ltL hn (Nat.le_of_ble_eq_true rfl)) rfl (q := 31) rfl ?_
  refine e_iast C (k := 73) (n := 6) dX7_asksOf_31 (ltL hn (Nat.le_of_ble_eq_true rfl)) (fun _ => rfl) (q := 32) rfl ?_
  refine e_nmM (fun J4 => ?_)
  refine e_aload_n C dX7_asksOf_32 rfl 0 rfl (q := 33) rfl ?_
  refine e_getf C (k := 56) (j := 29) (T := TX7) (N := 32) (v := .ref (oA ω 73)) dX7_asksOf_33 (ltL hn (Nat.le_of_ble_eq_true rfl)) rfl rfl (by decide) in_X7 w_791 rfl (q := 36) rfl ?_
  refine e_iconst C dX7_asksOf_36 ic_2 (q := 37) rfl ?_
  refine e_aload_n C dX7_asksOf_37 rfl 0 rfl (q := 38) rfl ?_
  refine e_getf C (k := 56) (j := 5) (T := TX7) (N := 32) (v := .int (J4 56 5)) dX7_asksOf_38 (ltL hn (Nat.le_of_ble_eq_true rfl)) rfl rfl (by decide) in_X7 w_767 rfl (q := 41) rfl ?_
  refine e_iast C (k := 73) (n := 6) dX7_asksOf_41 (ltL hn (Nat.le_of_ble_eq_true rfl)) (fun _ => rfl) (q := 42) rfl ?_
  refine e_nmM (fun J5 => ?_)
  refine e_aload_n C dX7_asksOf_42 rfl 0 rfl (q := 43) rfl ?_
  refine e_getf C (k := 56) (j := 29) (T := TX7) (N := 32) (v := .ref (oA ω 73)) dX7_asksOf_43 (ltL hn (Nat.le_of_ble_eq_true rfl)) rfl rfl (by decide) in_X7 w_791 rfl (q := 46) rfl ?_
  refine e_iconst C dX7_asksOf_46 ic_3 (q := 47) rfl ?_
  refine e_aload_n C dX7_asksOf_47 rfl 0 rfl (q := 48) rfl ?_
  refine e_callVi C (l := l) (k := 56) (av := []) (st := [.int (3 : Int32), .ref (oA ω 73)]) hlau (x_X7_upSet (l := l) (ω := ω) hn (I := J5)) dX7_asksOf_48 w_863 w_865 w_30 w_67 w_866 md_X7_upSet (by decide) (by decide) rfl (ltL hn (Nat.le_of_ble_eq_true rfl)) rfl rfl (Nat.le_of_ble_eq_true rfl) (q := 51) rfl (fun v7 J6 => ?_)
  refine e_callSi C (l := l) (av := [.int v7]) (st := [.int (3 : Int32), .ref (oA ω 73)]) hlau (x_X7_onesOf (l := l) (ω := ω) (a0 := v7) hn (I := J6)) dX7_asksOf_51 w_871 w_872 w_67 w_873 md_X7_onesOf (by decide) (by decide) rfl (Nat.le_of_ble_eq_true rfl) (q := 54) rfl (fun v9 J8 => ?_)
  refine e_iast C (k := 73) (n := 6) dX7_asksOf_54 (ltL hn (Nat.le_of_ble_eq_true rfl)) (fun _ => rfl) (q := 55) rfl ?_
  refine e_nmM (fun J10 => ?_)
  refine e_aload_n C dX7_asksOf_55 rfl 0 rfl (q := 56) rfl ?_
  refine e_getf C (k := 56) (j := 29) (T := TX7) (N := 32) (v := .ref (oA ω 73)) dX7_asksOf_56 (ltL hn (Nat.le_of_ble_eq_true rfl)) rfl rfl (by decide) in_X7 w_791 rfl (q := 59) rfl ?_
  refine e_iconst C dX7_asksOf_59 ic_4 (q := 60) rfl ?_
  refine e_aload_n C dX7_asksOf_60 rfl 0 rfl (q := 61) rfl ?_
  refine e_getf C (k := 56) (j := 3) (T := TX7) (N := 32) (v := .ref (oA ω 59)) dX7_asksOf_61 (ltL hn (Nat.le_of_ble_eq_true rfl)) rfl rfl (by decide) in_X7 w_765 rfl (q := 64) rfl ?_
  refine e_iconst C dX7_asksOf_64 ic_4 (q := 65) rfl ?_
  refine e_iload_n C dX7_asksOf_65 rfl 2 rfl (q := 66) rfl ?_
  refine e_imul C dX7_asksOf_66 (q := 67) rfl ?_
  refine e_iconst C dX7_asksOf_67 ic_3 (q := 68) rfl ?_
  refine e_iadd C dX7_asksOf_68 (q := 69) rfl ?_
  refine e_nmi (fun v11 => ?_)
  refine e_iald C (k := 59) (n := 24) dX7_asksOf_69 (ltL hn (Nat.le_of_ble_eq_true rfl)) rfl (q := 70) rfl ?_
  refine e_iast C (k := 73) (n := 6) dX7_asksOf_70 (ltL hn (Nat.le_of_ble_eq_true rfl)) (fun _ => rfl) (q := 71) rfl ?_
  refine e_nmM (fun J12 => ?_)
  refine e_aload_n C dX7_asksOf_71 rfl 0 rfl (q := 72) rfl ?_
  refine e_getf C (k := 56) (j := 29) (T := TX7) (N := 32) (v := .ref (oA ω 73)) dX7_asksOf_72 (ltL hn (Nat.le_of_ble_eq_true rfl)) rfl rfl (by decide) in_X7 w_791 rfl (q := 75) rfl ?_
  refine e_iconst C dX7_asksOf_75 ic_5 (q := 76) rfl ?_
  refine e_aload_n C dX7_asksOf_76 rfl 0 rfl (q := 77) rfl ?_
  refine e_getf C (k := 56) (j := 2) (T := TX7) (N := 32) (v := .ref (oA ω 58)) dX7_asksOf_77 (ltL hn (Nat.le_of_ble_eq_true rfl)) rfl rfl (by decide) in_X7 w_764 rfl (q := 80) rfl ?_
  refine e_iload_n C dX7_asksOf_80 rfl 2 rfl (q := 81) rfl ?_
  refine e_iald C (k := 58) (n := 6) dX7_asksOf_81 (ltL hn (Nat.le_of_ble_eq_true rfl)) rfl (q := 82) rfl ?_
  refine e_iast C (k := 73) (n := 6) dX7_asksOf_82 (ltL hn (Nat.le_of_ble_eq_true rfl)) (fun _ => rfl) (q := 83) rfl ?_
  refine e_nmM (fun J13 => ?_)
  refine e_aload_n C dX7_asksOf_83 rfl 0 rfl (q := 84) rfl ?_
  refine e_iload_n C dX7_asksOf_84 rfl 1 rfl (q := 85) rfl ?_
  refine e_callVi C (l := l) (k := 56) (av := [.int a1]) (st := []) hlau (x_X7_says (l := l) (ω := ω) (a1 := a1) hn (I := J13)) dX7_asksOf_85 w_898 w_900 w_34 w_67 w_901 md_X7_says (by decide) (by decide) rfl (ltL hn (Nat.le_of_ble_eq_true rfl)) rfl rfl (Nat.le_of_ble_eq_true rfl) (q := 88) rfl (fun v15 J14 => ?_)
  refine e_iload_n C dX7_asksOf_88 rfl 1 rfl (q := 89) rfl ?_
  refine e_iconst C dX7_asksOf_89 ic_2 (q := 90) rfl ?_
  refine e_icmpne C (tgt := 98) (q := 93) dX7_asksOf_90 rfl rfl ?_ ?_
  · refine e_iconst C dX7_asksOf_98 ic_0 (q := 99) rfl ?_
    exact e_lv [] (lv1 := []) rfl (xb_X7_asksOf_b99 C hlau hret hn (0 : Int32) v15 _)
  · refine e_bipush C dX7_asksOf_93 b8_m99 (q := 95) rfl ?_
    refine e_goto C (tgt := 99) dX7_asksOf_95 rfl ?_
    exact e_lv [] (lv1 := []) rfl (xb_X7_asksOf_b99 C hlau hret hn (-99 : Int32) v15 _)
set_option maxHeartbeats 4000000 in
set_option maxRecDepth 100000 in
theorem x_X7_asks {l : Launch} {ω : Om} {a1 : Int32} {a2 : Int32} (hn : 75 ≤ oN ω)  {I : Mem} : CTi l ω yX7_asks cX7_asks 3 (some .int) 4 [.ref (oA ω 56), .int a1, .int a2] (f_X7_asks a1 a2 I) I := by
  refine ct_i (by decide) (Nat.le_of_ble_eq_true rfl) ?_
  intro κ hlau hret C
  refine e_lv [0, 1, 2] (lv1 := [(0, .ref (oA ω 56)), (1, .int a1), (2, .int a2)]) rfl ?_
  unfold f_X7_asks
  refine e_iload_n C dX7_asks_0 rfl 1 rfl (q := 1) rfl ?_
  refine e_iconst C dX7_asks_1 ic_0 (q := 2) rfl ?_
  refine e_iconst C dX7_asks_2 ic_2 (q := 3) rfl ?_
  refine e_callSi C (l := l) (av := [.int a1, .int (0 : Int32), .int (2 : Int32)]) (st := []) hlau (x_X7_in (l := l) (ω := ω) (a0 := a1) (a1 := (0 : Int32)) (a2 := (2 : Int32)) hn (I := I)) dX7_asks_3 w_723 w_724 w_67 w_725 md_X7_in (by decide) (by decide) rfl (Nat.le_of_ble_eq_true rfl) (q := 6) rfl (fun v2 J1 => ?_)
  refine e_ifeq C (tgt := 26) (q := 9) dX7_asks_6 rfl rfl ?_ ?_
  · refine e_sipush C dX7_asks_26 b16_m1000 (q := 29) rfl ?_
    exact e_ireturn C dX7_asks_29 hret rfl
  · refine e_aload_n C dX7_asks_9 rfl 0 rfl (q := 10) rfl ?_
    refine e_iload_n C dX7_asks_10 rfl 2 rfl (q := 11) rfl ?_
    refine e_callVi C (l := l) (k := 56) (av := [.int a2]) (st := []) hlau (x_X7_isOne (l := l) (ω := ω) (a1 := a2) hn (I := J1)) dX7_asks_11 w_890 w_892 w_32 w_67 w_893 md_X7_isOne (by decide) (by decide) rfl (ltL hn (Nat.le_of_ble_eq_true rfl)) rfl rfl (Nat.le_of_ble_eq_true rfl) (q := 14) rfl (fun v4 J3 => ?_)
    refine e_ifeq C (tgt := 26) (q := 17) dX7_asks_14 rfl rfl ?_ ?_
    · refine e_sipush C dX7_asks_26 b16_m1000 (q := 29) rfl ?_
      exact e_ireturn C dX7_asks_29 hret rfl
    · refine e_aload_n C dX7_asks_17 rfl 0 rfl (q := 18) rfl ?_
      refine e_iload_n C dX7_asks_18 rfl 1 rfl (q := 19) rfl ?_
      refine e_iload_n C dX7_asks_19 rfl 2 rfl (q := 20) rfl ?_
      refine e_callVi C (l := l) (k := 56) (av := [.int a1, .int a2]) (st := []) hlau (x_X7_asksOf (l := l) (ω := ω) (a1 := a1) (a2 := a2) hn (I := J3)) dX7_asks_20 w_894 w_896 w_33 w_67 w_897 md_X7_asksOf (by decide) (by decide) rfl (ltL hn (Nat.le_of_ble_eq_true rfl)) rfl rfl (Nat.le_of_ble_eq_true rfl) (q := 23) rfl (fun v6 J5 => ?_)
      refine e_goto C (tgt := 29) dX7_asks_23 rfl ?_
      exact e_ireturn C dX7_asks_29 hret rfl
set_option maxHeartbeats 4000000 in
set_option maxRecDepth 100000 in
theorem xb_X7_hat_b135 {l : Launch} {κ : Kx} {ω : Om} {a1 : Int32} {a2 : Int32} {a3 : Int32} (C : CX κ ω cX7_hat 5 2 yX7_hat.cls) (hlau : κ.2.1 = l) (hret : κ.2.2.2.2.2.2.2.2.1.sig.returnType = (some .int)) (hn : 75 ≤ oN ω)  : ∀ (n : Nat) (x4 : Int32) (I : Mem), EE κ ω 5 (Gi κ ω) (f_X7_hat_b135 a1 a2 a3 n x4 I) I 135 [(4, .int x4), (0, .ref (oA ω 56))] [] := by
  intro n
  induction n with
  | zero => intro x4 I; exact e_none
  | succ n ih =>
    intro x4 I
    rw [f_X7_hat_b135]
    refine e_iload C dX7_hat_135 0 rfl (q := 137) rfl ?_
    refine e_bipush C dX7_hat_137 b8_6 (q := 139) rfl ?_
    refine e_icmpge C (tgt := 180) (q := 142) dX7_hat_139 rfl rfl ?_ ?_
    · refine e_aload_n C dX7_hat_180 rfl 1 rfl (q := 181) rfl ?_
      refine e_dup C dX7_hat_181 rfl (q := 182) rfl ?_
      refine e_getf C (k := 56) (j := 0) (T := TX7) (N := 32) (v := .int (I 56 0)) dX7_hat_182 (ltL hn (Nat.le_of_ble_eq_true rfl)) rfl rfl (by decide) in_X7 w_762 rfl (q := 185) rfl ?_
      refine e_iconst C dX7_hat_185 ic_1 (q := 186) rfl ?_
      refine e_iadd C dX7_hat_186 (q := 187) rfl ?_
      refine e_putf C (k := 56) (j := 0) (T := TX7) (N := 32) dX7_hat_187 (ltL hn (Nat.le_of_ble_eq_true rfl)) rfl rfl (by decide) in_X7 w_762 tyX7_ok nmX7 rfl rfl rfl (show 0 < 32 by decide) (set_Mo_0_ _) (q := 190) rfl ?_
      refine e_nmM (fun J13 => ?_)
      refine e_aload_n C dX7_hat_190 rfl 1 rfl (q := 191) rfl ?_
      refine e_getf C (k := 56) (j := 0) (T := TX7) (N := 32) (v := .int (J13 56 0)) dX7_hat_191 (ltL hn (Nat.le_of_ble_eq_true rfl)) rfl rfl (by decide) in_X7 w_762 rfl (q := 194) rfl ?_
      refine e_iconst C dX7_hat_194 ic_1 (q := 195) rfl ?_
      refine e_isub C dX7_hat_195 (q := 196) rfl ?_
      exact e_ireturn C dX7_hat_196 hret rfl
    · refine e_aload_n C dX7_hat_142 rfl 1 rfl (q := 143) rfl ?_
      refine e_getf C (k := 56) (j := 4) (T := TX7) (N := 32) (v := .ref (oA ω 60)) dX7_hat_143 (ltL hn (Nat.le_of_ble_eq_true rfl)) rfl rfl (by decide) in_X7 w_766 rfl (q := 146) rfl ?_
      refine e_bipush C dX7_hat_146 b8_6 (q := 148) rfl ?_
      refine e_aload_n C dX7_hat_148 rfl 1 rfl (q := 149) rfl ?_
      refine e_getf C (k := 56) (j := 0) (T := TX7) (N := 32) (v := .int (I 56 0)) dX7_hat_149 (ltL hn (Nat.le_of_ble_eq_true rfl)) rfl rfl (by decide) in_X7 w_762 rfl (q := 152) rfl ?_
      refine e_imul C dX7_hat_152 (q := 153) rfl ?_
      refine e_iload C dX7_hat_153 0 rfl (q := 155) rfl ?_
      refine e_iadd C dX7_hat_155 (q := 156) rfl ?_
      refine e_iconst C dX7_hat_156 ic_0 (q := 157) rfl ?_
      refine e_iast C (k := 60) (n := 36) dX7_hat_157 (ltL hn (Nat.le_of_ble_eq_true rfl)) (fun _ => rfl) (q := 158) rfl ?_
      refine e_nmM (fun J14 => ?_)
      refine e_aload_n C dX7_hat_158 rfl 1 rfl (q := 159) rfl ?_
      refine e_getf C (k := 56) (j := 4) (T := TX7) (N := 32) (v := .ref (oA ω 60)) dX7_hat_159 (ltL hn (Nat.le_of_ble_eq_true rfl)) rfl rfl (by decide) in_X7 w_766 rfl (q := 162) rfl ?_
      refine e_bipush C dX7_hat_162 b8_6 (q := 164) rfl ?_
      refine e_iload C dX7_hat_164 0 rfl (q := 166) rfl ?_
      refine e_imul C dX7_hat_166 (q := 167) rfl ?_
      refine e_aload_n C dX7_hat_167 rfl 1 rfl (q := 168) rfl ?_
      refine e_getf C (k := 56) (j := 0) (T := TX7) (N := 32) (v := .int (J14 56 0)) dX7_hat_168 (ltL hn (Nat.le_of_ble_eq_true rfl)) rfl rfl (by decide) in_X7 w_762 rfl (q := 171) rfl ?_
      refine e_iadd C dX7_hat_171 (q := 172) rfl ?_
      refine e_iconst C dX7_hat_172 ic_0 (q := 173) rfl ?_
      refine e_iast C (k := 60) (n := 36) dX7_hat_173 (ltL hn (Nat.le_of_ble_eq_true rfl)) (fun _ => rfl) (q := 174) rfl ?_
      refine e_nmM (fun J15 => ?_)
      refine e_iinc C (v := x4 + (1 : Int32)) (lv1 := [(4, .int (x4 + (1 : Int32))), (0, .ref (oA ω 56))]) dX7_hat_174 0 rfl (Nat.le_of_ble_eq_true rfl) (by rw [ic_1]) rfl (q := 177) rfl ?_
      refine e_goto C (tgt := 135) dX7_hat_177 rfl ?_
      exact ih (x4 + (1 : Int32)) _
set_option maxHeartbeats 4000000 in
set_option maxRecDepth 100000 in
theorem x_X7_hat {l : Launch} {ω : Om} {a1 : Int32} {a2 : Int32} {a3 : Int32} (hn : 75 ≤ oN ω)  {I : Mem} : CTi l ω yX7_hat cX7_hat 5 (some .int) 2 [.ref (oA ω 56), .int a1, .int a2, .int a3] (f_X7_hat a1 a2 a3 I) I := by
  refine ct_i (by decide) (Nat.le_of_ble_eq_true rfl) ?_
  intro κ hlau hret C
  refine e_lv [0, 1, 2, 3] (lv1 := [(0, .ref (oA ω 56)), (1, .int a1), (2, .int a2), (3, .int a3)]) rfl ?_
  unfold f_X7_hat
  refine e_iload_n C dX7_hat_0 rfl 1 rfl (q := 1) rfl ?_
  refine e_iconst C dX7_hat_1 ic_0 (q := 2) rfl ?_
  refine e_bipush C dX7_hat_2 b8_59 (q := 4) rfl ?_
  refine e_callSi C (l := l) (av := [.int a1, .int (0 : Int32), .int (59 : Int32)]) (st := []) hlau (x_X7_in (l := l) (ω := ω) (a0 := a1) (a1 := (0 : Int32)) (a2 := (59 : Int32)) hn (I := I)) dX7_hat_4 w_723 w_724 w_67 w_725 md_X7_in (by decide) (by decide) rfl (Nat.le_of_ble_eq_true rfl) (q := 7) rfl (fun v2 J1 => ?_)
  refine e_ifeq C (tgt := 31) (q := 10) dX7_hat_7 rfl rfl ?_ ?_
  · refine e_bipush C dX7_hat_31 b8_m2 (q := 33) rfl ?_
    exact e_ireturn C dX7_hat_33 hret rfl
  · refine e_iload_n C dX7_hat_10 rfl 2 rfl (q := 11) rfl ?_
    refine e_iconst C dX7_hat_11 ic_0 (q := 12) rfl ?_
    refine e_bipush C dX7_hat_12 b8_63 (q := 14) rfl ?_
    refine e_callSi C (l := l) (av := [.int a2, .int (0 : Int32), .int (63 : Int32)]) (st := []) hlau (x_X7_in (l := l) (ω := ω) (a0 := a2) (a1 := (0 : Int32)) (a2 := (63 : Int32)) hn (I := J1)) dX7_hat_14 w_723 w_724 w_67 w_725 md_X7_in (by decide) (by decide) rfl (Nat.le_of_ble_eq_true rfl) (q := 17) rfl (fun v4 J3 => ?_)
    refine e_ifeq C (tgt := 31) (q := 20) dX7_hat_17 rfl rfl ?_ ?_
    · refine e_bipush C dX7_hat_31 b8_m2 (q := 33) rfl ?_
      exact e_ireturn C dX7_hat_33 hret rfl
    · refine e_iload_n C dX7_hat_20 rfl 3 rfl (q := 21) rfl ?_
      refine e_iconst C dX7_hat_21 ic_0 (q := 22) rfl ?_
      refine e_sipush C dX7_hat_22 b16_9999 (q := 25) rfl ?_
      refine e_callSi C (l := l) (av := [.int a3, .int (0 : Int32), .int (9999 : Int32)]) (st := []) hlau (x_X7_in (l := l) (ω := ω) (a0 := a3) (a1 := (0 : Int32)) (a2 := (9999 : Int32)) hn (I := J3)) dX7_hat_25 w_723 w_724 w_67 w_725 md_X7_in (by decide) (by decide) rfl (Nat.le_of_ble_eq_true rfl) (q := 28) rfl (fun v6 J5 => ?_)
      refine e_ifne C (tgt := 34) (q := 31) dX7_hat_28 rfl rfl ?_ ?_
      · refine e_aload_n C dX7_hat_34 rfl 0 rfl (q := 35) rfl ?_
        refine e_getf C (k := 56) (j := 0) (T := TX7) (N := 32) (v := .int (J5 56 0)) dX7_hat_35 (ltL hn (Nat.le_of_ble_eq_true rfl)) rfl rfl (by decide) in_X7 w_762 rfl (q := 38) rfl ?_
        refine e_bipush C dX7_hat_38 b8_6 (q := 40) rfl ?_
        refine e_icmpne C (tgt := 46) (q := 43) dX7_hat_40 rfl rfl ?_ ?_
        · refine e_aload_n C dX7_hat_46 rfl 0 rfl (q := 47) rfl ?_
          refine e_getf C (k := 56) (j := 1) (T := TX7) (N := 32) (v := .ref (oA ω 57)) dX7_hat_47 (ltL hn (Nat.le_of_ble_eq_true rfl)) rfl rfl (by decide) in_X7 w_763 rfl (q := 50) rfl ?_
          refine e_aload_n C dX7_hat_50 rfl 0 rfl (q := 51) rfl ?_
          refine e_getf C (k := 56) (j := 0) (T := TX7) (N := 32) (v := .int (J5 56 0)) dX7_hat_51 (ltL hn (Nat.le_of_ble_eq_true rfl)) rfl rfl (by decide) in_X7 w_762 rfl (q := 54) rfl ?_
          refine e_iload_n C dX7_hat_54 rfl 1 rfl (q := 55) rfl ?_
          refine e_bipush C dX7_hat_55 b8_10 (q := 57) rfl ?_
          refine e_idiv C dX7_hat_57 (by decide) (q := 58) rfl ?_
          refine e_iast C (k := 57) (n := 6) dX7_hat_58 (ltL hn (Nat.le_of_ble_eq_true rfl)) (fun _ => rfl) (q := 59) rfl ?_
          refine e_nmM (fun J7 => ?_)
          refine e_aload_n C dX7_hat_59 rfl 0 rfl (q := 60) rfl ?_
          refine e_getf C (k := 56) (j := 2) (T := TX7) (N := 32) (v := .ref (oA ω 58)) dX7_hat_60 (ltL hn (Nat.le_of_ble_eq_true rfl)) rfl rfl (by decide) in_X7 w_764 rfl (q := 63) rfl ?_
          refine e_aload_n C dX7_hat_63 rfl 0 rfl (q := 64) rfl ?_
          refine e_getf C (k := 56) (j := 0) (T := TX7) (N := 32) (v := .int (J7 56 0)) dX7_hat_64 (ltL hn (Nat.le_of_ble_eq_true rfl)) rfl rfl (by decide) in_X7 w_762 rfl (q := 67) rfl ?_
          refine e_iload_n C dX7_hat_67 rfl 1 rfl (q := 68) rfl ?_
          refine e_bipush C dX7_hat_68 b8_10 (q := 70) rfl ?_
          refine e_irem C dX7_hat_70 (by decide) (q := 71) rfl ?_
          refine e_iast C (k := 58) (n := 6) dX7_hat_71 (ltL hn (Nat.le_of_ble_eq_true rfl)) (fun _ => rfl) (q := 72) rfl ?_
          refine e_nmM (fun J8 => ?_)
          refine e_aload_n C dX7_hat_72 rfl 0 rfl (q := 73) rfl ?_
          refine e_getf C (k := 56) (j := 3) (T := TX7) (N := 32) (v := .ref (oA ω 59)) dX7_hat_73 (ltL hn (Nat.le_of_ble_eq_true rfl)) rfl rfl (by decide) in_X7 w_765 rfl (q := 76) rfl ?_
          refine e_iconst C dX7_hat_76 ic_4 (q := 77) rfl ?_
          refine e_aload_n C dX7_hat_77 rfl 0 rfl (q := 78) rfl ?_
          refine e_getf C (k := 56) (j := 0) (T := TX7) (N := 32) (v := .int (J8 56 0)) dX7_hat_78 (ltL hn (Nat.le_of_ble_eq_true rfl)) rfl rfl (by decide) in_X7 w_762 rfl (q := 81) rfl ?_
          refine e_imul C dX7_hat_81 (q := 82) rfl ?_
          refine e_iload_n C dX7_hat_82 rfl 2 rfl (q := 83) rfl ?_
          refine e_iast C (k := 59) (n := 24) dX7_hat_83 (ltL hn (Nat.le_of_ble_eq_true rfl)) (fun _ => rfl) (q := 84) rfl ?_
          refine e_nmM (fun J9 => ?_)
          refine e_aload_n C dX7_hat_84 rfl 0 rfl (q := 85) rfl ?_
          refine e_getf C (k := 56) (j := 3) (T := TX7) (N := 32) (v := .ref (oA ω 59)) dX7_hat_85 (ltL hn (Nat.le_of_ble_eq_true rfl)) rfl rfl (by decide) in_X7 w_765 rfl (q := 88) rfl ?_
          refine e_iconst C dX7_hat_88 ic_4 (q := 89) rfl ?_
          refine e_aload_n C dX7_hat_89 rfl 0 rfl (q := 90) rfl ?_
          refine e_getf C (k := 56) (j := 0) (T := TX7) (N := 32) (v := .int (J9 56 0)) dX7_hat_90 (ltL hn (Nat.le_of_ble_eq_true rfl)) rfl rfl (by decide) in_X7 w_762 rfl (q := 93) rfl ?_
          refine e_imul C dX7_hat_93 (q := 94) rfl ?_
          refine e_iconst C dX7_hat_94 ic_1 (q := 95) rfl ?_
          refine e_iadd C dX7_hat_95 (q := 96) rfl ?_
          refine e_iload_n C dX7_hat_96 rfl 3 rfl (q := 97) rfl ?_
          refine e_bipush C dX7_hat_97 b8_100 (q := 99) rfl ?_
          refine e_idiv C dX7_hat_99 (by decide) (q := 100) rfl ?_
          refine e_iast C (k := 59) (n := 24) dX7_hat_100 (ltL hn (Nat.le_of_ble_eq_true rfl)) (fun _ => rfl) (q := 101) rfl ?_
          refine e_nmM (fun J10 => ?_)
          refine e_aload_n C dX7_hat_101 rfl 0 rfl (q := 102) rfl ?_
          refine e_getf C (k := 56) (j := 3) (T := TX7) (N := 32) (v := .ref (oA ω 59)) dX7_hat_102 (ltL hn (Nat.le_of_ble_eq_true rfl)) rfl rfl (by decide) in_X7 w_765 rfl (q := 105) rfl ?_
          refine e_iconst C dX7_hat_105 ic_4 (q := 106) rfl ?_
          refine e_aload_n C dX7_hat_106 rfl 0 rfl (q := 107) rfl ?_
          refine e_getf C (k := 56) (j := 0) (T := TX7) (N := 32) (v := .int (J10 56 0)) dX7_hat_107 (ltL hn (Nat.le_of_ble_eq_true rfl)) rfl rfl (by decide) in_X7 w_762 rfl (q := 110) rfl ?_
          refine e_imul C dX7_hat_110 (q := 111) rfl ?_
          refine e_iconst C dX7_hat_111 ic_2 (q := 112) rfl ?_
          refine e_iadd C dX7_hat_112 (q := 113) rfl ?_
          refine e_iload_n C dX7_hat_113 rfl 3 rfl (q := 114) rfl ?_
          refine e_bipush C dX7_hat_114 b8_100 (q := 116) rfl ?_
          refine e_irem C dX7_hat_116 (by decide) (q := 117) rfl ?_
          refine e_iast C (k := 59) (n := 24) dX7_hat_117 (ltL hn (Nat.le_of_ble_eq_true rfl)) (fun _ => rfl) (q := 118) rfl ?_
          refine e_nmM (fun J11 => ?_)
          refine e_aload_n C dX7_hat_118 rfl 0 rfl (q := 119) rfl ?_
          refine e_getf C (k := 56) (j := 3) (T := TX7) (N := 32) (v := .ref (oA ω 59)) dX7_hat_119 (ltL hn (Nat.le_of_ble_eq_true rfl)) rfl rfl (by decide) in_X7 w_765 rfl (q := 122) rfl ?_
          refine e_iconst C dX7_hat_122 ic_4 (q := 123) rfl ?_
          refine e_aload_n C dX7_hat_123 rfl 0 rfl (q := 124) rfl ?_
          refine e_getf C (k := 56) (j := 0) (T := TX7) (N := 32) (v := .int (J11 56 0)) dX7_hat_124 (ltL hn (Nat.le_of_ble_eq_true rfl)) rfl rfl (by decide) in_X7 w_762 rfl (q := 127) rfl ?_
          refine e_imul C dX7_hat_127 (q := 128) rfl ?_
          refine e_iconst C dX7_hat_128 ic_3 (q := 129) rfl ?_
          refine e_iadd C dX7_hat_129 (q := 130) rfl ?_
          refine e_iconst C dX7_hat_130 ic_0 (q := 131) rfl ?_
          refine e_iast C (k := 59) (n := 24) dX7_hat_131 (ltL hn (Nat.le_of_ble_eq_true rfl)) (fun _ => rfl) (q := 132) rfl ?_
          refine e_nmM (fun J12 => ?_)
          refine e_iconst C dX7_hat_132 ic_0 (q := 133) rfl ?_
          refine e_istore C (lv1 := [(4, .int (0 : Int32)), (0, .ref (oA ω 56)), (1, .int a1), (2, .int a2), (3, .int a3)]) dX7_hat_133 (Nat.le_of_ble_eq_true rfl) rfl (q := 135) rfl ?_
          exact e_lv [0, 1] (lv1 := [(4, .int (0 : Int32)), (0, .ref (oA ω 56))]) rfl (xb_X7_hat_b135 C hlau hret hn FU (0 : Int32) _)
        · refine e_bipush C dX7_hat_43 b8_m4 (q := 45) rfl ?_
          exact e_ireturn C dX7_hat_45 hret rfl
      · refine e_bipush C dX7_hat_31 b8_m2 (q := 33) rfl ?_
        exact e_ireturn C dX7_hat_33 hret rfl
set_option maxHeartbeats 4000000 in
set_option maxRecDepth 100000 in
theorem xb_X7_put_b33 {l : Launch} {κ : Kx} {ω : Om} {a1 : Int32} {a2 : Int32} {a3 : Int32} (C : CX κ ω cX7_put 5 3 yX7_put.cls) (hlau : κ.2.1 = l) (hret : κ.2.2.2.2.2.2.2.2.1.sig.returnType = (some .int)) (hn : 75 ≤ oN ω)  : ∀ (s0 : Int32) (s1 : Int32) (s2 : Int32) (I : Mem), EE κ ω 5 (Gi κ ω) (f_X7_put_b33 a1 a2 a3 s0 s1 s2 I) I 33 [(0, .ref (oA ω 56)), (1, .int a1), (2, .int a2), (3, .int a3)] [.int s0, .int s1, .int s2] := by
  intro s0 s1 s2 I
  unfold f_X7_put_b33
  refine e_callSi C (l := l) (av := [.int s2, .int s1, .int s0]) (st := []) hlau (x_X7_in (l := l) (ω := ω) (a0 := s2) (a1 := s1) (a2 := s0) hn (I := I)) dX7_put_33 w_723 w_724 w_67 w_725 md_X7_in (by decide) (by decide) rfl (Nat.le_of_ble_eq_true rfl) (q := 36) rfl (fun v6 J5 => ?_)
  refine e_ifne C (tgt := 42) (q := 39) dX7_put_36 rfl rfl ?_ ?_
  · refine e_aload_n C dX7_put_42 rfl 0 rfl (q := 43) rfl ?_
    refine e_getf C (k := 56) (j := 3) (T := TX7) (N := 32) (v := .ref (oA ω 59)) dX7_put_43 (ltL hn (Nat.le_of_ble_eq_true rfl)) rfl rfl (by decide) in_X7 w_765 rfl (q := 46) rfl ?_
    refine e_iconst C dX7_put_46 ic_4 (q := 47) rfl ?_
    refine e_iload_n C dX7_put_47 rfl 1 rfl (q := 48) rfl ?_
    refine e_imul C dX7_put_48 (q := 49) rfl ?_
    refine e_iload_n C dX7_put_49 rfl 2 rfl (q := 50) rfl ?_
    refine e_iadd C dX7_put_50 (q := 51) rfl ?_
    refine e_iald C (k := 59) (n := 24) dX7_put_51 (ltL hn (Nat.le_of_ble_eq_true rfl)) rfl (q := 52) rfl ?_
    refine e_nmi (fun v7 => ?_)
    refine e_istore C (lv1 := [(4, .int v7), (0, .ref (oA ω 56)), (1, .int a1), (2, .int a2), (3, .int a3)]) dX7_put_52 (Nat.le_of_ble_eq_true rfl) rfl (q := 54) rfl ?_
    refine e_aload_n C dX7_put_54 rfl 1 rfl (q := 55) rfl ?_
    refine e_getf C (k := 56) (j := 3) (T := TX7) (N := 32) (v := .ref (oA ω 59)) dX7_put_55 (ltL hn (Nat.le_of_ble_eq_true rfl)) rfl rfl (by decide) in_X7 w_765 rfl (q := 58) rfl ?_
    refine e_iconst C dX7_put_58 ic_4 (q := 59) rfl ?_
    refine e_iload_n C dX7_put_59 rfl 2 rfl (q := 60) rfl ?_
    refine e_imul C dX7_put_60 (q := 61) rfl ?_
    refine e_iload_n C dX7_put_61 rfl 3 rfl (q := 62) rfl ?_
    refine e_iadd C dX7_put_62 (q := 63) rfl ?_
    refine e_iload_n C dX7_put_63 rfl 4 rfl (q := 64) rfl ?_
    refine e_iast C (k := 59) (n := 24) dX7_put_64 (ltL hn (Nat.le_of_ble_eq_true rfl)) (fun _ => rfl) (q := 65) rfl ?_
    refine e_nmM (fun J8 => ?_)
    refine e_iload C dX7_put_65 0 rfl (q := 67) rfl ?_
    exact e_ireturn C dX7_put_67 hret rfl
  · refine e_bipush C dX7_put_39 b8_m7 (q := 41) rfl ?_
    exact e_ireturn C dX7_put_41 hret rfl
set_option maxHeartbeats 4000000 in
set_option maxRecDepth 100000 in
theorem x_X7_put {l : Launch} {ω : Om} {a1 : Int32} {a2 : Int32} {a3 : Int32} (hn : 75 ≤ oN ω)  {I : Mem} : CTi l ω yX7_put cX7_put 5 (some .int) 3 [.ref (oA ω 56), .int a1, .int a2, .int a3] (f_X7_put a1 a2 a3 I) I := by
  refine ct_i (by decide) (Nat.le_of_ble_eq_true rfl) ?_
  intro κ hlau hret C
  refine e_lv [0, 1, 2, 3] (lv1 := [(0, .ref (oA ω 56)), (1, .int a1), (2, .int a2), (3, .int a3)]) rfl ?_
  unfold f_X7_put
  refine e_aload_n C dX7_put_0 rfl 0 rfl (q := 1) rfl ?_
  refine e_iload_n C dX7_put_1 rfl 1 rfl (q := 2) rfl ?_
  refine e_callVi C (l := l) (k := 56) (av := [.int a1]) (st := []) hlau (x_X7_isOne (l := l) (ω := ω) (a1 := a1) hn (I := I)) dX7_put_2 w_890 w_892 w_32 w_67 w_893 md_X7_isOne (by decide) (by decide) rfl (ltL hn (Nat.le_of_ble_eq_true rfl)) rfl rfl (Nat.le_of_ble_eq_true rfl) (q := 5) rfl (fun v2 J1 => ?_)
  refine e_ifne C (tgt := 11) (q := 8) dX7_put_5 rfl rfl ?_ ?_
  · refine e_iload_n C dX7_put_11 rfl 2 rfl (q := 12) rfl ?_
    refine e_iconst C dX7_put_12 ic_0 (q := 13) rfl ?_
    refine e_iconst C dX7_put_13 ic_3 (q := 14) rfl ?_
    refine e_callSi C (l := l) (av := [.int a2, .int (0 : Int32), .int (3 : Int32)]) (st := []) hlau (x_X7_in (l := l) (ω := ω) (a0 := a2) (a1 := (0 : Int32)) (a2 := (3 : Int32)) hn (I := J1)) dX7_put_14 w_723 w_724 w_67 w_725 md_X7_in (by decide) (by decide) rfl (Nat.le_of_ble_eq_true rfl) (q := 17) rfl (fun v4 J3 => ?_)
    refine e_ifeq C (tgt := 39) (q := 20) dX7_put_17 rfl rfl ?_ ?_
    · refine e_bipush C dX7_put_39 b8_m7 (q := 41) rfl ?_
      exact e_ireturn C dX7_put_41 hret rfl
    · refine e_iload_n C dX7_put_20 rfl 3 rfl (q := 21) rfl ?_
      refine e_iconst C dX7_put_21 ic_0 (q := 22) rfl ?_
      refine e_iload_n C dX7_put_22 rfl 2 rfl (q := 23) rfl ?_
      refine e_ifne C (tgt := 31) (q := 26) dX7_put_23 rfl rfl ?_ ?_
      · refine e_bipush C dX7_put_31 b8_99 (q := 33) rfl ?_
        exact xb_X7_put_b33 C hlau hret hn (99 : Int32) (0 : Int32) a3 _
      · refine e_bipush C dX7_put_26 b8_63 (q := 28) rfl ?_
        refine e_goto C (tgt := 33) dX7_put_28 rfl ?_
        exact xb_X7_put_b33 C hlau hret hn (63 : Int32) (0 : Int32) a3 _
  · refine e_bipush C dX7_put_8 b8_m5 (q := 10) rfl ?_
    exact e_ireturn C dX7_put_10 hret rfl
set_option maxHeartbeats 4000000 in
set_option maxRecDepth 100000 in
theorem xb_X7_goes_b81 {l : Launch} {κ : Kx} {ω : Om} {a1 : Int32} (C : CX κ ω cX7_goes 3 4 yX7_goes.cls) (hlau : κ.2.1 = l) (hret : κ.2.2.2.2.2.2.2.2.1.sig.returnType = (some .boolean)) (hn : 75 ≤ oN ω)  : ∀  (I : Mem), EE κ ω 3 (Gi κ ω) (f_X7_goes_b81 a1  I) I 81 [] [] := by
  intro  I
  unfold f_X7_goes_b81
  refine e_iconst C dX7_goes_81 ic_1 (q := 82) rfl ?_
  refine e_goto C (tgt := 86) dX7_goes_82 rfl ?_
  exact e_ireturn C dX7_goes_86 hret rfl
set_option maxHeartbeats 4000000 in
set_option maxRecDepth 100000 in
theorem xb_X7_goes_b26 {l : Launch} {κ : Kx} {ω : Om} {a1 : Int32} (C : CX κ ω cX7_goes 3 4 yX7_goes.cls) (hlau : κ.2.1 = l) (hret : κ.2.2.2.2.2.2.2.2.1.sig.returnType = (some .boolean)) (hn : 75 ≤ oN ω)  : ∀ (s0 : Int32) (I : Mem), EE κ ω 3 (Gi κ ω) (f_X7_goes_b26 a1 s0 I) I 26 [(0, .ref (oA ω 56)), (1, .int a1)] [.int s0] := by
  intro s0 I
  unfold f_X7_goes_b26
  refine e_istore_n C (lv1 := [(2, .int s0), (0, .ref (oA ω 56)), (1, .int a1)]) dX7_goes_26 rfl (Nat.le_of_ble_eq_true rfl) rfl (q := 27) rfl ?_
  refine e_aload_n C dX7_goes_27 rfl 1 rfl (q := 28) rfl ?_
  refine e_getf C (k := 56) (j := 1) (T := TX7) (N := 32) (v := .ref (oA ω 57)) dX7_goes_28 (ltL hn (Nat.le_of_ble_eq_true rfl)) rfl rfl (by decide) in_X7 w_763 rfl (q := 31) rfl ?_
  refine e_iload_n C dX7_goes_31 rfl 2 rfl (q := 32) rfl ?_
  refine e_iald C (k := 57) (n := 6) dX7_goes_32 (ltL hn (Nat.le_of_ble_eq_true rfl)) rfl (q := 33) rfl ?_
  refine e_nmi (fun v3 => ?_)
  refine e_if (fun h4 => ?_) (fun h4 => ?_)
  · refine e_tabIn C (v := 2) (off := 27) (tgt := 60) dX7_goes_33 (by rw [h4]; rfl) (by decide) rfl rfl ?_
    refine e_iload_n C dX7_goes_60 rfl 0 rfl (q := 61) rfl ?_
    refine e_ifne C (tgt := 81) (q := 64) dX7_goes_61 rfl rfl ?_ ?_
    · exact e_lv [] (lv1 := []) rfl (xb_X7_goes_b81 C hlau hret hn _)
    · refine e_aload_n C dX7_goes_64 rfl 1 rfl (q := 65) rfl ?_
      refine e_getf C (k := 56) (j := 5) (T := TX7) (N := 32) (v := .int (I 56 5)) dX7_goes_65 (ltL hn (Nat.le_of_ble_eq_true rfl)) rfl rfl (by decide) in_X7 w_767 rfl (q := 68) rfl ?_
      refine e_iconst C dX7_goes_68 ic_3 (q := 69) rfl ?_
      refine e_irem C dX7_goes_69 (by decide) (q := 70) rfl ?_
      refine e_aload_n C dX7_goes_70 rfl 1 rfl (q := 71) rfl ?_
      refine e_getf C (k := 56) (j := 2) (T := TX7) (N := 32) (v := .ref (oA ω 58)) dX7_goes_71 (ltL hn (Nat.le_of_ble_eq_true rfl)) rfl rfl (by decide) in_X7 w_764 rfl (q := 74) rfl ?_
      refine e_iload_n C dX7_goes_74 rfl 2 rfl (q := 75) rfl ?_
      refine e_iald C (k := 58) (n := 6) dX7_goes_75 (ltL hn (Nat.le_of_ble_eq_true rfl)) rfl (q := 76) rfl ?_
      refine e_iconst C dX7_goes_76 ic_3 (q := 77) rfl ?_
      refine e_irem C dX7_goes_77 (by decide) (q := 78) rfl ?_
      refine e_icmpne C (tgt := 85) (q := 81) dX7_goes_78 rfl rfl ?_ ?_
      · refine e_iconst C dX7_goes_85 ic_0 (q := 86) rfl ?_
        exact e_ireturn C dX7_goes_86 hret rfl
      · exact e_lv [] (lv1 := []) rfl (xb_X7_goes_b81 C hlau hret hn _)
  · refine e_if (fun h5 => ?_) (fun h5 => ?_)
    · refine e_tabIn C (v := 3) (off := 54) (tgt := 87) dX7_goes_33 (by rw [h5]; rfl) (by decide) rfl rfl ?_
      refine e_iload_n C dX7_goes_87 rfl 0 rfl (q := 88) rfl ?_
      refine e_ifeq C (tgt := 108) (q := 91) dX7_goes_88 rfl rfl ?_ ?_
      · refine e_iconst C dX7_goes_108 ic_0 (q := 109) rfl ?_
        exact e_ireturn C dX7_goes_109 hret rfl
      · refine e_aload_n C dX7_goes_91 rfl 1 rfl (q := 92) rfl ?_
        refine e_getf C (k := 56) (j := 5) (T := TX7) (N := 32) (v := .int (I 56 5)) dX7_goes_92 (ltL hn (Nat.le_of_ble_eq_true rfl)) rfl rfl (by decide) in_X7 w_767 rfl (q := 95) rfl ?_
        refine e_aload_n C dX7_goes_95 rfl 1 rfl (q := 96) rfl ?_
        refine e_getf C (k := 56) (j := 2) (T := TX7) (N := 32) (v := .ref (oA ω 58)) dX7_goes_96 (ltL hn (Nat.le_of_ble_eq_true rfl)) rfl rfl (by decide) in_X7 w_764 rfl (q := 99) rfl ?_
        refine e_iload_n C dX7_goes_99 rfl 2 rfl (q := 100) rfl ?_
        refine e_iald C (k := 58) (n := 6) dX7_goes_100 (ltL hn (Nat.le_of_ble_eq_true rfl)) rfl (q := 101) rfl ?_
        refine e_icmplt C (tgt := 108) (q := 104) dX7_goes_101 rfl rfl ?_ ?_
        · refine e_iconst C dX7_goes_108 ic_0 (q := 109) rfl ?_
          exact e_ireturn C dX7_goes_109 hret rfl
        · refine e_iconst C dX7_goes_104 ic_1 (q := 105) rfl ?_
          refine e_goto C (tgt := 109) dX7_goes_105 rfl ?_
          exact e_ireturn C dX7_goes_109 hret rfl
    · refine e_if (fun h6 => ?_) (fun h6 => ?_)
      · refine e_tabIn C (v := 4) (off := 27) (tgt := 60) dX7_goes_33 (by rw [h6]; rfl) (by decide) rfl rfl ?_
        refine e_iload_n C dX7_goes_60 rfl 0 rfl (q := 61) rfl ?_
        refine e_ifne C (tgt := 81) (q := 64) dX7_goes_61 rfl rfl ?_ ?_
        · exact e_lv [] (lv1 := []) rfl (xb_X7_goes_b81 C hlau hret hn _)
        · refine e_aload_n C dX7_goes_64 rfl 1 rfl (q := 65) rfl ?_
          refine e_getf C (k := 56) (j := 5) (T := TX7) (N := 32) (v := .int (I 56 5)) dX7_goes_65 (ltL hn (Nat.le_of_ble_eq_true rfl)) rfl rfl (by decide) in_X7 w_767 rfl (q := 68) rfl ?_
          refine e_iconst C dX7_goes_68 ic_3 (q := 69) rfl ?_
          refine e_irem C dX7_goes_69 (by decide) (q := 70) rfl ?_
          refine e_aload_n C dX7_goes_70 rfl 1 rfl (q := 71) rfl ?_
          refine e_getf C (k := 56) (j := 2) (T := TX7) (N := 32) (v := .ref (oA ω 58)) dX7_goes_71 (ltL hn (Nat.le_of_ble_eq_true rfl)) rfl rfl (by decide) in_X7 w_764 rfl (q := 74) rfl ?_
          refine e_iload_n C dX7_goes_74 rfl 2 rfl (q := 75) rfl ?_
          refine e_iald C (k := 58) (n := 6) dX7_goes_75 (ltL hn (Nat.le_of_ble_eq_true rfl)) rfl (q := 76) rfl ?_
          refine e_iconst C dX7_goes_76 ic_3 (q := 77) rfl ?_
          refine e_irem C dX7_goes_77 (by decide) (q := 78) rfl ?_
          refine e_icmpne C (tgt := 85) (q := 81) dX7_goes_78 rfl rfl ?_ ?_
          · refine e_iconst C dX7_goes_85 ic_0 (q := 86) rfl ?_
            exact e_ireturn C dX7_goes_86 hret rfl
          · exact e_lv [] (lv1 := []) rfl (xb_X7_goes_b81 C hlau hret hn _)
      · refine e_tabOut C (tgt := 110) dX7_goes_33 (by have g0 := i32_ne h4; have g1 := i32_ne h5; have g2 := i32_ne h6; have f0 : ((2 : Int32)).toInt = 2 := rfl; have f1 : ((3 : Int32)).toInt = 3 := rfl; have f2 : ((4 : Int32)).toInt = 4 := rfl; omega) rfl ?_
        refine e_iload_n C dX7_goes_110 rfl 0 rfl (q := 111) rfl ?_
        exact e_ireturn_t C dX7_goes_111 hret rfl rfl
set_option maxHeartbeats 4000000 in
set_option maxRecDepth 100000 in
theorem x_X7_goes {l : Launch} {ω : Om} {a1 : Int32} (hn : 75 ≤ oN ω)  {I : Mem} : CTi l ω yX7_goes cX7_goes 3 (some .boolean) 4 [.ref (oA ω 56), .int a1] (f_X7_goes a1 I) I := by
  refine ct_i (by decide) (Nat.le_of_ble_eq_true rfl) ?_
  intro κ hlau hret C
  refine e_lv [0, 1] (lv1 := [(0, .ref (oA ω 56)), (1, .int a1)]) rfl ?_
  unfold f_X7_goes
  refine e_aload_n C dX7_goes_0 rfl 0 rfl (q := 1) rfl ?_
  refine e_getf C (k := 56) (j := 1) (T := TX7) (N := 32) (v := .ref (oA ω 57)) dX7_goes_1 (ltL hn (Nat.le_of_ble_eq_true rfl)) rfl rfl (by decide) in_X7 w_763 rfl (q := 4) rfl ?_
  refine e_iload_n C dX7_goes_4 rfl 1 rfl (q := 5) rfl ?_
  refine e_iald C (k := 57) (n := 6) dX7_goes_5 (ltL hn (Nat.le_of_ble_eq_true rfl)) rfl (q := 6) rfl ?_
  refine e_iconst C dX7_goes_6 ic_5 (q := 7) rfl ?_
  refine e_icmpne C (tgt := 12) (q := 10) dX7_goes_7 rfl rfl ?_ ?_
  · refine e_aload_n C dX7_goes_12 rfl 0 rfl (q := 13) rfl ?_
    refine e_iconst C dX7_goes_13 ic_0 (q := 14) rfl ?_
    refine e_iload_n C dX7_goes_14 rfl 1 rfl (q := 15) rfl ?_
    refine e_callVi C (l := l) (k := 56) (av := [.int (0 : Int32), .int a1]) (st := []) hlau (x_X7_asksOf (l := l) (ω := ω) (a1 := (0 : Int32)) (a2 := a1) hn (I := I)) dX7_goes_15 w_894 w_896 w_33 w_67 w_897 md_X7_asksOf (by decide) (by decide) rfl (ltL hn (Nat.le_of_ble_eq_true rfl)) rfl rfl (Nat.le_of_ble_eq_true rfl) (q := 18) rfl (fun v2 J1 => ?_)
    refine e_ifeq C (tgt := 25) (q := 21) dX7_goes_18 rfl rfl ?_ ?_
    · refine e_iconst C dX7_goes_25 ic_0 (q := 26) rfl ?_
      exact xb_X7_goes_b26 C hlau hret hn (0 : Int32) _
    · refine e_iconst C dX7_goes_21 ic_1 (q := 22) rfl ?_
      refine e_goto C (tgt := 26) dX7_goes_22 rfl ?_
      exact xb_X7_goes_b26 C hlau hret hn (1 : Int32) _
  · refine e_iconst C dX7_goes_10 ic_0 (q := 11) rfl ?_
    exact e_ireturn C dX7_goes_11 hret rfl
set_option maxHeartbeats 4000000 in
set_option maxRecDepth 100000 in
theorem xb_X7_hitsOf_b24 {l : Launch} {κ : Kx} {ω : Om} {a1 : Int32} {a2 : Int32} (C : CX κ ω cX7_hitsOf 5 4 yX7_hitsOf.cls) (hlau : κ.2.1 = l) (hret : κ.2.2.2.2.2.2.2.2.1.sig.returnType = (some .int)) (hn : 75 ≤ oN ω)  : ∀ (x3 : Int32) (s0 : Int32) (I : Mem), EE κ ω 5 (Gi κ ω) (f_X7_hitsOf_b24 a1 a2 x3 s0 I) I 24 [(3, .int x3), (0, .ref (oA ω 56)), (1, .int a1), (2, .int a2)] [.int s0] := by
  intro x3 s0 I
  unfold f_X7_hitsOf_b24
  refine e_istore C (lv1 := [(4, .int s0), (3, .int x3), (0, .ref (oA ω 56)), (1, .int a1), (2, .int a2)]) dX7_hitsOf_24 (Nat.le_of_ble_eq_true rfl) rfl (q := 26) rfl ?_
  refine e_aload_n C dX7_hitsOf_26 rfl 2 rfl (q := 27) rfl ?_
  refine e_getf C (k := 56) (j := 1) (T := TX7) (N := 32) (v := .ref (oA ω 57)) dX7_hitsOf_27 (ltL hn (Nat.le_of_ble_eq_true rfl)) rfl rfl (by decide) in_X7 w_763 rfl (q := 30) rfl ?_
  refine e_iload_n C dX7_hitsOf_30 rfl 3 rfl (q := 31) rfl ?_
  refine e_iald C (k := 57) (n := 6) dX7_hitsOf_31 (ltL hn (Nat.le_of_ble_eq_true rfl)) rfl (q := 32) rfl ?_
  refine e_nmi (fun v3 => ?_)
  refine e_if (fun h4 => ?_) (fun h4 => ?_)
  · refine e_tabIn C (v := 1) (off := 32) (tgt := 64) dX7_hitsOf_32 (by rw [h4]; rfl) (by decide) rfl rfl ?_
    refine e_iload_n C dX7_hitsOf_64 rfl 1 rfl (q := 65) rfl ?_
    refine e_aload_n C dX7_hitsOf_65 rfl 2 rfl (q := 66) rfl ?_
    refine e_getf C (k := 56) (j := 2) (T := TX7) (N := 32) (v := .ref (oA ω 58)) dX7_hitsOf_66 (ltL hn (Nat.le_of_ble_eq_true rfl)) rfl rfl (by decide) in_X7 w_764 rfl (q := 69) rfl ?_
    refine e_iload_n C dX7_hitsOf_69 rfl 3 rfl (q := 70) rfl ?_
    refine e_iald C (k := 58) (n := 6) dX7_hitsOf_70 (ltL hn (Nat.le_of_ble_eq_true rfl)) rfl (q := 71) rfl ?_
    refine e_iadd C dX7_hitsOf_71 (q := 72) rfl ?_
    exact e_ireturn C dX7_hitsOf_72 hret rfl
  · refine e_if (fun h5 => ?_) (fun h5 => ?_)
    · refine e_tabIn C (v := 2) (off := 41) (tgt := 73) dX7_hitsOf_32 (by rw [h5]; rfl) (by decide) rfl rfl ?_
      refine e_iload C dX7_hitsOf_73 0 rfl (q := 75) rfl ?_
      exact e_ireturn C dX7_hitsOf_75 hret rfl
    · refine e_if (fun h6 => ?_) (fun h6 => ?_)
      · refine e_tabIn C (v := 3) (off := 44) (tgt := 76) dX7_hitsOf_32 (by rw [h6]; rfl) (by decide) rfl rfl ?_
        refine e_aload_n C dX7_hitsOf_76 rfl 2 rfl (q := 77) rfl ?_
        refine e_getf C (k := 56) (j := 5) (T := TX7) (N := 32) (v := .int (I 56 5)) dX7_hitsOf_77 (ltL hn (Nat.le_of_ble_eq_true rfl)) rfl rfl (by decide) in_X7 w_767 rfl (q := 80) rfl ?_
        refine e_iconst C dX7_hitsOf_80 ic_2 (q := 81) rfl ?_
        refine e_irem C dX7_hitsOf_81 (by decide) (q := 82) rfl ?_
        refine e_ifne C (tgt := 96) (q := 85) dX7_hitsOf_82 rfl rfl ?_ ?_
        · refine e_iconst C dX7_hitsOf_96 ic_1 (q := 97) rfl ?_
          exact e_ireturn C dX7_hitsOf_97 hret rfl
        · refine e_iload_n C dX7_hitsOf_85 rfl 1 rfl (q := 86) rfl ?_
          refine e_aload_n C dX7_hitsOf_86 rfl 2 rfl (q := 87) rfl ?_
          refine e_getf C (k := 56) (j := 2) (T := TX7) (N := 32) (v := .ref (oA ω 58)) dX7_hitsOf_87 (ltL hn (Nat.le_of_ble_eq_true rfl)) rfl rfl (by decide) in_X7 w_764 rfl (q := 90) rfl ?_
          refine e_iload_n C dX7_hitsOf_90 rfl 3 rfl (q := 91) rfl ?_
          refine e_iald C (k := 58) (n := 6) dX7_hitsOf_91 (ltL hn (Nat.le_of_ble_eq_true rfl)) rfl (q := 92) rfl ?_
          refine e_iadd C dX7_hitsOf_92 (q := 93) rfl ?_
          refine e_goto C (tgt := 97) dX7_hitsOf_93 rfl ?_
          exact e_ireturn C dX7_hitsOf_97 hret rfl
      · refine e_if (fun h7 => ?_) (fun h7 => ?_)
        · refine e_tabIn C (v := 4) (off := 66) (tgt := 98) dX7_hitsOf_32 (by rw [h7]; rfl) (by decide) rfl rfl ?_
          refine e_aload_n C dX7_hitsOf_98 rfl 2 rfl (q := 99) rfl ?_
          refine e_getf C (k := 56) (j := 1) (T := TX7) (N := 32) (v := .ref (oA ω 57)) dX7_hitsOf_99 (ltL hn (Nat.le_of_ble_eq_true rfl)) rfl rfl (by decide) in_X7 w_763 rfl (q := 102) rfl ?_
          refine e_iload_n C dX7_hitsOf_102 rfl 4 rfl (q := 103) rfl ?_
          refine e_iald C (k := 57) (n := 6) dX7_hitsOf_103 (ltL hn (Nat.le_of_ble_eq_true rfl)) rfl (q := 104) rfl ?_
          refine e_iconst C dX7_hitsOf_104 ic_5 (q := 105) rfl ?_
          refine e_icmpne C (tgt := 112) (q := 108) dX7_hitsOf_105 rfl rfl ?_ ?_
          · refine e_iload C dX7_hitsOf_112 0 rfl (q := 114) rfl ?_
            refine e_iconst C dX7_hitsOf_114 ic_1 (q := 115) rfl ?_
            refine e_iadd C dX7_hitsOf_115 (q := 116) rfl ?_
            exact e_ireturn C dX7_hitsOf_116 hret rfl
          · refine e_iconst C dX7_hitsOf_108 ic_0 (q := 109) rfl ?_
            refine e_goto C (tgt := 116) dX7_hitsOf_109 rfl ?_
            exact e_ireturn C dX7_hitsOf_116 hret rfl
        · refine e_tabOut C (tgt := 117) dX7_hitsOf_32 (by have g0 := i32_ne h4; have g1 := i32_ne h5; have g2 := i32_ne h6; have g3 := i32_ne h7; have f0 : ((1 : Int32)).toInt = 1 := rfl; have f1 : ((2 : Int32)).toInt = 2 := rfl; have f2 : ((3 : Int32)).toInt = 3 := rfl; have f3 : ((4 : Int32)).toInt = 4 := rfl; omega) rfl ?_
          refine e_iload_n C dX7_hitsOf_117 rfl 1 rfl (q := 118) rfl ?_
          exact e_ireturn C dX7_hitsOf_118 hret rfl
set_option maxHeartbeats 4000000 in
set_option maxRecDepth 100000 in
theorem x_X7_hitsOf {l : Launch} {ω : Om} {a1 : Int32} {a2 : Int32} (hn : 75 ≤ oN ω)  {I : Mem} : CTi l ω yX7_hitsOf cX7_hitsOf 5 (some .int) 4 [.ref (oA ω 56), .int a1, .int a2] (f_X7_hitsOf a1 a2 I) I := by
  refine ct_i (by decide) (Nat.le_of_ble_eq_true rfl) ?_
  intro κ hlau hret C
  refine e_lv [0, 1, 2] (lv1 := [(0, .ref (oA ω 56)), (1, .int a1), (2, .int a2)]) rfl ?_
  unfold f_X7_hitsOf
  refine e_aload_n C dX7_hitsOf_0 rfl 0 rfl (q := 1) rfl ?_
  refine e_iconst C dX7_hitsOf_1 ic_1 (q := 2) rfl ?_
  refine e_iload_n C dX7_hitsOf_2 rfl 1 rfl (q := 3) rfl ?_
  refine e_callVi C (l := l) (k := 56) (av := [.int (1 : Int32), .int a1]) (st := []) hlau (x_X7_asksOf (l := l) (ω := ω) (a1 := (1 : Int32)) (a2 := a1) hn (I := I)) dX7_hitsOf_3 w_894 w_896 w_33 w_67 w_897 md_X7_asksOf (by decide) (by decide) rfl (ltL hn (Nat.le_of_ble_eq_true rfl)) rfl rfl (Nat.le_of_ble_eq_true rfl) (q := 6) rfl (fun v2 J1 => ?_)
  refine e_istore_n C (lv1 := [(3, .int v2), (0, .ref (oA ω 56)), (1, .int a1), (2, .int a2)]) dX7_hitsOf_6 rfl (Nat.le_of_ble_eq_true rfl) rfl (q := 7) rfl ?_
  refine e_aload_n C dX7_hitsOf_7 rfl 1 rfl (q := 8) rfl ?_
  refine e_getf C (k := 56) (j := 1) (T := TX7) (N := 32) (v := .ref (oA ω 57)) dX7_hitsOf_8 (ltL hn (Nat.le_of_ble_eq_true rfl)) rfl rfl (by decide) in_X7 w_763 rfl (q := 11) rfl ?_
  refine e_iload_n C dX7_hitsOf_11 rfl 3 rfl (q := 12) rfl ?_
  refine e_iald C (k := 57) (n := 6) dX7_hitsOf_12 (ltL hn (Nat.le_of_ble_eq_true rfl)) rfl (q := 13) rfl ?_
  refine e_iconst C dX7_hitsOf_13 ic_1 (q := 14) rfl ?_
  refine e_icmpne C (tgt := 23) (q := 17) dX7_hitsOf_14 rfl rfl ?_ ?_
  · refine e_iload_n C dX7_hitsOf_23 rfl 0 rfl (q := 24) rfl ?_
    exact xb_X7_hitsOf_b24 C hlau hret hn v2 v2 _
  · refine e_iconst C dX7_hitsOf_17 ic_2 (q := 18) rfl ?_
    refine e_iload_n C dX7_hitsOf_18 rfl 0 rfl (q := 19) rfl ?_
    refine e_imul C dX7_hitsOf_19 (q := 20) rfl ?_
    refine e_goto C (tgt := 24) dX7_hitsOf_20 rfl ?_
    exact xb_X7_hitsOf_b24 C hlau hret hn v2 ((2 : Int32) * v2) _
set_option maxHeartbeats 4000000 in
set_option maxRecDepth 100000 in
theorem x_X7_softOf {l : Launch} {ω : Om} {a1 : Int32} (hn : 75 ≤ oN ω)  {I : Mem} : CTi l ω yX7_softOf cX7_softOf 3 (some .int) 4 [.ref (oA ω 56), .int a1] (f_X7_softOf a1 I) I := by
  refine ct_i (by decide) (Nat.le_of_ble_eq_true rfl) ?_
  intro κ hlau hret C
  refine e_lv [0, 1] (lv1 := [(0, .ref (oA ω 56)), (1, .int a1)]) rfl ?_
  unfold f_X7_softOf
  refine e_aload_n C dX7_softOf_0 rfl 0 rfl (q := 1) rfl ?_
  refine e_iconst C dX7_softOf_1 ic_2 (q := 2) rfl ?_
  refine e_iload_n C dX7_softOf_2 rfl 1 rfl (q := 3) rfl ?_
  refine e_callVi C (l := l) (k := 56) (av := [.int (2 : Int32), .int a1]) (st := []) hlau (x_X7_asksOf (l := l) (ω := ω) (a1 := (2 : Int32)) (a2 := a1) hn (I := I)) dX7_softOf_3 w_894 w_896 w_33 w_67 w_897 md_X7_asksOf (by decide) (by decide) rfl (ltL hn (Nat.le_of_ble_eq_true rfl)) rfl rfl (Nat.le_of_ble_eq_true rfl) (q := 6) rfl (fun v2 J1 => ?_)
  refine e_istore_n C (lv1 := [(2, .int v2), (0, .ref (oA ω 56)), (1, .int a1)]) dX7_softOf_6 rfl (Nat.le_of_ble_eq_true rfl) rfl (q := 7) rfl ?_
  refine e_aload_n C dX7_softOf_7 rfl 1 rfl (q := 8) rfl ?_
  refine e_getf C (k := 56) (j := 1) (T := TX7) (N := 32) (v := .ref (oA ω 57)) dX7_softOf_8 (ltL hn (Nat.le_of_ble_eq_true rfl)) rfl rfl (by decide) in_X7 w_763 rfl (q := 11) rfl ?_
  refine e_iload_n C dX7_softOf_11 rfl 2 rfl (q := 12) rfl ?_
  refine e_iald C (k := 57) (n := 6) dX7_softOf_12 (ltL hn (Nat.le_of_ble_eq_true rfl)) rfl (q := 13) rfl ?_
  refine e_nmi (fun v3 => ?_)
  refine e_if (fun h4 => ?_) (fun h4 => ?_)
  · refine e_tabIn C (v := 1) (off := 35) (tgt := 48) dX7_softOf_13 (by rw [h4]; rfl) (by decide) rfl rfl ?_
    refine e_iload_n C dX7_softOf_48 rfl 0 rfl (q := 49) rfl ?_
    refine e_aload_n C dX7_softOf_49 rfl 1 rfl (q := 50) rfl ?_
    refine e_getf C (k := 56) (j := 2) (T := TX7) (N := 32) (v := .ref (oA ω 58)) dX7_softOf_50 (ltL hn (Nat.le_of_ble_eq_true rfl)) rfl rfl (by decide) in_X7 w_764 rfl (q := 53) rfl ?_
    refine e_iload_n C dX7_softOf_53 rfl 2 rfl (q := 54) rfl ?_
    refine e_iald C (k := 58) (n := 6) dX7_softOf_54 (ltL hn (Nat.le_of_ble_eq_true rfl)) rfl (q := 55) rfl ?_
    refine e_isub C dX7_softOf_55 (q := 56) rfl ?_
    exact e_ireturn C dX7_softOf_56 hret rfl
  · refine e_if (fun h5 => ?_) (fun h5 => ?_)
    · refine e_tabIn C (v := 2) (off := 64) (tgt := 77) dX7_softOf_13 (by rw [h5]; rfl) (by decide) rfl rfl ?_
      refine e_iload_n C dX7_softOf_77 rfl 0 rfl (q := 78) rfl ?_
      exact e_ireturn C dX7_softOf_78 hret rfl
    · refine e_if (fun h6 => ?_) (fun h6 => ?_)
      · refine e_tabIn C (v := 3) (off := 35) (tgt := 48) dX7_softOf_13 (by rw [h6]; rfl) (by decide) rfl rfl ?_
        refine e_iload_n C dX7_softOf_48 rfl 0 rfl (q := 49) rfl ?_
        refine e_aload_n C dX7_softOf_49 rfl 1 rfl (q := 50) rfl ?_
        refine e_getf C (k := 56) (j := 2) (T := TX7) (N := 32) (v := .ref (oA ω 58)) dX7_softOf_50 (ltL hn (Nat.le_of_ble_eq_true rfl)) rfl rfl (by decide) in_X7 w_764 rfl (q := 53) rfl ?_
        refine e_iload_n C dX7_softOf_53 rfl 2 rfl (q := 54) rfl ?_
        refine e_iald C (k := 58) (n := 6) dX7_softOf_54 (ltL hn (Nat.le_of_ble_eq_true rfl)) rfl (q := 55) rfl ?_
        refine e_isub C dX7_softOf_55 (q := 56) rfl ?_
        exact e_ireturn C dX7_softOf_56 hret rfl
      · refine e_if (fun h7 => ?_) (fun h7 => ?_)
        · refine e_tabIn C (v := 4) (off := 44) (tgt := 57) dX7_softOf_13 (by rw [h7]; rfl) (by decide) rfl rfl ?_
          refine e_iload_n C dX7_softOf_57 rfl 0 rfl (q := 58) rfl ?_
          refine e_aload_n C dX7_softOf_58 rfl 1 rfl (q := 59) rfl ?_
          refine e_getf C (k := 56) (j := 2) (T := TX7) (N := 32) (v := .ref (oA ω 58)) dX7_softOf_59 (ltL hn (Nat.le_of_ble_eq_true rfl)) rfl rfl (by decide) in_X7 w_764 rfl (q := 62) rfl ?_
          refine e_iload_n C dX7_softOf_62 rfl 2 rfl (q := 63) rfl ?_
          refine e_iald C (k := 58) (n := 6) dX7_softOf_63 (ltL hn (Nat.le_of_ble_eq_true rfl)) rfl (q := 64) rfl ?_
          refine e_iadd C dX7_softOf_64 (q := 65) rfl ?_
          exact e_ireturn C dX7_softOf_65 hret rfl
        · refine e_if (fun h8 => ?_) (fun h8 => ?_)
          · refine e_tabIn C (v := 5) (off := 53) (tgt := 66) dX7_softOf_13 (by rw [h8]; rfl) (by decide) rfl rfl ?_
            refine e_iconst C dX7_softOf_66 ic_3 (q := 67) rfl ?_
            refine e_iload_n C dX7_softOf_67 rfl 0 rfl (q := 68) rfl ?_
            refine e_imul C dX7_softOf_68 (q := 69) rfl ?_
            refine e_aload_n C dX7_softOf_69 rfl 1 rfl (q := 70) rfl ?_
            refine e_getf C (k := 56) (j := 2) (T := TX7) (N := 32) (v := .ref (oA ω 58)) dX7_softOf_70 (ltL hn (Nat.le_of_ble_eq_true rfl)) rfl rfl (by decide) in_X7 w_764 rfl (q := 73) rfl ?_
            refine e_iload_n C dX7_softOf_73 rfl 2 rfl (q := 74) rfl ?_
            refine e_iald C (k := 58) (n := 6) dX7_softOf_74 (ltL hn (Nat.le_of_ble_eq_true rfl)) rfl (q := 75) rfl ?_
            refine e_iadd C dX7_softOf_75 (q := 76) rfl ?_
            exact e_ireturn C dX7_softOf_76 hret rfl
          · refine e_tabOut C (tgt := 77) dX7_softOf_13 (by have g0 := i32_ne h4; have g1 := i32_ne h5; have g2 := i32_ne h6; have g3 := i32_ne h7; have g4 := i32_ne h8; have f0 : ((1 : Int32)).toInt = 1 := rfl; have f1 : ((2 : Int32)).toInt = 2 := rfl; have f2 : ((3 : Int32)).toInt = 3 := rfl; have f3 : ((4 : Int32)).toInt = 4 := rfl; have f4 : ((5 : Int32)).toInt = 5 := rfl; omega) rfl ?_
            refine e_iload_n C dX7_softOf_77 rfl 0 rfl (q := 78) rfl ?_
            exact e_ireturn C dX7_softOf_78 hret rfl
set_option maxHeartbeats 4000000 in
set_option maxRecDepth 100000 in
theorem x_X7_blowOf {l : Launch} {ω : Om} {a1 : Int32} {a2 : Int32} (hn : 75 ≤ oN ω)  {I : Mem} : CTi l ω yX7_blowOf cX7_blowOf 3 (some .int) 5 [.ref (oA ω 56), .int a1, .int a2] (f_X7_blowOf a1 a2 I) I := by
  refine ct_i (by decide) (Nat.le_of_ble_eq_true rfl) ?_
  intro κ hlau hret C
  refine e_lv [0, 1, 2] (lv1 := [(0, .ref (oA ω 56)), (1, .int a1), (2, .int a2)]) rfl ?_
  unfold f_X7_blowOf
  refine e_aload_n C dX7_blowOf_0 rfl 0 rfl (q := 1) rfl ?_
  refine e_iload_n C dX7_blowOf_1 rfl 1 rfl (q := 2) rfl ?_
  refine e_iload_n C dX7_blowOf_2 rfl 2 rfl (q := 3) rfl ?_
  refine e_callVi C (l := l) (k := 56) (av := [.int a1, .int a2]) (st := []) hlau (x_X7_hitsOf (l := l) (ω := ω) (a1 := a1) (a2 := a2) hn (I := I)) dX7_blowOf_3 w_944 w_946 w_40 w_67 w_947 md_X7_hitsOf (by decide) (by decide) rfl (ltL hn (Nat.le_of_ble_eq_true rfl)) rfl rfl (Nat.le_of_ble_eq_true rfl) (q := 6) rfl (fun v2 J1 => ?_)
  refine e_aload_n C dX7_blowOf_6 rfl 0 rfl (q := 7) rfl ?_
  refine e_iload_n C dX7_blowOf_7 rfl 2 rfl (q := 8) rfl ?_
  refine e_callVi C (l := l) (k := 56) (av := [.int a2]) (st := [.int v2]) hlau (x_X7_softOf (l := l) (ω := ω) (a1 := a2) hn (I := J1)) dX7_blowOf_8 w_932 w_934 w_38 w_67 w_935 md_X7_softOf (by decide) (by decide) rfl (ltL hn (Nat.le_of_ble_eq_true rfl)) rfl rfl (Nat.le_of_ble_eq_true rfl) (q := 11) rfl (fun v4 J3 => ?_)
  refine e_isub C dX7_blowOf_11 (q := 12) rfl ?_
  refine e_iconst C dX7_blowOf_12 ic_0 (q := 13) rfl ?_
  refine e_bipush C dX7_blowOf_13 b8_99 (q := 15) rfl ?_
  refine e_callSi C (l := l) (av := [.int (v2 - v4), .int (0 : Int32), .int (99 : Int32)]) (st := []) hlau (x_X7_within (l := l) (ω := ω) (a0 := v2 - v4) (a1 := (0 : Int32)) (a2 := (99 : Int32)) hn (I := J3)) dX7_blowOf_15 w_905 w_906 w_67 w_907 md_X7_within (by decide) (by decide) rfl (Nat.le_of_ble_eq_true rfl) (q := 18) rfl (fun v6 J5 => ?_)
  exact e_ireturn C dX7_blowOf_18 hret rfl
set_option maxHeartbeats 4000000 in
set_option maxRecDepth 100000 in
theorem xb_X7_farOf_b72 {l : Launch} {κ : Kx} {ω : Om} {a1 : Int32} {a2 : Int32} (C : CX κ ω cX7_farOf 5 1 yX7_farOf.cls) (hlau : κ.2.1 = l) (hret : κ.2.2.2.2.2.2.2.2.1.sig.returnType = (some .int)) (hn : 75 ≤ oN ω)  : ∀ (s0 : Int32) (s1 : Int32) (I : Mem), EE κ ω 5 (Gi κ ω) (f_X7_farOf_b72 a1 a2 s0 s1 I) I 72 [] [.int s0, .int s1] := by
  intro s0 s1 I
  unfold f_X7_farOf_b72
  refine e_iadd C dX7_farOf_72 (q := 73) rfl ?_
  exact e_ireturn C dX7_farOf_73 hret rfl
set_option maxHeartbeats 4000000 in
set_option maxRecDepth 100000 in
theorem xb_X7_farOf_b59 {l : Launch} {κ : Kx} {ω : Om} {a1 : Int32} {a2 : Int32} (C : CX κ ω cX7_farOf 5 1 yX7_farOf.cls) (hlau : κ.2.1 = l) (hret : κ.2.2.2.2.2.2.2.2.1.sig.returnType = (some .int)) (hn : 75 ≤ oN ω)  : ∀ (x4 : Int32) (s0 : Int32) (I : Mem), EE κ ω 5 (Gi κ ω) (f_X7_farOf_b59 a1 a2 x4 s0 I) I 59 [(4, .int x4)] [.int s0] := by
  intro x4 s0 I
  unfold f_X7_farOf_b59
  refine e_iload C dX7_farOf_59 0 rfl (q := 61) rfl ?_
  refine e_ifge C (tgt := 70) (q := 64) dX7_farOf_61 rfl rfl ?_ ?_
  · refine e_iload C dX7_farOf_70 0 rfl (q := 72) rfl ?_
    exact e_lv [] (lv1 := []) rfl (xb_X7_farOf_b72 C hlau hret hn x4 s0 _)
  · refine e_iload C dX7_farOf_64 0 rfl (q := 66) rfl ?_
    refine e_ineg C dX7_farOf_66 (q := 67) rfl ?_
    refine e_goto C (tgt := 72) dX7_farOf_67 rfl ?_
    exact e_lv [] (lv1 := []) rfl (xb_X7_farOf_b72 C hlau hret hn (-x4) s0 _)
set_option maxHeartbeats 4000000 in
set_option maxRecDepth 100000 in
theorem x_X7_farOf {l : Launch} {ω : Om} {a1 : Int32} {a2 : Int32} (hn : 75 ≤ oN ω)  {I : Mem} : CTi l ω yX7_farOf cX7_farOf 5 (some .int) 1 [.ref (oA ω 56), .int a1, .int a2] (f_X7_farOf a1 a2 I) I := by
  refine ct_i (by decide) (Nat.le_of_ble_eq_true rfl) ?_
  intro κ hlau hret C
  refine e_lv [0, 1, 2] (lv1 := [(0, .ref (oA ω 56)), (1, .int a1), (2, .int a2)]) rfl ?_
  unfold f_X7_farOf
  refine e_aload_n C dX7_farOf_0 rfl 0 rfl (q := 1) rfl ?_
  refine e_getf C (k := 56) (j := 3) (T := TX7) (N := 32) (v := .ref (oA ω 59)) dX7_farOf_1 (ltL hn (Nat.le_of_ble_eq_true rfl)) rfl rfl (by decide) in_X7 w_765 rfl (q := 4) rfl ?_
  refine e_iconst C dX7_farOf_4 ic_4 (q := 5) rfl ?_
  refine e_iload_n C dX7_farOf_5 rfl 1 rfl (q := 6) rfl ?_
  refine e_imul C dX7_farOf_6 (q := 7) rfl ?_
  refine e_iald C (k := 59) (n := 24) dX7_farOf_7 (ltL hn (Nat.le_of_ble_eq_true rfl)) rfl (q := 8) rfl ?_
  refine e_bipush C dX7_farOf_8 b8_8 (q := 10) rfl ?_
  refine e_irem C dX7_farOf_10 (by decide) (q := 11) rfl ?_
  refine e_aload_n C dX7_farOf_11 rfl 0 rfl (q := 12) rfl ?_
  refine e_getf C (k := 56) (j := 3) (T := TX7) (N := 32) (v := .ref (oA ω 59)) dX7_farOf_12 (ltL hn (Nat.le_of_ble_eq_true rfl)) rfl rfl (by decide) in_X7 w_765 rfl (q := 15) rfl ?_
  refine e_iconst C dX7_farOf_15 ic_4 (q := 16) rfl ?_
  refine e_iload_n C dX7_farOf_16 rfl 2 rfl (q := 17) rfl ?_
  refine e_imul C dX7_farOf_17 (q := 18) rfl ?_
  refine e_iald C (k := 59) (n := 24) dX7_farOf_18 (ltL hn (Nat.le_of_ble_eq_true rfl)) rfl (q := 19) rfl ?_
  refine e_bipush C dX7_farOf_19 b8_8 (q := 21) rfl ?_
  refine e_irem C dX7_farOf_21 (by decide) (q := 22) rfl ?_
  refine e_isub C dX7_farOf_22 (q := 23) rfl ?_
  refine e_nmi (fun v1 => ?_)
  refine e_istore_n C (lv1 := [(3, .int v1), (0, .ref (oA ω 56)), (1, .int a1), (2, .int a2)]) dX7_farOf_23 rfl (Nat.le_of_ble_eq_true rfl) rfl (q := 24) rfl ?_
  refine e_aload_n C dX7_farOf_24 rfl 1 rfl (q := 25) rfl ?_
  refine e_getf C (k := 56) (j := 3) (T := TX7) (N := 32) (v := .ref (oA ω 59)) dX7_farOf_25 (ltL hn (Nat.le_of_ble_eq_true rfl)) rfl rfl (by decide) in_X7 w_765 rfl (q := 28) rfl ?_
  refine e_iconst C dX7_farOf_28 ic_4 (q := 29) rfl ?_
  refine e_iload_n C dX7_farOf_29 rfl 2 rfl (q := 30) rfl ?_
  refine e_imul C dX7_farOf_30 (q := 31) rfl ?_
  refine e_iald C (k := 59) (n := 24) dX7_farOf_31 (ltL hn (Nat.le_of_ble_eq_true rfl)) rfl (q := 32) rfl ?_
  refine e_bipush C dX7_farOf_32 b8_8 (q := 34) rfl ?_
  refine e_idiv C dX7_farOf_34 (by decide) (q := 35) rfl ?_
  refine e_aload_n C dX7_farOf_35 rfl 1 rfl (q := 36) rfl ?_
  refine e_getf C (k := 56) (j := 3) (T := TX7) (N := 32) (v := .ref (oA ω 59)) dX7_farOf_36 (ltL hn (Nat.le_of_ble_eq_true rfl)) rfl rfl (by decide) in_X7 w_765 rfl (q := 39) rfl ?_
  refine e_iconst C dX7_farOf_39 ic_4 (q := 40) rfl ?_
  refine e_iload_n C dX7_farOf_40 rfl 3 rfl (q := 41) rfl ?_
  refine e_imul C dX7_farOf_41 (q := 42) rfl ?_
  refine e_iald C (k := 59) (n := 24) dX7_farOf_42 (ltL hn (Nat.le_of_ble_eq_true rfl)) rfl (q := 43) rfl ?_
  refine e_bipush C dX7_farOf_43 b8_8 (q := 45) rfl ?_
  refine e_idiv C dX7_farOf_45 (by decide) (q := 46) rfl ?_
  refine e_isub C dX7_farOf_46 (q := 47) rfl ?_
  refine e_nmi (fun v2 => ?_)
  refine e_istore C (lv1 := [(4, .int v2), (3, .int v1), (0, .ref (oA ω 56)), (1, .int a1), (2, .int a2)]) dX7_farOf_47 (Nat.le_of_ble_eq_true rfl) rfl (q := 49) rfl ?_
  refine e_iload_n C dX7_farOf_49 rfl 1 rfl (q := 50) rfl ?_
  refine e_ifge C (tgt := 58) (q := 53) dX7_farOf_50 rfl rfl ?_ ?_
  · refine e_iload_n C dX7_farOf_58 rfl 1 rfl (q := 59) rfl ?_
    exact e_lv [0] (lv1 := [(4, .int v2)]) rfl (xb_X7_farOf_b59 C hlau hret hn v2 v1 _)
  · refine e_iload_n C dX7_farOf_53 rfl 1 rfl (q := 54) rfl ?_
    refine e_ineg C dX7_farOf_54 (q := 55) rfl ?_
    refine e_goto C (tgt := 59) dX7_farOf_55 rfl ?_
    exact e_lv [0] (lv1 := [(4, .int v2)]) rfl (xb_X7_farOf_b59 C hlau hret hn v2 (-v1) _)
set_option maxHeartbeats 4000000 in
set_option maxRecDepth 100000 in
theorem xb_X7_nearestOf_b81 {l : Launch} {κ : Kx} {ω : Om} {a1 : Int32} (C : CX κ ω cX7_nearestOf 7 2 yX7_nearestOf.cls) (hlau : κ.2.1 = l) (hret : κ.2.2.2.2.2.2.2.2.1.sig.returnType = (some .int)) (hn : 75 ≤ oN ω)  {K7 : Int32 → Int32 → Int32 → Mem → Option (Int32 × Mem)} (hK7 : ∀ (x4 : Int32) (x3 : Int32) (x2 : Int32) (J : Mem), EE κ ω 7 (Gi κ ω) (K7 x4 x3 x2 J) J 7 [(4, .int x4), (3, .int x3), (2, .int x2), (0, .ref (oA ω 56)), (1, .int a1)] []) : ∀ (x2 : Int32) (x4 : Int32) (s0 : Int32) (I : Mem), EE κ ω 7 (Gi κ ω) (f_X7_nearestOf_b81 a1 K7 x2 x4 s0 I) I 81 [(2, .int x2), (4, .int x4), (0, .ref (oA ω 56)), (1, .int a1)] [.int s0] := by
  intro x2 x4 s0 I
  unfold f_X7_nearestOf_b81
  refine e_istore_n C (lv1 := [(3, .int s0), (2, .int x2), (4, .int x4), (0, .ref (oA ω 56)), (1, .int a1)]) dX7_nearestOf_81 rfl (Nat.le_of_ble_eq_true rfl) rfl (q := 82) rfl ?_
  refine e_iinc C (v := x4 + (1 : Int32)) (lv1 := [(4, .int (x4 + (1 : Int32))), (3, .int s0), (2, .int x2), (0, .ref (oA ω 56)), (1, .int a1)]) dX7_nearestOf_82 2 rfl (Nat.le_of_ble_eq_true rfl) (by rw [ic_1]) rfl (q := 85) rfl ?_
  refine e_goto C (tgt := 7) dX7_nearestOf_85 rfl ?_
  exact hK7 (x4 + (1 : Int32)) s0 x2 _
set_option maxHeartbeats 4000000 in
set_option maxRecDepth 100000 in
theorem xb_X7_nearestOf_b69 {l : Launch} {κ : Kx} {ω : Om} {a1 : Int32} (C : CX κ ω cX7_nearestOf 7 2 yX7_nearestOf.cls) (hlau : κ.2.1 = l) (hret : κ.2.2.2.2.2.2.2.2.1.sig.returnType = (some .int)) (hn : 75 ≤ oN ω)  {K7 : Int32 → Int32 → Int32 → Mem → Option (Int32 × Mem)} (hK7 : ∀ (x4 : Int32) (x3 : Int32) (x2 : Int32) (J : Mem), EE κ ω 7 (Gi κ ω) (K7 x4 x3 x2 J) J 7 [(4, .int x4), (3, .int x3), (2, .int x2), (0, .ref (oA ω 56)), (1, .int a1)] []) : ∀ (x6 : Int32) (x5 : Int32) (x4 : Int32) (x3 : Int32) (s0 : Int32) (I : Mem), EE κ ω 7 (Gi κ ω) (f_X7_nearestOf_b69 a1 K7 x6 x5 x4 x3 s0 I) I 69 [(6, .int x6), (5, .int x5), (4, .int x4), (3, .int x3), (0, .ref (oA ω 56)), (1, .int a1)] [.int s0] := by
  intro x6 x5 x4 x3 s0 I
  unfold f_X7_nearestOf_b69
  refine e_istore_n C (lv1 := [(2, .int s0), (6, .int x6), (5, .int x5), (4, .int x4), (3, .int x3), (0, .ref (oA ω 56)), (1, .int a1)]) dX7_nearestOf_69 rfl (Nat.le_of_ble_eq_true rfl) rfl (q := 70) rfl ?_
  refine e_iload C dX7_nearestOf_70 1 rfl (q := 72) rfl ?_
  refine e_ifeq C (tgt := 80) (q := 75) dX7_nearestOf_72 rfl rfl ?_ ?_
  · refine e_iload_n C dX7_nearestOf_80 rfl 4 rfl (q := 81) rfl ?_
    exact e_lv [0, 3, 5, 6] (lv1 := [(2, .int s0), (4, .int x4), (0, .ref (oA ω 56)), (1, .int a1)]) rfl (xb_X7_nearestOf_b81 C hlau hret hn hK7 s0 x4 x3 _)
  · refine e_iload C dX7_nearestOf_75 2 rfl (q := 77) rfl ?_
    refine e_goto C (tgt := 81) dX7_nearestOf_77 rfl ?_
    exact e_lv [0, 3, 5, 6] (lv1 := [(2, .int s0), (4, .int x4), (0, .ref (oA ω 56)), (1, .int a1)]) rfl (xb_X7_nearestOf_b81 C hlau hret hn hK7 s0 x4 x5 _)
set_option maxHeartbeats 4000000 in
set_option maxRecDepth 100000 in
theorem xb_X7_nearestOf_b56 {l : Launch} {κ : Kx} {ω : Om} {a1 : Int32} (C : CX κ ω cX7_nearestOf 7 2 yX7_nearestOf.cls) (hlau : κ.2.1 = l) (hret : κ.2.2.2.2.2.2.2.2.1.sig.returnType = (some .int)) (hn : 75 ≤ oN ω)  {K7 : Int32 → Int32 → Int32 → Mem → Option (Int32 × Mem)} (hK7 : ∀ (x4 : Int32) (x3 : Int32) (x2 : Int32) (J : Mem), EE κ ω 7 (Gi κ ω) (K7 x4 x3 x2 J) J 7 [(4, .int x4), (3, .int x3), (2, .int x2), (0, .ref (oA ω 56)), (1, .int a1)] []) : ∀ (x5 : Int32) (x4 : Int32) (x3 : Int32) (x2 : Int32) (s0 : Int32) (I : Mem), EE κ ω 7 (Gi κ ω) (f_X7_nearestOf_b56 a1 K7 x5 x4 x3 x2 s0 I) I 56 [(5, .int x5), (4, .int x4), (3, .int x3), (2, .int x2), (0, .ref (oA ω 56)), (1, .int a1)] [.int s0] := by
  intro x5 x4 x3 x2 s0 I
  unfold f_X7_nearestOf_b56
  refine e_istore C (lv1 := [(6, .int s0), (5, .int x5), (4, .int x4), (3, .int x3), (2, .int x2), (0, .ref (oA ω 56)), (1, .int a1)]) dX7_nearestOf_56 (Nat.le_of_ble_eq_true rfl) rfl (q := 58) rfl ?_
  refine e_iload C dX7_nearestOf_58 0 rfl (q := 60) rfl ?_
  refine e_ifeq C (tgt := 68) (q := 63) dX7_nearestOf_60 rfl rfl ?_ ?_
  · refine e_iload_n C dX7_nearestOf_68 rfl 4 rfl (q := 69) rfl ?_
    exact e_lv [0, 1, 2, 3, 5, 6] (lv1 := [(6, .int s0), (5, .int x5), (4, .int x4), (3, .int x3), (0, .ref (oA ω 56)), (1, .int a1)]) rfl (xb_X7_nearestOf_b69 C hlau hret hn hK7 s0 x5 x4 x3 x2 _)
  · refine e_iload C dX7_nearestOf_63 2 rfl (q := 65) rfl ?_
    refine e_goto C (tgt := 69) dX7_nearestOf_65 rfl ?_
    exact e_lv [0, 1, 2, 3, 5, 6] (lv1 := [(6, .int s0), (5, .int x5), (4, .int x4), (3, .int x3), (0, .ref (oA ω 56)), (1, .int a1)]) rfl (xb_X7_nearestOf_b69 C hlau hret hn hK7 s0 x5 x4 x3 x4 _)
set_option maxHeartbeats 4000000 in
set_option maxRecDepth 100000 in
theorem xb_X7_nearestOf_b51 {l : Launch} {κ : Kx} {ω : Om} {a1 : Int32} (C : CX κ ω cX7_nearestOf 7 2 yX7_nearestOf.cls) (hlau : κ.2.1 = l) (hret : κ.2.2.2.2.2.2.2.2.1.sig.returnType = (some .int)) (hn : 75 ≤ oN ω)  {K7 : Int32 → Int32 → Int32 → Mem → Option (Int32 × Mem)} (hK7 : ∀ (x4 : Int32) (x3 : Int32) (x2 : Int32) (J : Mem), EE κ ω 7 (Gi κ ω) (K7 x4 x3 x2 J) J 7 [(4, .int x4), (3, .int x3), (2, .int x2), (0, .ref (oA ω 56)), (1, .int a1)] []) : ∀ (x5 : Int32) (x4 : Int32) (x3 : Int32) (x2 : Int32) (I : Mem), EE κ ω 7 (Gi κ ω) (f_X7_nearestOf_b51 a1 K7 x5 x4 x3 x2 I) I 51 [(5, .int x5), (4, .int x4), (3, .int x3), (2, .int x2), (0, .ref (oA ω 56)), (1, .int a1)] [] := by
  intro x5 x4 x3 x2 I
  unfold f_X7_nearestOf_b51
  refine e_iconst C dX7_nearestOf_51 ic_1 (q := 52) rfl ?_
  refine e_goto C (tgt := 56) dX7_nearestOf_52 rfl ?_
  exact xb_X7_nearestOf_b56 C hlau hret hn hK7 x5 x4 x3 x2 (1 : Int32) _
set_option maxHeartbeats 4000000 in
set_option maxRecDepth 100000 in
theorem xb_X7_nearestOf_b7 {l : Launch} {κ : Kx} {ω : Om} {a1 : Int32} (C : CX κ ω cX7_nearestOf 7 2 yX7_nearestOf.cls) (hlau : κ.2.1 = l) (hret : κ.2.2.2.2.2.2.2.2.1.sig.returnType = (some .int)) (hn : 75 ≤ oN ω)  : ∀ (n : Nat) (x4 : Int32) (x3 : Int32) (x2 : Int32) (I : Mem), EE κ ω 7 (Gi κ ω) (f_X7_nearestOf_b7 a1 n x4 x3 x2 I) I 7 [(4, .int x4), (3, .int x3), (2, .int x2), (0, .ref (oA ω 56)), (1, .int a1)] [] := by
  intro n
  induction n with
  | zero => intro x4 x3 x2 I; exact e_none
  | succ n ih =>
    intro x4 x3 x2 I
    rw [f_X7_nearestOf_b7]
    refine e_iload C dX7_nearestOf_7 0 rfl (q := 9) rfl ?_
    refine e_aload_n C dX7_nearestOf_9 rfl 3 rfl (q := 10) rfl ?_
    refine e_getf C (k := 56) (j := 0) (T := TX7) (N := 32) (v := .int (I 56 0)) dX7_nearestOf_10 (ltL hn (Nat.le_of_ble_eq_true rfl)) rfl rfl (by decide) in_X7 w_762 rfl (q := 13) rfl ?_
    refine e_icmpge C (tgt := 88) (q := 16) dX7_nearestOf_13 rfl rfl ?_ ?_
    · refine e_iload_n C dX7_nearestOf_88 rfl 2 rfl (q := 89) rfl ?_
      exact e_ireturn C dX7_nearestOf_89 hret rfl
    · refine e_iload C dX7_nearestOf_16 0 rfl (q := 18) rfl ?_
      refine e_iload_n C dX7_nearestOf_18 rfl 4 rfl (q := 19) rfl ?_
      refine e_icmpeq C (tgt := 82) (q := 22) dX7_nearestOf_19 rfl rfl ?_ ?_
      · refine e_iinc C (v := x4 + (1 : Int32)) (lv1 := [(4, .int (x4 + (1 : Int32))), (3, .int x3), (2, .int x2), (0, .ref (oA ω 56)), (1, .int a1)]) dX7_nearestOf_82 0 rfl (Nat.le_of_ble_eq_true rfl) (by rw [ic_1]) rfl (q := 85) rfl ?_
        refine e_goto C (tgt := 7) dX7_nearestOf_85 rfl ?_
        exact ih (x4 + (1 : Int32)) x3 x2 _
      · refine e_aload_n C dX7_nearestOf_22 rfl 3 rfl (q := 23) rfl ?_
        refine e_iload C dX7_nearestOf_23 0 rfl (q := 25) rfl ?_
        refine e_callVi C (l := l) (k := 56) (av := [.int x4]) (st := []) hlau (x_X7_isUp (l := l) (ω := ω) (a1 := x4) hn (I := I)) dX7_nearestOf_25 w_867 w_869 w_31 w_67 w_870 md_X7_isUp (by decide) (by decide) rfl (ltL hn (Nat.le_of_ble_eq_true rfl)) rfl rfl (Nat.le_of_ble_eq_true rfl) (q := 28) rfl (fun v2 J1 => ?_)
        refine e_ifeq C (tgt := 82) (q := 31) dX7_nearestOf_28 rfl rfl ?_ ?_
        · refine e_iinc C (v := x4 + (1 : Int32)) (lv1 := [(4, .int (x4 + (1 : Int32))), (3, .int x3), (2, .int x2), (0, .ref (oA ω 56)), (1, .int a1)]) dX7_nearestOf_82 0 rfl (Nat.le_of_ble_eq_true rfl) (by rw [ic_1]) rfl (q := 85) rfl ?_
          refine e_goto C (tgt := 7) dX7_nearestOf_85 rfl ?_
          exact ih (x4 + (1 : Int32)) x3 x2 _
        · refine e_aload_n C dX7_nearestOf_31 rfl 3 rfl (q := 32) rfl ?_
          refine e_iload_n C dX7_nearestOf_32 rfl 4 rfl (q := 33) rfl ?_
          refine e_iload C dX7_nearestOf_33 0 rfl (q := 35) rfl ?_
          refine e_callVi C (l := l) (k := 56) (av := [.int a1, .int x4]) (st := []) hlau (x_X7_farOf (l := l) (ω := ω) (a1 := a1) (a2 := x4) hn (I := J1)) dX7_nearestOf_35 w_928 w_930 w_37 w_67 w_931 md_X7_farOf (by decide) (by decide) rfl (ltL hn (Nat.le_of_ble_eq_true rfl)) rfl rfl (Nat.le_of_ble_eq_true rfl) (q := 38) rfl (fun v4 J3 => ?_)
          refine e_istore C (lv1 := [(5, .int v4), (4, .int x4), (3, .int x3), (2, .int x2), (0, .ref (oA ω 56)), (1, .int a1)]) dX7_nearestOf_38 (Nat.le_of_ble_eq_true rfl) rfl (q := 40) rfl ?_
          refine e_iload_n C dX7_nearestOf_40 rfl 3 rfl (q := 41) rfl ?_
          refine e_iconst C dX7_nearestOf_41 ic_m1 (q := 42) rfl ?_
          refine e_icmpeq C (tgt := 51) (q := 45) dX7_nearestOf_42 rfl rfl ?_ ?_
          · exact xb_X7_nearestOf_b51 C hlau hret hn ih v4 x4 x3 x2 _
          · refine e_iload C dX7_nearestOf_45 0 rfl (q := 47) rfl ?_
            refine e_iload_n C dX7_nearestOf_47 rfl 2 rfl (q := 48) rfl ?_
            refine e_icmpge C (tgt := 55) (q := 51) dX7_nearestOf_48 rfl rfl ?_ ?_
            · refine e_iconst C dX7_nearestOf_55 ic_0 (q := 56) rfl ?_
              exact xb_X7_nearestOf_b56 C hlau hret hn ih v4 x4 x3 x2 (0 : Int32) _
            · exact xb_X7_nearestOf_b51 C hlau hret hn ih v4 x4 x3 x2 _
set_option maxHeartbeats 4000000 in
set_option maxRecDepth 100000 in
theorem x_X7_nearestOf {l : Launch} {ω : Om} {a1 : Int32} (hn : 75 ≤ oN ω)  {I : Mem} : CTi l ω yX7_nearestOf cX7_nearestOf 7 (some .int) 2 [.ref (oA ω 56), .int a1] (f_X7_nearestOf a1 I) I := by
  refine ct_i (by decide) (Nat.le_of_ble_eq_true rfl) ?_
  intro κ hlau hret C
  refine e_lv [0, 1] (lv1 := [(0, .ref (oA ω 56)), (1, .int a1)]) rfl ?_
  unfold f_X7_nearestOf
  refine e_iconst C dX7_nearestOf_0 ic_m1 (q := 1) rfl ?_
  refine e_istore_n C (lv1 := [(2, .int (-1 : Int32)), (0, .ref (oA ω 56)), (1, .int a1)]) dX7_nearestOf_1 rfl (Nat.le_of_ble_eq_true rfl) rfl (q := 2) rfl ?_
  refine e_iconst C dX7_nearestOf_2 ic_0 (q := 3) rfl ?_
  refine e_istore_n C (lv1 := [(3, .int (0 : Int32)), (2, .int (-1 : Int32)), (0, .ref (oA ω 56)), (1, .int a1)]) dX7_nearestOf_3 rfl (Nat.le_of_ble_eq_true rfl) rfl (q := 4) rfl ?_
  refine e_iconst C dX7_nearestOf_4 ic_0 (q := 5) rfl ?_
  refine e_istore C (lv1 := [(4, .int (0 : Int32)), (3, .int (0 : Int32)), (2, .int (-1 : Int32)), (0, .ref (oA ω 56)), (1, .int a1)]) dX7_nearestOf_5 (Nat.le_of_ble_eq_true rfl) rfl (q := 7) rfl ?_
  exact xb_X7_nearestOf_b7 C hlau hret hn FU (0 : Int32) (0 : Int32) (-1 : Int32) _
set_option maxHeartbeats 4000000 in
set_option maxRecDepth 100000 in
theorem x_X7_told {l : Launch} {ω : Om} {a1 : Int32} {a2 : Int32} (hn : 75 ≤ oN ω)  {I : Mem} : CTi l ω yX7_told cX7_told 3 (some .int) 5 [.ref (oA ω 56), .int a1, .int a2] (f_X7_told a1 a2 I) I := by
  refine ct_i (by decide) (Nat.le_of_ble_eq_true rfl) ?_
  intro κ hlau hret C
  refine e_lv [0, 1, 2] (lv1 := [(0, .ref (oA ω 56)), (1, .int a1), (2, .int a2)]) rfl ?_
  unfold f_X7_told
  refine e_aload_n C dX7_told_0 rfl 0 rfl (q := 1) rfl ?_
  refine e_iload_n C dX7_told_1 rfl 1 rfl (q := 2) rfl ?_
  refine e_callVi C (l := l) (k := 56) (av := [.int a1]) (st := []) hlau (x_X7_isOne (l := l) (ω := ω) (a1 := a1) hn (I := I)) dX7_told_2 w_890 w_892 w_32 w_67 w_893 md_X7_isOne (by decide) (by decide) rfl (ltL hn (Nat.le_of_ble_eq_true rfl)) rfl rfl (Nat.le_of_ble_eq_true rfl) (q := 5) rfl (fun v2 J1 => ?_)
  refine e_ifne C (tgt := 11) (q := 8) dX7_told_5 rfl rfl ?_ ?_
  · refine e_iload_n C dX7_told_11 rfl 2 rfl (q := 12) rfl ?_
    refine e_if (fun h3 => ?_) (fun h3 => ?_)
    · refine e_tabIn C (v := 0) (off := 52) (tgt := 64) dX7_told_12 (by rw [h3]; rfl) (by decide) rfl rfl ?_
      refine e_aload_n C dX7_told_64 rfl 0 rfl (q := 65) rfl ?_
      refine e_getf C (k := 56) (j := 3) (T := TX7) (N := 32) (v := .ref (oA ω 59)) dX7_told_65 (ltL hn (Nat.le_of_ble_eq_true rfl)) rfl rfl (by decide) in_X7 w_765 rfl (q := 68) rfl ?_
      refine e_iconst C dX7_told_68 ic_4 (q := 69) rfl ?_
      refine e_iload_n C dX7_told_69 rfl 1 rfl (q := 70) rfl ?_
      refine e_imul C dX7_told_70 (q := 71) rfl ?_
      refine e_iload_n C dX7_told_71 rfl 2 rfl (q := 72) rfl ?_
      refine e_iadd C dX7_told_72 (q := 73) rfl ?_
      refine e_iald C (k := 59) (n := 24) dX7_told_73 (ltL hn (Nat.le_of_ble_eq_true rfl)) rfl (q := 74) rfl ?_
      exact e_ireturn C dX7_told_74 hret rfl
    · refine e_if (fun h4 => ?_) (fun h4 => ?_)
      · refine e_tabIn C (v := 1) (off := 52) (tgt := 64) dX7_told_12 (by rw [h4]; rfl) (by decide) rfl rfl ?_
        refine e_aload_n C dX7_told_64 rfl 0 rfl (q := 65) rfl ?_
        refine e_getf C (k := 56) (j := 3) (T := TX7) (N := 32) (v := .ref (oA ω 59)) dX7_told_65 (ltL hn (Nat.le_of_ble_eq_true rfl)) rfl rfl (by decide) in_X7 w_765 rfl (q := 68) rfl ?_
        refine e_iconst C dX7_told_68 ic_4 (q := 69) rfl ?_
        refine e_iload_n C dX7_told_69 rfl 1 rfl (q := 70) rfl ?_
        refine e_imul C dX7_told_70 (q := 71) rfl ?_
        refine e_iload_n C dX7_told_71 rfl 2 rfl (q := 72) rfl ?_
        refine e_iadd C dX7_told_72 (q := 73) rfl ?_
        refine e_iald C (k := 59) (n := 24) dX7_told_73 (ltL hn (Nat.le_of_ble_eq_true rfl)) rfl (q := 74) rfl ?_
        exact e_ireturn C dX7_told_74 hret rfl
      · refine e_if (fun h5 => ?_) (fun h5 => ?_)
        · refine e_tabIn C (v := 2) (off := 52) (tgt := 64) dX7_told_12 (by rw [h5]; rfl) (by decide) rfl rfl ?_
          refine e_aload_n C dX7_told_64 rfl 0 rfl (q := 65) rfl ?_
          refine e_getf C (k := 56) (j := 3) (T := TX7) (N := 32) (v := .ref (oA ω 59)) dX7_told_65 (ltL hn (Nat.le_of_ble_eq_true rfl)) rfl rfl (by decide) in_X7 w_765 rfl (q := 68) rfl ?_
          refine e_iconst C dX7_told_68 ic_4 (q := 69) rfl ?_
          refine e_iload_n C dX7_told_69 rfl 1 rfl (q := 70) rfl ?_
          refine e_imul C dX7_told_70 (q := 71) rfl ?_
          refine e_iload_n C dX7_told_71 rfl 2 rfl (q := 72) rfl ?_
          refine e_iadd C dX7_told_72 (q := 73) rfl ?_
          refine e_iald C (k := 59) (n := 24) dX7_told_73 (ltL hn (Nat.le_of_ble_eq_true rfl)) rfl (q := 74) rfl ?_
          exact e_ireturn C dX7_told_74 hret rfl
        · refine e_if (fun h6 => ?_) (fun h6 => ?_)
          · refine e_tabIn C (v := 3) (off := 52) (tgt := 64) dX7_told_12 (by rw [h6]; rfl) (by decide) rfl rfl ?_
            refine e_aload_n C dX7_told_64 rfl 0 rfl (q := 65) rfl ?_
            refine e_getf C (k := 56) (j := 3) (T := TX7) (N := 32) (v := .ref (oA ω 59)) dX7_told_65 (ltL hn (Nat.le_of_ble_eq_true rfl)) rfl rfl (by decide) in_X7 w_765 rfl (q := 68) rfl ?_
            refine e_iconst C dX7_told_68 ic_4 (q := 69) rfl ?_
            refine e_iload_n C dX7_told_69 rfl 1 rfl (q := 70) rfl ?_
            refine e_imul C dX7_told_70 (q := 71) rfl ?_
            refine e_iload_n C dX7_told_71 rfl 2 rfl (q := 72) rfl ?_
            refine e_iadd C dX7_told_72 (q := 73) rfl ?_
            refine e_iald C (k := 59) (n := 24) dX7_told_73 (ltL hn (Nat.le_of_ble_eq_true rfl)) rfl (q := 74) rfl ?_
            exact e_ireturn C dX7_told_74 hret rfl
          · refine e_if (fun h7 => ?_) (fun h7 => ?_)
            · refine e_tabIn C (v := 4) (off := 63) (tgt := 75) dX7_told_12 (by rw [h7]; rfl) (by decide) rfl rfl ?_
              refine e_aload_n C dX7_told_75 rfl 0 rfl (q := 76) rfl ?_
              refine e_getf C (k := 56) (j := 1) (T := TX7) (N := 32) (v := .ref (oA ω 57)) dX7_told_76 (ltL hn (Nat.le_of_ble_eq_true rfl)) rfl rfl (by decide) in_X7 w_763 rfl (q := 79) rfl ?_
              refine e_iload_n C dX7_told_79 rfl 1 rfl (q := 80) rfl ?_
              refine e_iald C (k := 57) (n := 6) dX7_told_80 (ltL hn (Nat.le_of_ble_eq_true rfl)) rfl (q := 81) rfl ?_
              exact e_ireturn C dX7_told_81 hret rfl
            · refine e_if (fun h8 => ?_) (fun h8 => ?_)
              · refine e_tabIn C (v := 5) (off := 70) (tgt := 82) dX7_told_12 (by rw [h8]; rfl) (by decide) rfl rfl ?_
                refine e_aload_n C dX7_told_82 rfl 0 rfl (q := 83) rfl ?_
                refine e_getf C (k := 56) (j := 2) (T := TX7) (N := 32) (v := .ref (oA ω 58)) dX7_told_83 (ltL hn (Nat.le_of_ble_eq_true rfl)) rfl rfl (by decide) in_X7 w_764 rfl (q := 86) rfl ?_
                refine e_iload_n C dX7_told_86 rfl 1 rfl (q := 87) rfl ?_
                refine e_iald C (k := 58) (n := 6) dX7_told_87 (ltL hn (Nat.le_of_ble_eq_true rfl)) rfl (q := 88) rfl ?_
                exact e_ireturn C dX7_told_88 hret rfl
              · refine e_if (fun h9 => ?_) (fun h9 => ?_)
                · refine e_tabIn C (v := 6) (off := 77) (tgt := 89) dX7_told_12 (by rw [h9]; rfl) (by decide) rfl rfl ?_
                  refine e_aload_n C dX7_told_89 rfl 0 rfl (q := 90) rfl ?_
                  refine e_iload_n C dX7_told_90 rfl 1 rfl (q := 91) rfl ?_
                  refine e_callVi C (l := l) (k := 56) (av := [.int a1]) (st := []) hlau (x_X7_goes (l := l) (ω := ω) (a1 := a1) hn (I := J1)) dX7_told_91 w_920 w_922 w_35 w_67 w_923 md_X7_goes (by decide) (by decide) rfl (ltL hn (Nat.le_of_ble_eq_true rfl)) rfl rfl (Nat.le_of_ble_eq_true rfl) (q := 94) rfl (fun v17 J16 => ?_)
                  refine e_ifeq C (tgt := 101) (q := 97) dX7_told_94 rfl rfl ?_ ?_
                  · refine e_iconst C dX7_told_101 ic_0 (q := 102) rfl ?_
                    exact e_ireturn C dX7_told_102 hret rfl
                  · refine e_iconst C dX7_told_97 ic_1 (q := 98) rfl ?_
                    refine e_goto C (tgt := 102) dX7_told_98 rfl ?_
                    exact e_ireturn C dX7_told_102 hret rfl
                · refine e_if (fun h10 => ?_) (fun h10 => ?_)
                  · refine e_tabIn C (v := 7) (off := 91) (tgt := 103) dX7_told_12 (by rw [h10]; rfl) (by decide) rfl rfl ?_
                    refine e_aload_n C dX7_told_103 rfl 0 rfl (q := 104) rfl ?_
                    refine e_iload_n C dX7_told_104 rfl 1 rfl (q := 105) rfl ?_
                    refine e_callVi C (l := l) (k := 56) (av := [.int a1]) (st := []) hlau (x_X7_nearestOf (l := l) (ω := ω) (a1 := a1) hn (I := J1)) dX7_told_105 w_924 w_926 w_36 w_67 w_927 md_X7_nearestOf (by decide) (by decide) rfl (ltL hn (Nat.le_of_ble_eq_true rfl)) rfl rfl (Nat.le_of_ble_eq_true rfl) (q := 108) rfl (fun v15 J14 => ?_)
                    exact e_ireturn C dX7_told_108 hret rfl
                  · refine e_if (fun h11 => ?_) (fun h11 => ?_)
                    · refine e_tabIn C (v := 8) (off := 97) (tgt := 109) dX7_told_12 (by rw [h11]; rfl) (by decide) rfl rfl ?_
                      refine e_sipush C dX7_told_109 b16_1000 (q := 112) rfl ?_
                      refine e_aload_n C dX7_told_112 rfl 0 rfl (q := 113) rfl ?_
                      refine e_iload_n C dX7_told_113 rfl 1 rfl (q := 114) rfl ?_
                      refine e_callVi C (l := l) (k := 56) (av := [.int a1]) (st := [.int (1000 : Int32)]) hlau (x_X7_softOf (l := l) (ω := ω) (a1 := a1) hn (I := J1)) dX7_told_114 w_932 w_934 w_38 w_67 w_935 md_X7_softOf (by decide) (by decide) rfl (ltL hn (Nat.le_of_ble_eq_true rfl)) rfl rfl (Nat.le_of_ble_eq_true rfl) (q := 117) rfl (fun v13 J12 => ?_)
                      refine e_iadd C dX7_told_117 (q := 118) rfl ?_
                      exact e_ireturn C dX7_told_118 hret rfl
                    · refine e_tabOut C (tgt := 119) dX7_told_12 (by have g0 := i32_ne h3; have g1 := i32_ne h4; have g2 := i32_ne h5; have g3 := i32_ne h6; have g4 := i32_ne h7; have g5 := i32_ne h8; have g6 := i32_ne h9; have g7 := i32_ne h10; have g8 := i32_ne h11; have f0 : ((0 : Int32)).toInt = 0 := rfl; have f1 : ((1 : Int32)).toInt = 1 := rfl; have f2 : ((2 : Int32)).toInt = 2 := rfl; have f3 : ((3 : Int32)).toInt = 3 := rfl; have f4 : ((4 : Int32)).toInt = 4 := rfl; have f5 : ((5 : Int32)).toInt = 5 := rfl; have f6 : ((6 : Int32)).toInt = 6 := rfl; have f7 : ((7 : Int32)).toInt = 7 := rfl; have f8 : ((8 : Int32)).toInt = 8 := rfl; omega) rfl ?_
                      refine e_bipush C dX7_told_119 b8_m7 (q := 121) rfl ?_
                      exact e_ireturn C dX7_told_121 hret rfl
  · refine e_bipush C dX7_told_8 b8_m5 (q := 10) rfl ?_
    exact e_ireturn C dX7_told_10 hret rfl
set_option maxHeartbeats 4000000 in
set_option maxRecDepth 100000 in
theorem x_X7_duel {l : Launch} {ω : Om} {a1 : Int32} {a2 : Int32} {a3 : Int32} (hn : 75 ≤ oN ω)  {I : Mem} : CTi l ω yX7_duel cX7_duel 4 (some .int) 6 [.ref (oA ω 56), .int a1, .int a2, .int a3] (f_X7_duel a1 a2 a3 I) I := by
  refine ct_i (by decide) (Nat.le_of_ble_eq_true rfl) ?_
  intro κ hlau hret C
  refine e_lv [0, 1, 2, 3] (lv1 := [(0, .ref (oA ω 56)), (1, .int a1), (2, .int a2), (3, .int a3)]) rfl ?_
  unfold f_X7_duel
  refine e_aload_n C dX7_duel_0 rfl 0 rfl (q := 1) rfl ?_
  refine e_iload_n C dX7_duel_1 rfl 1 rfl (q := 2) rfl ?_
  refine e_iload_n C dX7_duel_2 rfl 2 rfl (q := 3) rfl ?_
  refine e_callVi C (l := l) (k := 56) (av := [.int a1, .int a2]) (st := []) hlau (x_X7_areTwo (l := l) (ω := ω) (a1 := a1) (a2 := a2) hn (I := I)) dX7_duel_3 w_940 w_942 w_39 w_67 w_943 md_X7_areTwo (by decide) (by decide) rfl (ltL hn (Nat.le_of_ble_eq_true rfl)) rfl rfl (Nat.le_of_ble_eq_true rfl) (q := 6) rfl (fun v2 J1 => ?_)
  refine e_ifne C (tgt := 12) (q := 9) dX7_duel_6 rfl rfl ?_ ?_
  · refine e_iload_n C dX7_duel_12 rfl 3 rfl (q := 13) rfl ?_
    refine e_if (fun h3 => ?_) (fun h3 => ?_)
    · refine e_tabIn C (v := 0) (off := 31) (tgt := 44) dX7_duel_13 (by rw [h3]; rfl) (by decide) rfl rfl ?_
      refine e_aload_n C dX7_duel_44 rfl 0 rfl (q := 45) rfl ?_
      refine e_iload_n C dX7_duel_45 rfl 1 rfl (q := 46) rfl ?_
      refine e_iload_n C dX7_duel_46 rfl 2 rfl (q := 47) rfl ?_
      refine e_callVi C (l := l) (k := 56) (av := [.int a1, .int a2]) (st := []) hlau (x_X7_hitsOf (l := l) (ω := ω) (a1 := a1) (a2 := a2) hn (I := J1)) dX7_duel_47 w_944 w_946 w_40 w_67 w_947 md_X7_hitsOf (by decide) (by decide) rfl (ltL hn (Nat.le_of_ble_eq_true rfl)) rfl rfl (Nat.le_of_ble_eq_true rfl) (q := 50) rfl (fun v12 J11 => ?_)
      exact e_ireturn C dX7_duel_50 hret rfl
    · refine e_if (fun h4 => ?_) (fun h4 => ?_)
      · refine e_tabIn C (v := 1) (off := 38) (tgt := 51) dX7_duel_13 (by rw [h4]; rfl) (by decide) rfl rfl ?_
        refine e_aload_n C dX7_duel_51 rfl 0 rfl (q := 52) rfl ?_
        refine e_iload_n C dX7_duel_52 rfl 1 rfl (q := 53) rfl ?_
        refine e_iload_n C dX7_duel_53 rfl 2 rfl (q := 54) rfl ?_
        refine e_callVi C (l := l) (k := 56) (av := [.int a1, .int a2]) (st := []) hlau (x_X7_blowOf (l := l) (ω := ω) (a1 := a1) (a2 := a2) hn (I := J1)) dX7_duel_54 w_948 w_950 w_41 w_67 w_951 md_X7_blowOf (by decide) (by decide) rfl (ltL hn (Nat.le_of_ble_eq_true rfl)) rfl rfl (Nat.le_of_ble_eq_true rfl) (q := 57) rfl (fun v10 J9 => ?_)
        exact e_ireturn C dX7_duel_57 hret rfl
      · refine e_if (fun h5 => ?_) (fun h5 => ?_)
        · refine e_tabIn C (v := 2) (off := 45) (tgt := 58) dX7_duel_13 (by rw [h5]; rfl) (by decide) rfl rfl ?_
          refine e_aload_n C dX7_duel_58 rfl 0 rfl (q := 59) rfl ?_
          refine e_iload_n C dX7_duel_59 rfl 1 rfl (q := 60) rfl ?_
          refine e_iload_n C dX7_duel_60 rfl 2 rfl (q := 61) rfl ?_
          refine e_callVi C (l := l) (k := 56) (av := [.int a1, .int a2]) (st := []) hlau (x_X7_farOf (l := l) (ω := ω) (a1 := a1) (a2 := a2) hn (I := J1)) dX7_duel_61 w_928 w_930 w_37 w_67 w_931 md_X7_farOf (by decide) (by decide) rfl (ltL hn (Nat.le_of_ble_eq_true rfl)) rfl rfl (Nat.le_of_ble_eq_true rfl) (q := 64) rfl (fun v8 J7 => ?_)
          exact e_ireturn C dX7_duel_64 hret rfl
        · refine e_if (fun h6 => ?_) (fun h6 => ?_)
          · refine e_tabIn C (v := 3) (off := 52) (tgt := 65) dX7_duel_13 (by rw [h6]; rfl) (by decide) rfl rfl ?_
            refine e_aload_n C dX7_duel_65 rfl 0 rfl (q := 66) rfl ?_
            refine e_getf C (k := 56) (j := 4) (T := TX7) (N := 32) (v := .ref (oA ω 60)) dX7_duel_66 (ltL hn (Nat.le_of_ble_eq_true rfl)) rfl rfl (by decide) in_X7 w_766 rfl (q := 69) rfl ?_
            refine e_bipush C dX7_duel_69 b8_6 (q := 71) rfl ?_
            refine e_iload_n C dX7_duel_71 rfl 1 rfl (q := 72) rfl ?_
            refine e_imul C dX7_duel_72 (q := 73) rfl ?_
            refine e_iload_n C dX7_duel_73 rfl 2 rfl (q := 74) rfl ?_
            refine e_iadd C dX7_duel_74 (q := 75) rfl ?_
            refine e_iald C (k := 60) (n := 36) dX7_duel_75 (ltL hn (Nat.le_of_ble_eq_true rfl)) rfl (q := 76) rfl ?_
            exact e_ireturn C dX7_duel_76 hret rfl
          · refine e_tabOut C (tgt := 77) dX7_duel_13 (by have g0 := i32_ne h3; have g1 := i32_ne h4; have g2 := i32_ne h5; have g3 := i32_ne h6; have f0 : ((0 : Int32)).toInt = 0 := rfl; have f1 : ((1 : Int32)).toInt = 1 := rfl; have f2 : ((2 : Int32)).toInt = 2 := rfl; have f3 : ((3 : Int32)).toInt = 3 := rfl; omega) rfl ?_
            refine e_bipush C dX7_duel_77 b8_m7 (q := 79) rfl ?_
            exact e_ireturn C dX7_duel_79 hret rfl
  · refine e_bipush C dX7_duel_9 b8_m5 (q := 11) rfl ?_
    exact e_ireturn C dX7_duel_11 hret rfl
set_option maxHeartbeats 4000000 in
set_option maxRecDepth 100000 in
theorem xb_X7_steps_b97 {l : Launch} {κ : Kx} {ω : Om} {a1 : Int32} {a2 : Int32} (C : CX κ ω cX7_steps 5 1 yX7_steps.cls) (hlau : κ.2.1 = l) (hret : κ.2.2.2.2.2.2.2.2.1.sig.returnType = none) (hn : 75 ≤ oN ω)  : ∀ (s0 : Int32) (s1 : Int32) (s2 : Int32) (I : Mem), EE κ ω 5 (Gv κ ω) (f_X7_steps_b97 a1 a2 s0 s1 s2 I) I 97 [] [.int s0, .int s1, .int s2, .ref (oA ω 59)] := by
  intro s0 s1 s2 I
  unfold f_X7_steps_b97
  refine e_iadd C dX7_steps_97 (q := 98) rfl ?_
  refine e_iast C (k := 59) (n := 24) dX7_steps_98 (ltL hn (Nat.le_of_ble_eq_true rfl)) (fun _ => rfl) (q := 99) rfl ?_
  refine e_nmM (fun J4 => ?_)
  exact e_vreturn C dX7_steps_99 hret
set_option maxHeartbeats 4000000 in
set_option maxRecDepth 100000 in
theorem xb_X7_steps_b53 {l : Launch} {κ : Kx} {ω : Om} {a1 : Int32} {a2 : Int32} (C : CX κ ω cX7_steps 5 1 yX7_steps.cls) (hlau : κ.2.1 = l) (hret : κ.2.2.2.2.2.2.2.2.1.sig.returnType = none) (hn : 75 ≤ oN ω)  : ∀ (s0 : Int32) (s1 : Int32) (s2 : Int32) (I : Mem), EE κ ω 5 (Gv κ ω) (f_X7_steps_b53 a1 a2 s0 s1 s2 I) I 53 [] [.int s0, .int s1, .int s2, .ref (oA ω 59)] := by
  intro s0 s1 s2 I
  unfold f_X7_steps_b53
  refine e_iadd C dX7_steps_53 (q := 54) rfl ?_
  refine e_iast C (k := 59) (n := 24) dX7_steps_54 (ltL hn (Nat.le_of_ble_eq_true rfl)) (fun _ => rfl) (q := 55) rfl ?_
  refine e_nmM (fun J6 => ?_)
  refine e_goto C (tgt := 99) dX7_steps_55 rfl ?_
  exact e_vreturn C dX7_steps_99 hret
set_option maxHeartbeats 4000000 in
set_option maxRecDepth 100000 in
theorem x_X7_steps {l : Launch} {ω : Om} {a1 : Int32} {a2 : Int32} (hn : 75 ≤ oN ω)  {I : Mem} : CTv l ω yX7_steps cX7_steps 5 none 1 [.ref (oA ω 56), .int a1, .int a2] (f_X7_steps a1 a2 I) I := by
  refine ct_v (by decide) (Nat.le_of_ble_eq_true rfl) ?_
  intro κ hlau hret C
  refine e_lv [0, 1, 2] (lv1 := [(0, .ref (oA ω 56)), (1, .int a1), (2, .int a2)]) rfl ?_
  unfold f_X7_steps
  refine e_aload_n C dX7_steps_0 rfl 0 rfl (q := 1) rfl ?_
  refine e_getf C (k := 56) (j := 3) (T := TX7) (N := 32) (v := .ref (oA ω 59)) dX7_steps_1 (ltL hn (Nat.le_of_ble_eq_true rfl)) rfl rfl (by decide) in_X7 w_765 rfl (q := 4) rfl ?_
  refine e_iconst C dX7_steps_4 ic_4 (q := 5) rfl ?_
  refine e_iload_n C dX7_steps_5 rfl 1 rfl (q := 6) rfl ?_
  refine e_imul C dX7_steps_6 (q := 7) rfl ?_
  refine e_iald C (k := 59) (n := 24) dX7_steps_7 (ltL hn (Nat.le_of_ble_eq_true rfl)) rfl (q := 8) rfl ?_
  refine e_bipush C dX7_steps_8 b8_8 (q := 10) rfl ?_
  refine e_idiv C dX7_steps_10 (by decide) (q := 11) rfl ?_
  refine e_nmi (fun v1 => ?_)
  refine e_istore_n C (lv1 := [(3, .int v1), (0, .ref (oA ω 56)), (1, .int a1), (2, .int a2)]) dX7_steps_11 rfl (Nat.le_of_ble_eq_true rfl) rfl (q := 12) rfl ?_
  refine e_aload_n C dX7_steps_12 rfl 1 rfl (q := 13) rfl ?_
  refine e_getf C (k := 56) (j := 3) (T := TX7) (N := 32) (v := .ref (oA ω 59)) dX7_steps_13 (ltL hn (Nat.le_of_ble_eq_true rfl)) rfl rfl (by decide) in_X7 w_765 rfl (q := 16) rfl ?_
  refine e_iconst C dX7_steps_16 ic_4 (q := 17) rfl ?_
  refine e_iload_n C dX7_steps_17 rfl 3 rfl (q := 18) rfl ?_
  refine e_imul C dX7_steps_18 (q := 19) rfl ?_
  refine e_iald C (k := 59) (n := 24) dX7_steps_19 (ltL hn (Nat.le_of_ble_eq_true rfl)) rfl (q := 20) rfl ?_
  refine e_bipush C dX7_steps_20 b8_8 (q := 22) rfl ?_
  refine e_idiv C dX7_steps_22 (by decide) (q := 23) rfl ?_
  refine e_nmi (fun v2 => ?_)
  refine e_istore C (lv1 := [(4, .int v2), (3, .int v1), (0, .ref (oA ω 56)), (1, .int a1), (2, .int a2)]) dX7_steps_23 (Nat.le_of_ble_eq_true rfl) rfl (q := 25) rfl ?_
  refine e_iload_n C dX7_steps_25 rfl 1 rfl (q := 26) rfl ?_
  refine e_iload C dX7_steps_26 0 rfl (q := 28) rfl ?_
  refine e_icmpeq C (tgt := 58) (q := 31) dX7_steps_28 rfl rfl ?_ ?_
  · refine e_aload_n C dX7_steps_58 rfl 2 rfl (q := 59) rfl ?_
    refine e_getf C (k := 56) (j := 3) (T := TX7) (N := 32) (v := .ref (oA ω 59)) dX7_steps_59 (ltL hn (Nat.le_of_ble_eq_true rfl)) rfl rfl (by decide) in_X7 w_765 rfl (q := 62) rfl ?_
    refine e_iconst C dX7_steps_62 ic_4 (q := 63) rfl ?_
    refine e_iload_n C dX7_steps_63 rfl 3 rfl (q := 64) rfl ?_
    refine e_imul C dX7_steps_64 (q := 65) rfl ?_
    refine e_nmi (fun v3 => ?_)
    refine e_dup2 C dX7_steps_65 rfl rfl (q := 66) rfl ?_
    refine e_iald C (k := 59) (n := 24) dX7_steps_66 (ltL hn (Nat.le_of_ble_eq_true rfl)) rfl (q := 67) rfl ?_
    refine e_aload_n C dX7_steps_67 rfl 2 rfl (q := 68) rfl ?_
    refine e_getf C (k := 56) (j := 3) (T := TX7) (N := 32) (v := .ref (oA ω 59)) dX7_steps_68 (ltL hn (Nat.le_of_ble_eq_true rfl)) rfl rfl (by decide) in_X7 w_765 rfl (q := 71) rfl ?_
    refine e_iconst C dX7_steps_71 ic_4 (q := 72) rfl ?_
    refine e_iload_n C dX7_steps_72 rfl 3 rfl (q := 73) rfl ?_
    refine e_imul C dX7_steps_73 (q := 74) rfl ?_
    refine e_iald C (k := 59) (n := 24) dX7_steps_74 (ltL hn (Nat.le_of_ble_eq_true rfl)) rfl (q := 75) rfl ?_
    refine e_bipush C dX7_steps_75 b8_8 (q := 77) rfl ?_
    refine e_irem C dX7_steps_77 (by decide) (q := 78) rfl ?_
    refine e_aload_n C dX7_steps_78 rfl 2 rfl (q := 79) rfl ?_
    refine e_getf C (k := 56) (j := 3) (T := TX7) (N := 32) (v := .ref (oA ω 59)) dX7_steps_79 (ltL hn (Nat.le_of_ble_eq_true rfl)) rfl rfl (by decide) in_X7 w_765 rfl (q := 82) rfl ?_
    refine e_iconst C dX7_steps_82 ic_4 (q := 83) rfl ?_
    refine e_iload_n C dX7_steps_83 rfl 4 rfl (q := 84) rfl ?_
    refine e_imul C dX7_steps_84 (q := 85) rfl ?_
    refine e_iald C (k := 59) (n := 24) dX7_steps_85 (ltL hn (Nat.le_of_ble_eq_true rfl)) rfl (q := 86) rfl ?_
    refine e_bipush C dX7_steps_86 b8_8 (q := 88) rfl ?_
    refine e_irem C dX7_steps_88 (by decide) (q := 89) rfl ?_
    refine e_icmpge C (tgt := 96) (q := 92) dX7_steps_89 rfl rfl ?_ ?_
    · refine e_iconst C dX7_steps_96 ic_m1 (q := 97) rfl ?_
      exact e_lv [] (lv1 := []) rfl (xb_X7_steps_b97 C hlau hret hn (-1 : Int32) (I 59 (v3).toNatClampNeg) v3 _)
    · refine e_iconst C dX7_steps_92 ic_1 (q := 93) rfl ?_
      refine e_goto C (tgt := 97) dX7_steps_93 rfl ?_
      exact e_lv [] (lv1 := []) rfl (xb_X7_steps_b97 C hlau hret hn (1 : Int32) (I 59 (v3).toNatClampNeg) v3 _)
  · refine e_aload_n C dX7_steps_31 rfl 2 rfl (q := 32) rfl ?_
    refine e_getf C (k := 56) (j := 3) (T := TX7) (N := 32) (v := .ref (oA ω 59)) dX7_steps_32 (ltL hn (Nat.le_of_ble_eq_true rfl)) rfl rfl (by decide) in_X7 w_765 rfl (q := 35) rfl ?_
    refine e_iconst C dX7_steps_35 ic_4 (q := 36) rfl ?_
    refine e_iload_n C dX7_steps_36 rfl 3 rfl (q := 37) rfl ?_
    refine e_imul C dX7_steps_37 (q := 38) rfl ?_
    refine e_nmi (fun v5 => ?_)
    refine e_dup2 C dX7_steps_38 rfl rfl (q := 39) rfl ?_
    refine e_iald C (k := 59) (n := 24) dX7_steps_39 (ltL hn (Nat.le_of_ble_eq_true rfl)) rfl (q := 40) rfl ?_
    refine e_iload_n C dX7_steps_40 rfl 1 rfl (q := 41) rfl ?_
    refine e_iload C dX7_steps_41 0 rfl (q := 43) rfl ?_
    refine e_icmpge C (tgt := 51) (q := 46) dX7_steps_43 rfl rfl ?_ ?_
    · refine e_bipush C dX7_steps_51 b8_m8 (q := 53) rfl ?_
      exact e_lv [] (lv1 := []) rfl (xb_X7_steps_b53 C hlau hret hn (-8 : Int32) (I 59 (v5).toNatClampNeg) v5 _)
    · refine e_bipush C dX7_steps_46 b8_8 (q := 48) rfl ?_
      refine e_goto C (tgt := 53) dX7_steps_48 rfl ?_
      exact e_lv [] (lv1 := []) rfl (xb_X7_steps_b53 C hlau hret hn (8 : Int32) (I 59 (v5).toNatClampNeg) v5 _)
set_option maxHeartbeats 4000000 in
set_option maxRecDepth 100000 in
theorem x_X7_hitBy {l : Launch} {ω : Om} {a1 : Int32} {a2 : Int32} (hn : 75 ≤ oN ω)  {I : Mem} : CTi l ω yX7_hitBy cX7_hitBy 4 (some .boolean) 6 [.ref (oA ω 56), .int a1, .int a2] (f_X7_hitBy a1 a2 I) I := by
  refine ct_i (by decide) (Nat.le_of_ble_eq_true rfl) ?_
  intro κ hlau hret C
  refine e_lv [0, 1, 2] (lv1 := [(0, .ref (oA ω 56)), (1, .int a1), (2, .int a2)]) rfl ?_
  unfold f_X7_hitBy
  refine e_aload_n C dX7_hitBy_0 rfl 0 rfl (q := 1) rfl ?_
  refine e_iload_n C dX7_hitBy_1 rfl 1 rfl (q := 2) rfl ?_
  refine e_iload_n C dX7_hitBy_2 rfl 2 rfl (q := 3) rfl ?_
  refine e_callVi C (l := l) (k := 56) (av := [.int a1, .int a2]) (st := []) hlau (x_X7_blowOf (l := l) (ω := ω) (a1 := a1) (a2 := a2) hn (I := I)) dX7_hitBy_3 w_948 w_950 w_41 w_67 w_951 md_X7_blowOf (by decide) (by decide) rfl (ltL hn (Nat.le_of_ble_eq_true rfl)) rfl rfl (Nat.le_of_ble_eq_true rfl) (q := 6) rfl (fun v2 J1 => ?_)
  refine e_istore_n C (lv1 := [(3, .int v2), (0, .ref (oA ω 56)), (1, .int a1), (2, .int a2)]) dX7_hitBy_6 rfl (Nat.le_of_ble_eq_true rfl) rfl (q := 7) rfl ?_
  refine e_aload_n C dX7_hitBy_7 rfl 1 rfl (q := 8) rfl ?_
  refine e_getf C (k := 56) (j := 3) (T := TX7) (N := 32) (v := .ref (oA ω 59)) dX7_hitBy_8 (ltL hn (Nat.le_of_ble_eq_true rfl)) rfl rfl (by decide) in_X7 w_765 rfl (q := 11) rfl ?_
  refine e_iconst C dX7_hitBy_11 ic_4 (q := 12) rfl ?_
  refine e_iload_n C dX7_hitBy_12 rfl 3 rfl (q := 13) rfl ?_
  refine e_imul C dX7_hitBy_13 (q := 14) rfl ?_
  refine e_iconst C dX7_hitBy_14 ic_1 (q := 15) rfl ?_
  refine e_iadd C dX7_hitBy_15 (q := 16) rfl ?_
  refine e_aload_n C dX7_hitBy_16 rfl 1 rfl (q := 17) rfl ?_
  refine e_getf C (k := 56) (j := 3) (T := TX7) (N := 32) (v := .ref (oA ω 59)) dX7_hitBy_17 (ltL hn (Nat.le_of_ble_eq_true rfl)) rfl rfl (by decide) in_X7 w_765 rfl (q := 20) rfl ?_
  refine e_iconst C dX7_hitBy_20 ic_4 (q := 21) rfl ?_
  refine e_iload_n C dX7_hitBy_21 rfl 3 rfl (q := 22) rfl ?_
  refine e_imul C dX7_hitBy_22 (q := 23) rfl ?_
  refine e_iconst C dX7_hitBy_23 ic_1 (q := 24) rfl ?_
  refine e_iadd C dX7_hitBy_24 (q := 25) rfl ?_
  refine e_nmi (fun v3 => ?_)
  refine e_iald C (k := 59) (n := 24) dX7_hitBy_25 (ltL hn (Nat.le_of_ble_eq_true rfl)) rfl (q := 26) rfl ?_
  refine e_iload_n C dX7_hitBy_26 rfl 0 rfl (q := 27) rfl ?_
  refine e_isub C dX7_hitBy_27 (q := 28) rfl ?_
  refine e_iconst C dX7_hitBy_28 ic_0 (q := 29) rfl ?_
  refine e_bipush C dX7_hitBy_29 b8_99 (q := 31) rfl ?_
  refine e_callSi C (l := l) (av := [.int ((J1 59 (v3).toNatClampNeg) - v2), .int (0 : Int32), .int (99 : Int32)]) (st := [.int (((4 : Int32) * a2) + (1 : Int32)), .ref (oA ω 59)]) hlau (x_X7_within (l := l) (ω := ω) (a0 := (J1 59 (v3).toNatClampNeg) - v2) (a1 := (0 : Int32)) (a2 := (99 : Int32)) hn (I := J1)) dX7_hitBy_31 w_905 w_906 w_67 w_907 md_X7_within (by decide) (by decide) rfl (Nat.le_of_ble_eq_true rfl) (q := 34) rfl (fun v5 J4 => ?_)
  refine e_iast C (k := 59) (n := 24) dX7_hitBy_34 (ltL hn (Nat.le_of_ble_eq_true rfl)) (fun _ => rfl) (q := 35) rfl ?_
  refine e_nmM (fun J6 => ?_)
  refine e_aload_n C dX7_hitBy_35 rfl 1 rfl (q := 36) rfl ?_
  refine e_getf C (k := 56) (j := 3) (T := TX7) (N := 32) (v := .ref (oA ω 59)) dX7_hitBy_36 (ltL hn (Nat.le_of_ble_eq_true rfl)) rfl rfl (by decide) in_X7 w_765 rfl (q := 39) rfl ?_
  refine e_iconst C dX7_hitBy_39 ic_4 (q := 40) rfl ?_
  refine e_iload_n C dX7_hitBy_40 rfl 3 rfl (q := 41) rfl ?_
  refine e_imul C dX7_hitBy_41 (q := 42) rfl ?_
  refine e_iconst C dX7_hitBy_42 ic_3 (q := 43) rfl ?_
  refine e_iadd C dX7_hitBy_43 (q := 44) rfl ?_
  refine e_aload_n C dX7_hitBy_44 rfl 1 rfl (q := 45) rfl ?_
  refine e_getf C (k := 56) (j := 3) (T := TX7) (N := 32) (v := .ref (oA ω 59)) dX7_hitBy_45 (ltL hn (Nat.le_of_ble_eq_true rfl)) rfl rfl (by decide) in_X7 w_765 rfl (q := 48) rfl ?_
  refine e_iconst C dX7_hitBy_48 ic_4 (q := 49) rfl ?_
  refine e_iload_n C dX7_hitBy_49 rfl 3 rfl (q := 50) rfl ?_
  refine e_imul C dX7_hitBy_50 (q := 51) rfl ?_
  refine e_iconst C dX7_hitBy_51 ic_3 (q := 52) rfl ?_
  refine e_iadd C dX7_hitBy_52 (q := 53) rfl ?_
  refine e_nmi (fun v7 => ?_)
  refine e_iald C (k := 59) (n := 24) dX7_hitBy_53 (ltL hn (Nat.le_of_ble_eq_true rfl)) rfl (q := 54) rfl ?_
  refine e_iconst C dX7_hitBy_54 ic_1 (q := 55) rfl ?_
  refine e_iadd C dX7_hitBy_55 (q := 56) rfl ?_
  refine e_iconst C dX7_hitBy_56 ic_0 (q := 57) rfl ?_
  refine e_bipush C dX7_hitBy_57 b8_99 (q := 59) rfl ?_
  refine e_callSi C (l := l) (av := [.int ((J6 59 (v7).toNatClampNeg) + (1 : Int32)), .int (0 : Int32), .int (99 : Int32)]) (st := [.int (((4 : Int32) * a2) + (3 : Int32)), .ref (oA ω 59)]) hlau (x_X7_within (l := l) (ω := ω) (a0 := (J6 59 (v7).toNatClampNeg) + (1 : Int32)) (a1 := (0 : Int32)) (a2 := (99 : Int32)) hn (I := J6)) dX7_hitBy_59 w_905 w_906 w_67 w_907 md_X7_within (by decide) (by decide) rfl (Nat.le_of_ble_eq_true rfl) (q := 62) rfl (fun v9 J8 => ?_)
  refine e_iast C (k := 59) (n := 24) dX7_hitBy_62 (ltL hn (Nat.le_of_ble_eq_true rfl)) (fun _ => rfl) (q := 63) rfl ?_
  refine e_nmM (fun J10 => ?_)
  refine e_aload_n C dX7_hitBy_63 rfl 1 rfl (q := 64) rfl ?_
  refine e_getf C (k := 56) (j := 4) (T := TX7) (N := 32) (v := .ref (oA ω 60)) dX7_hitBy_64 (ltL hn (Nat.le_of_ble_eq_true rfl)) rfl rfl (by decide) in_X7 w_766 rfl (q := 67) rfl ?_
  refine e_bipush C dX7_hitBy_67 b8_6 (q := 69) rfl ?_
  refine e_iload_n C dX7_hitBy_69 rfl 2 rfl (q := 70) rfl ?_
  refine e_imul C dX7_hitBy_70 (q := 71) rfl ?_
  refine e_iload_n C dX7_hitBy_71 rfl 3 rfl (q := 72) rfl ?_
  refine e_iadd C dX7_hitBy_72 (q := 73) rfl ?_
  refine e_aload_n C dX7_hitBy_73 rfl 1 rfl (q := 74) rfl ?_
  refine e_getf C (k := 56) (j := 4) (T := TX7) (N := 32) (v := .ref (oA ω 60)) dX7_hitBy_74 (ltL hn (Nat.le_of_ble_eq_true rfl)) rfl rfl (by decide) in_X7 w_766 rfl (q := 77) rfl ?_
  refine e_bipush C dX7_hitBy_77 b8_6 (q := 79) rfl ?_
  refine e_iload_n C dX7_hitBy_79 rfl 2 rfl (q := 80) rfl ?_
  refine e_imul C dX7_hitBy_80 (q := 81) rfl ?_
  refine e_iload_n C dX7_hitBy_81 rfl 3 rfl (q := 82) rfl ?_
  refine e_iadd C dX7_hitBy_82 (q := 83) rfl ?_
  refine e_iald C (k := 60) (n := 36) dX7_hitBy_83 (ltL hn (Nat.le_of_ble_eq_true rfl)) rfl (q := 84) rfl ?_
  refine e_iconst C dX7_hitBy_84 ic_1 (q := 85) rfl ?_
  refine e_iadd C dX7_hitBy_85 (q := 86) rfl ?_
  refine e_iconst C dX7_hitBy_86 ic_0 (q := 87) rfl ?_
  refine e_bipush C dX7_hitBy_87 b8_99 (q := 89) rfl ?_
  refine e_callSi C (l := l) (av := [.int ((J10 60 (((6 : Int32) * a1) + a2).toNatClampNeg) + (1 : Int32)), .int (0 : Int32), .int (99 : Int32)]) (st := [.int (((6 : Int32) * a1) + a2), .ref (oA ω 60)]) hlau (x_X7_within (l := l) (ω := ω) (a0 := (J10 60 (((6 : Int32) * a1) + a2).toNatClampNeg) + (1 : Int32)) (a1 := (0 : Int32)) (a2 := (99 : Int32)) hn (I := J10)) dX7_hitBy_89 w_905 w_906 w_67 w_907 md_X7_within (by decide) (by decide) rfl (Nat.le_of_ble_eq_true rfl) (q := 92) rfl (fun v12 J11 => ?_)
  refine e_iast C (k := 60) (n := 36) dX7_hitBy_92 (ltL hn (Nat.le_of_ble_eq_true rfl)) (fun _ => rfl) (q := 93) rfl ?_
  refine e_nmM (fun J13 => ?_)
  refine e_aload_n C dX7_hitBy_93 rfl 1 rfl (q := 94) rfl ?_
  refine e_getf C (k := 56) (j := 3) (T := TX7) (N := 32) (v := .ref (oA ω 59)) dX7_hitBy_94 (ltL hn (Nat.le_of_ble_eq_true rfl)) rfl rfl (by decide) in_X7 w_765 rfl (q := 97) rfl ?_
  refine e_iconst C dX7_hitBy_97 ic_4 (q := 98) rfl ?_
  refine e_iload_n C dX7_hitBy_98 rfl 2 rfl (q := 99) rfl ?_
  refine e_imul C dX7_hitBy_99 (q := 100) rfl ?_
  refine e_iconst C dX7_hitBy_100 ic_2 (q := 101) rfl ?_
  refine e_iadd C dX7_hitBy_101 (q := 102) rfl ?_
  refine e_aload_n C dX7_hitBy_102 rfl 1 rfl (q := 103) rfl ?_
  refine e_getf C (k := 56) (j := 3) (T := TX7) (N := 32) (v := .ref (oA ω 59)) dX7_hitBy_103 (ltL hn (Nat.le_of_ble_eq_true rfl)) rfl rfl (by decide) in_X7 w_765 rfl (q := 106) rfl ?_
  refine e_iconst C dX7_hitBy_106 ic_4 (q := 107) rfl ?_
  refine e_iload_n C dX7_hitBy_107 rfl 2 rfl (q := 108) rfl ?_
  refine e_imul C dX7_hitBy_108 (q := 109) rfl ?_
  refine e_iconst C dX7_hitBy_109 ic_2 (q := 110) rfl ?_
  refine e_iadd C dX7_hitBy_110 (q := 111) rfl ?_
  refine e_nmi (fun v14 => ?_)
  refine e_iald C (k := 59) (n := 24) dX7_hitBy_111 (ltL hn (Nat.le_of_ble_eq_true rfl)) rfl (q := 112) rfl ?_
  refine e_iconst C dX7_hitBy_112 ic_1 (q := 113) rfl ?_
  refine e_iadd C dX7_hitBy_113 (q := 114) rfl ?_
  refine e_iconst C dX7_hitBy_114 ic_0 (q := 115) rfl ?_
  refine e_bipush C dX7_hitBy_115 b8_99 (q := 117) rfl ?_
  refine e_callSi C (l := l) (av := [.int ((J13 59 (v14).toNatClampNeg) + (1 : Int32)), .int (0 : Int32), .int (99 : Int32)]) (st := [.int (((4 : Int32) * a1) + (2 : Int32)), .ref (oA ω 59)]) hlau (x_X7_within (l := l) (ω := ω) (a0 := (J13 59 (v14).toNatClampNeg) + (1 : Int32)) (a1 := (0 : Int32)) (a2 := (99 : Int32)) hn (I := J13)) dX7_hitBy_117 w_905 w_906 w_67 w_907 md_X7_within (by decide) (by decide) rfl (Nat.le_of_ble_eq_true rfl) (q := 120) rfl (fun v16 J15 => ?_)
  refine e_iast C (k := 59) (n := 24) dX7_hitBy_120 (ltL hn (Nat.le_of_ble_eq_true rfl)) (fun _ => rfl) (q := 121) rfl ?_
  refine e_nmM (fun J17 => ?_)
  refine e_aload_n C dX7_hitBy_121 rfl 1 rfl (q := 122) rfl ?_
  refine e_iload_n C dX7_hitBy_122 rfl 3 rfl (q := 123) rfl ?_
  refine e_callVi C (l := l) (k := 56) (av := [.int a2]) (st := []) hlau (x_X7_isUp (l := l) (ω := ω) (a1 := a2) hn (I := J17)) dX7_hitBy_123 w_867 w_869 w_31 w_67 w_870 md_X7_isUp (by decide) (by decide) rfl (ltL hn (Nat.le_of_ble_eq_true rfl)) rfl rfl (Nat.le_of_ble_eq_true rfl) (q := 126) rfl (fun v19 J18 => ?_)
  refine e_ifne C (tgt := 133) (q := 129) dX7_hitBy_126 rfl rfl ?_ ?_
  · refine e_iconst C dX7_hitBy_133 ic_0 (q := 134) rfl ?_
    exact e_ireturn C dX7_hitBy_134 hret rfl
  · refine e_iconst C dX7_hitBy_129 ic_1 (q := 130) rfl ?_
    refine e_goto C (tgt := 134) dX7_hitBy_130 rfl ?_
    exact e_ireturn C dX7_hitBy_134 hret rfl
