/-! WALKS, written by program (wip/gen) -/
set_option maxHeartbeats 4000000 in
set_option maxRecDepth 100000 in
theorem xb_X7_feed_b125 {l : Launch} {κ : Kx} {ω : Om} {a1 : Int32} {a2 : Int32} {a3 : Int32} {a4 : Int32} {a5 : Int32} {a6 : Int32} (C : CX κ ω cX7_feed 8 3 yX7_feed.cls) (hlau : κ.2.1 = l) (hret : κ.2.2.2.2.2.2.2.2.1.sig.returnType = (some .int)) (hn : 75 ≤ oN ω)  {K68 : Int32 → Mem → Option (Int32 × Mem)} (hK68 : ∀ (x7 : Int32) (J : Mem), EE κ ω 8 (Gi κ ω) (K68 x7 J) J 68 [(7, .int x7), (0, .ref (oA ω 56)), (1, .int a1), (2, .int a2), (3, .int a3), (4, .int a4), (5, .int a5), (6, .int a6)] []) : ∀ (x7 : Int32) (s0 : Int32) (s1 : Int32) (I : Mem), EE κ ω 8 (Gi κ ω) (f_X7_feed_b125 a1 a2 a3 a4 a5 a6 K68 x7 s0 s1 I) I 125 [(7, .int x7), (0, .ref (oA ω 56)), (1, .int a1), (2, .int a2), (3, .int a3), (4, .int a4), (5, .int a5), (6, .int a6)] [.int s0, .int s1, .ref (oA ω 61)] := by
  intro x7 s0 s1 I
  unfold f_X7_feed_b125
  refine e_iast C (k := 61) (n := 160) dX7_feed_125 (ltL hn (Nat.le_of_ble_eq_true rfl)) (fun _ => rfl) (q := 126) rfl ?_
  refine e_nmM (fun J13 => ?_)
  refine e_aload_n C dX7_feed_126 rfl 1 rfl (q := 127) rfl ?_
  refine e_dup C dX7_feed_127 rfl (q := 128) rfl ?_
  refine e_getf C (k := 56) (j := 7) (T := TX7) (N := 32) (v := .int (J13 56 7)) dX7_feed_128 (ltL hn (Nat.le_of_ble_eq_true rfl)) rfl rfl (by decide) in_X7 w_769 rfl (q := 131) rfl ?_
  refine e_iconst C dX7_feed_131 ic_1 (q := 132) rfl ?_
  refine e_iadd C dX7_feed_132 (q := 133) rfl ?_
  refine e_putf C (k := 56) (j := 7) (T := TX7) (N := 32) dX7_feed_133 (ltL hn (Nat.le_of_ble_eq_true rfl)) rfl rfl (by decide) in_X7 w_769 tyX7_ok nmX7 rfl rfl rfl (show 7 < 32 by decide) (set_Mo_7_ _) (q := 136) rfl ?_
  refine e_nmM (fun J14 => ?_)
  refine e_iinc C (v := x7 + (1 : Int32)) (lv1 := [(7, .int (x7 + (1 : Int32))), (0, .ref (oA ω 56)), (1, .int a1), (2, .int a2), (3, .int a3), (4, .int a4), (5, .int a5), (6, .int a6)]) dX7_feed_136 0 rfl (Nat.le_of_ble_eq_true rfl) (by rw [ic_1]) rfl (q := 139) rfl ?_
  refine e_goto C (tgt := 68) dX7_feed_139 rfl ?_
  exact hK68 (x7 + (1 : Int32)) _
set_option maxHeartbeats 4000000 in
set_option maxRecDepth 100000 in
theorem xb_X7_feed_b68 {l : Launch} {κ : Kx} {ω : Om} {a1 : Int32} {a2 : Int32} {a3 : Int32} {a4 : Int32} {a5 : Int32} {a6 : Int32} (C : CX κ ω cX7_feed 8 3 yX7_feed.cls) (hlau : κ.2.1 = l) (hret : κ.2.2.2.2.2.2.2.2.1.sig.returnType = (some .int)) (hn : 75 ≤ oN ω)  : ∀ (n : Nat) (x7 : Int32) (I : Mem), EE κ ω 8 (Gi κ ω) (f_X7_feed_b68 a1 a2 a3 a4 a5 a6 n x7 I) I 68 [(7, .int x7), (0, .ref (oA ω 56)), (1, .int a1), (2, .int a2), (3, .int a3), (4, .int a4), (5, .int a5), (6, .int a6)] [] := by
  intro n
  induction n with
  | zero => intro x7 I; exact e_none
  | succ n ih =>
    intro x7 I
    rw [f_X7_feed_b68]
    refine e_iload C dX7_feed_68 0 rfl (q := 70) rfl ?_
    refine e_iload_n C dX7_feed_70 rfl 2 rfl (q := 71) rfl ?_
    refine e_icmpge C (tgt := 142) (q := 74) dX7_feed_71 rfl rfl ?_ ?_
    · refine e_aload_n C dX7_feed_142 rfl 1 rfl (q := 143) rfl ?_
      refine e_getf C (k := 56) (j := 7) (T := TX7) (N := 32) (v := .int (I 56 7)) dX7_feed_143 (ltL hn (Nat.le_of_ble_eq_true rfl)) rfl rfl (by decide) in_X7 w_769 rfl (q := 146) rfl ?_
      exact e_ireturn C dX7_feed_146 hret rfl
    · refine e_aload_n C dX7_feed_74 rfl 1 rfl (q := 75) rfl ?_
      refine e_getf C (k := 56) (j := 6) (T := TX7) (N := 32) (v := .ref (oA ω 61)) dX7_feed_75 (ltL hn (Nat.le_of_ble_eq_true rfl)) rfl rfl (by decide) in_X7 w_768 rfl (q := 78) rfl ?_
      refine e_aload_n C dX7_feed_78 rfl 1 rfl (q := 79) rfl ?_
      refine e_getf C (k := 56) (j := 7) (T := TX7) (N := 32) (v := .int (I 56 7)) dX7_feed_79 (ltL hn (Nat.le_of_ble_eq_true rfl)) rfl rfl (by decide) in_X7 w_769 rfl (q := 82) rfl ?_
      refine e_iload C dX7_feed_82 0 rfl (q := 84) rfl ?_
      refine e_ifne C (tgt := 91) (q := 87) dX7_feed_84 rfl rfl ?_ ?_
      · refine e_iload C dX7_feed_91 0 rfl (q := 93) rfl ?_
        refine e_iconst C dX7_feed_93 ic_1 (q := 94) rfl ?_
        refine e_icmpne C (tgt := 101) (q := 97) dX7_feed_94 rfl rfl ?_ ?_
        · refine e_iload C dX7_feed_101 0 rfl (q := 103) rfl ?_
          refine e_iconst C dX7_feed_103 ic_2 (q := 104) rfl ?_
          refine e_icmpne C (tgt := 112) (q := 107) dX7_feed_104 rfl rfl ?_ ?_
          · refine e_iload C dX7_feed_112 0 rfl (q := 114) rfl ?_
            refine e_iconst C dX7_feed_114 ic_3 (q := 115) rfl ?_
            refine e_icmpne C (tgt := 123) (q := 118) dX7_feed_115 rfl rfl ?_ ?_
            · refine e_iload C dX7_feed_123 7 rfl (q := 125) rfl ?_
              exact xb_X7_feed_b125 C hlau hret hn ih x7 a6 (I 56 7) _
            · refine e_iload C dX7_feed_118 6 rfl (q := 120) rfl ?_
              refine e_goto C (tgt := 125) dX7_feed_120 rfl ?_
              exact xb_X7_feed_b125 C hlau hret hn ih x7 a5 (I 56 7) _
          · refine e_iload C dX7_feed_107 5 rfl (q := 109) rfl ?_
            refine e_goto C (tgt := 125) dX7_feed_109 rfl ?_
            exact xb_X7_feed_b125 C hlau hret hn ih x7 a4 (I 56 7) _
        · refine e_iload_n C dX7_feed_97 rfl 4 rfl (q := 98) rfl ?_
          refine e_goto C (tgt := 125) dX7_feed_98 rfl ?_
          exact xb_X7_feed_b125 C hlau hret hn ih x7 a3 (I 56 7) _
      · refine e_iload_n C dX7_feed_87 rfl 3 rfl (q := 88) rfl ?_
        refine e_goto C (tgt := 125) dX7_feed_88 rfl ?_
        exact xb_X7_feed_b125 C hlau hret hn ih x7 a2 (I 56 7) _
set_option maxHeartbeats 4000000 in
set_option maxRecDepth 100000 in
theorem x_X7_feed {l : Launch} {ω : Om} {a1 : Int32} {a2 : Int32} {a3 : Int32} {a4 : Int32} {a5 : Int32} {a6 : Int32} (hn : 75 ≤ oN ω)  {I : Mem} : CTi l ω yX7_feed cX7_feed 8 (some .int) 3 [.ref (oA ω 56), .int a1, .int a2, .int a3, .int a4, .int a5, .int a6] (f_X7_feed a1 a2 a3 a4 a5 a6 I) I := by
  refine ct_i (by decide) (Nat.le_of_ble_eq_true rfl) ?_
  intro κ hlau hret C
  refine e_lv [0, 1, 2, 3, 4, 5, 6] (lv1 := [(0, .ref (oA ω 56)), (1, .int a1), (2, .int a2), (3, .int a3), (4, .int a4), (5, .int a5), (6, .int a6)]) rfl ?_
  unfold f_X7_feed
  refine e_iload_n C dX7_feed_0 rfl 1 rfl (q := 1) rfl ?_
  refine e_iconst C dX7_feed_1 ic_1 (q := 2) rfl ?_
  refine e_iconst C dX7_feed_2 ic_5 (q := 3) rfl ?_
  refine e_callSi C (l := l) (av := [.int a1, .int (1 : Int32), .int (5 : Int32)]) (st := []) hlau (x_X7_in (l := l) (ω := ω) (a0 := a1) (a1 := (1 : Int32)) (a2 := (5 : Int32)) hn (I := I)) dX7_feed_3 w_723 w_724 w_67 w_725 md_X7_in (by decide) (by decide) rfl (Nat.le_of_ble_eq_true rfl) (q := 6) rfl (fun v2 J1 => ?_)
  refine e_ifeq C (tgt := 47) (q := 9) dX7_feed_6 rfl rfl ?_ ?_
  · refine e_bipush C dX7_feed_47 b8_m2 (q := 49) rfl ?_
    exact e_ireturn C dX7_feed_49 hret rfl
  · refine e_iload_n C dX7_feed_9 rfl 2 rfl (q := 10) rfl ?_
    refine e_callSi C (l := l) (av := [.int a2]) (st := []) hlau (x_X7_isByte (l := l) (ω := ω) (a0 := a2) hn (I := J1)) dX7_feed_10 w_878 w_879 w_67 w_880 md_X7_isByte (by decide) (by decide) rfl (Nat.le_of_ble_eq_true rfl) (q := 13) rfl (fun v4 J3 => ?_)
    refine e_ifeq C (tgt := 47) (q := 16) dX7_feed_13 rfl rfl ?_ ?_
    · refine e_bipush C dX7_feed_47 b8_m2 (q := 49) rfl ?_
      exact e_ireturn C dX7_feed_49 hret rfl
    · refine e_iload_n C dX7_feed_16 rfl 3 rfl (q := 17) rfl ?_
      refine e_callSi C (l := l) (av := [.int a3]) (st := []) hlau (x_X7_isByte (l := l) (ω := ω) (a0 := a3) hn (I := J3)) dX7_feed_17 w_878 w_879 w_67 w_880 md_X7_isByte (by decide) (by decide) rfl (Nat.le_of_ble_eq_true rfl) (q := 20) rfl (fun v6 J5 => ?_)
      refine e_ifeq C (tgt := 47) (q := 23) dX7_feed_20 rfl rfl ?_ ?_
      · refine e_bipush C dX7_feed_47 b8_m2 (q := 49) rfl ?_
        exact e_ireturn C dX7_feed_49 hret rfl
      · refine e_iload C dX7_feed_23 4 rfl (q := 25) rfl ?_
        refine e_callSi C (l := l) (av := [.int a4]) (st := []) hlau (x_X7_isByte (l := l) (ω := ω) (a0 := a4) hn (I := J5)) dX7_feed_25 w_878 w_879 w_67 w_880 md_X7_isByte (by decide) (by decide) rfl (Nat.le_of_ble_eq_true rfl) (q := 28) rfl (fun v8 J7 => ?_)
        refine e_ifeq C (tgt := 47) (q := 31) dX7_feed_28 rfl rfl ?_ ?_
        · refine e_bipush C dX7_feed_47 b8_m2 (q := 49) rfl ?_
          exact e_ireturn C dX7_feed_49 hret rfl
        · refine e_iload C dX7_feed_31 5 rfl (q := 33) rfl ?_
          refine e_callSi C (l := l) (av := [.int a5]) (st := []) hlau (x_X7_isByte (l := l) (ω := ω) (a0 := a5) hn (I := J7)) dX7_feed_33 w_878 w_879 w_67 w_880 md_X7_isByte (by decide) (by decide) rfl (Nat.le_of_ble_eq_true rfl) (q := 36) rfl (fun v10 J9 => ?_)
          refine e_ifeq C (tgt := 47) (q := 39) dX7_feed_36 rfl rfl ?_ ?_
          · refine e_bipush C dX7_feed_47 b8_m2 (q := 49) rfl ?_
            exact e_ireturn C dX7_feed_49 hret rfl
          · refine e_iload C dX7_feed_39 6 rfl (q := 41) rfl ?_
            refine e_callSi C (l := l) (av := [.int a6]) (st := []) hlau (x_X7_isByte (l := l) (ω := ω) (a0 := a6) hn (I := J9)) dX7_feed_41 w_878 w_879 w_67 w_880 md_X7_isByte (by decide) (by decide) rfl (Nat.le_of_ble_eq_true rfl) (q := 44) rfl (fun v12 J11 => ?_)
            refine e_ifne C (tgt := 50) (q := 47) dX7_feed_44 rfl rfl ?_ ?_
            · refine e_aload_n C dX7_feed_50 rfl 0 rfl (q := 51) rfl ?_
              refine e_getf C (k := 56) (j := 7) (T := TX7) (N := 32) (v := .int (J11 56 7)) dX7_feed_51 (ltL hn (Nat.le_of_ble_eq_true rfl)) rfl rfl (by decide) in_X7 w_769 rfl (q := 54) rfl ?_
              refine e_iload_n C dX7_feed_54 rfl 1 rfl (q := 55) rfl ?_
              refine e_iadd C dX7_feed_55 (q := 56) rfl ?_
              refine e_sipush C dX7_feed_56 b16_160 (q := 59) rfl ?_
              refine e_icmple C (tgt := 65) (q := 62) dX7_feed_59 rfl rfl ?_ ?_
              · refine e_iconst C dX7_feed_65 ic_0 (q := 66) rfl ?_
                refine e_istore C (lv1 := [(7, .int (0 : Int32)), (0, .ref (oA ω 56)), (1, .int a1), (2, .int a2), (3, .int a3), (4, .int a4), (5, .int a5), (6, .int a6)]) dX7_feed_66 (Nat.le_of_ble_eq_true rfl) rfl (q := 68) rfl ?_
                exact xb_X7_feed_b68 C hlau hret hn FU (0 : Int32) _
              · refine e_bipush C dX7_feed_62 b8_m4 (q := 64) rfl ?_
                exact e_ireturn C dX7_feed_64 hret rfl
            · refine e_bipush C dX7_feed_47 b8_m2 (q := 49) rfl ?_
              exact e_ireturn C dX7_feed_49 hret rfl
set_option maxHeartbeats 4000000 in
set_option maxRecDepth 100000 in
theorem xb_X7_wordFrom_b88 {l : Launch} {κ : Kx} {ω : Om} {a1 : Int32} {a2 : Int32} (C : CX κ ω cX7_wordFrom 6 1 yX7_wordFrom.cls) (hlau : κ.2.1 = l) (hret : κ.2.2.2.2.2.2.2.2.1.sig.returnType = (some .int)) (hn : 75 ≤ oN ω)  {K2 : Int32 → Mem → Option (Int32 × Mem)} (hK2 : ∀ (x3 : Int32) (J : Mem), EE κ ω 6 (Gi κ ω) (K2 x3 J) J 2 [(3, .int x3), (0, .ref (oA ω 56)), (1, .int a1), (2, .int a2)] []) : ∀ (x4 : Int32) (x3 : Int32) (I : Mem), EE κ ω 6 (Gi κ ω) (f_X7_wordFrom_b88 a1 a2 K2 x4 x3 I) I 88 [(4, .int x4), (3, .int x3), (0, .ref (oA ω 56)), (1, .int a1), (2, .int a2)] [] := by
  intro x4 x3 I
  unfold f_X7_wordFrom_b88
  refine e_iload C dX7_wordFrom_88 0 rfl (q := 90) rfl ?_
  refine e_ifeq C (tgt := 95) (q := 93) dX7_wordFrom_90 rfl rfl ?_ ?_
  · refine e_iinc C (v := x3 + (1 : Int32)) (lv1 := [(3, .int (x3 + (1 : Int32))), (4, .int x4), (0, .ref (oA ω 56)), (1, .int a1), (2, .int a2)]) dX7_wordFrom_95 1 rfl (Nat.le_of_ble_eq_true rfl) (by rw [ic_1]) rfl (q := 98) rfl ?_
    refine e_goto C (tgt := 2) dX7_wordFrom_98 rfl ?_
    exact e_lv [0, 2, 3, 4] (lv1 := [(3, .int (x3 + (1 : Int32))), (0, .ref (oA ω 56)), (1, .int a1), (2, .int a2)]) rfl (hK2 (x3 + (1 : Int32)) _)
  · refine e_iload_n C dX7_wordFrom_93 rfl 1 rfl (q := 94) rfl ?_
    exact e_ireturn C dX7_wordFrom_94 hret rfl
set_option maxHeartbeats 4000000 in
set_option maxRecDepth 100000 in
theorem xb_X7_wordFrom_b80 {l : Launch} {κ : Kx} {ω : Om} {a1 : Int32} {a2 : Int32} (C : CX κ ω cX7_wordFrom 6 1 yX7_wordFrom.cls) (hlau : κ.2.1 = l) (hret : κ.2.2.2.2.2.2.2.2.1.sig.returnType = (some .int)) (hn : 75 ≤ oN ω)  {K2 : Int32 → Mem → Option (Int32 × Mem)} (hK2 : ∀ (x3 : Int32) (J : Mem), EE κ ω 6 (Gi κ ω) (K2 x3 J) J 2 [(3, .int x3), (0, .ref (oA ω 56)), (1, .int a1), (2, .int a2)] []) {K26 : Int32 → Int32 → Int32 → Mem → Option (Int32 × Mem)} (hK26 : ∀ (x5 : Int32) (x4 : Int32) (x3 : Int32) (J : Mem), EE κ ω 6 (Gi κ ω) (K26 x5 x4 x3 J) J 26 [(5, .int x5), (4, .int x4), (3, .int x3), (0, .ref (oA ω 56)), (1, .int a1), (2, .int a2)] []) : ∀ (x5 : Int32) (x3 : Int32) (s0 : Int32) (I : Mem), EE κ ω 6 (Gi κ ω) (f_X7_wordFrom_b80 a1 a2 K2 K26 x5 x3 s0 I) I 80 [(5, .int x5), (3, .int x3), (0, .ref (oA ω 56)), (1, .int a1), (2, .int a2)] [.int s0] := by
  intro x5 x3 s0 I
  unfold f_X7_wordFrom_b80
  refine e_istore C (lv1 := [(4, .int s0), (5, .int x5), (3, .int x3), (0, .ref (oA ω 56)), (1, .int a1), (2, .int a2)]) dX7_wordFrom_80 (Nat.le_of_ble_eq_true rfl) rfl (q := 82) rfl ?_
  refine e_iinc C (v := x5 + (1 : Int32)) (lv1 := [(5, .int (x5 + (1 : Int32))), (4, .int s0), (3, .int x3), (0, .ref (oA ω 56)), (1, .int a1), (2, .int a2)]) dX7_wordFrom_82 1 rfl (Nat.le_of_ble_eq_true rfl) (by rw [ic_1]) rfl (q := 85) rfl ?_
  refine e_goto C (tgt := 26) dX7_wordFrom_85 rfl ?_
  exact hK26 (x5 + (1 : Int32)) s0 x3 _
set_option maxHeartbeats 4000000 in
set_option maxRecDepth 100000 in
theorem xb_X7_wordFrom_b72 {l : Launch} {κ : Kx} {ω : Om} {a1 : Int32} {a2 : Int32} (C : CX κ ω cX7_wordFrom 6 1 yX7_wordFrom.cls) (hlau : κ.2.1 = l) (hret : κ.2.2.2.2.2.2.2.2.1.sig.returnType = (some .int)) (hn : 75 ≤ oN ω)  {K2 : Int32 → Mem → Option (Int32 × Mem)} (hK2 : ∀ (x3 : Int32) (J : Mem), EE κ ω 6 (Gi κ ω) (K2 x3 J) J 2 [(3, .int x3), (0, .ref (oA ω 56)), (1, .int a1), (2, .int a2)] []) {K26 : Int32 → Int32 → Int32 → Mem → Option (Int32 × Mem)} (hK26 : ∀ (x5 : Int32) (x4 : Int32) (x3 : Int32) (J : Mem), EE κ ω 6 (Gi κ ω) (K26 x5 x4 x3 J) J 26 [(5, .int x5), (4, .int x4), (3, .int x3), (0, .ref (oA ω 56)), (1, .int a1), (2, .int a2)] []) : ∀ (x5 : Int32) (x3 : Int32) (s0 : Int32) (s1 : Int32) (I : Mem), EE κ ω 6 (Gi κ ω) (f_X7_wordFrom_b72 a1 a2 K2 K26 x5 x3 s0 s1 I) I 72 [(5, .int x5), (3, .int x3), (0, .ref (oA ω 56)), (1, .int a1), (2, .int a2)] [.int s0, .int s1] := by
  intro x5 x3 s0 s1 I
  unfold f_X7_wordFrom_b72
  refine e_icmpne C (tgt := 79) (q := 75) dX7_wordFrom_72 rfl rfl ?_ ?_
  · refine e_iconst C dX7_wordFrom_79 ic_0 (q := 80) rfl ?_
    exact xb_X7_wordFrom_b80 C hlau hret hn hK2 hK26 x5 x3 (0 : Int32) _
  · refine e_iconst C dX7_wordFrom_75 ic_1 (q := 76) rfl ?_
    refine e_goto C (tgt := 80) dX7_wordFrom_76 rfl ?_
    exact xb_X7_wordFrom_b80 C hlau hret hn hK2 hK26 x5 x3 (1 : Int32) _
set_option maxHeartbeats 4000000 in
set_option maxRecDepth 100000 in
theorem xb_X7_wordFrom_b26 {l : Launch} {κ : Kx} {ω : Om} {a1 : Int32} {a2 : Int32} (C : CX κ ω cX7_wordFrom 6 1 yX7_wordFrom.cls) (hlau : κ.2.1 = l) (hret : κ.2.2.2.2.2.2.2.2.1.sig.returnType = (some .int)) (hn : 75 ≤ oN ω)  {K2 : Int32 → Mem → Option (Int32 × Mem)} (hK2 : ∀ (x3 : Int32) (J : Mem), EE κ ω 6 (Gi κ ω) (K2 x3 J) J 2 [(3, .int x3), (0, .ref (oA ω 56)), (1, .int a1), (2, .int a2)] []) : ∀ (n : Nat) (x5 : Int32) (x4 : Int32) (x3 : Int32) (I : Mem), EE κ ω 6 (Gi κ ω) (f_X7_wordFrom_b26 a1 a2 K2 n x5 x4 x3 I) I 26 [(5, .int x5), (4, .int x4), (3, .int x3), (0, .ref (oA ω 56)), (1, .int a1), (2, .int a2)] [] := by
  intro n
  induction n with
  | zero => intro x5 x4 x3 I; exact e_none
  | succ n ih =>
    intro x5 x4 x3 I
    rw [f_X7_wordFrom_b26]
    refine e_iload C dX7_wordFrom_26 0 rfl (q := 28) rfl ?_
    refine e_bipush C dX7_wordFrom_28 b8_8 (q := 30) rfl ?_
    refine e_icmpge C (tgt := 88) (q := 33) dX7_wordFrom_30 rfl rfl ?_ ?_
    · exact e_lv [1, 2, 3, 4, 5] (lv1 := [(4, .int x4), (3, .int x3), (0, .ref (oA ω 56)), (1, .int a1), (2, .int a2)]) rfl (xb_X7_wordFrom_b88 C hlau hret hn hK2 x4 x3 _)
    · refine e_iload C dX7_wordFrom_33 1 rfl (q := 35) rfl ?_
      refine e_ifeq C (tgt := 88) (q := 38) dX7_wordFrom_35 rfl rfl ?_ ?_
      · exact e_lv [1, 2, 3, 4, 5] (lv1 := [(4, .int x4), (3, .int x3), (0, .ref (oA ω 56)), (1, .int a1), (2, .int a2)]) rfl (xb_X7_wordFrom_b88 C hlau hret hn hK2 x4 x3 _)
      · refine e_aload_n C dX7_wordFrom_38 rfl 3 rfl (q := 39) rfl ?_
        refine e_getf C (k := 56) (j := 23) (T := TX7) (N := 32) (v := .ref (oA ω 70)) dX7_wordFrom_39 (ltL hn (Nat.le_of_ble_eq_true rfl)) rfl rfl (by decide) in_X7 w_785 rfl (q := 42) rfl ?_
        refine e_bipush C dX7_wordFrom_42 b8_8 (q := 44) rfl ?_
        refine e_iload_n C dX7_wordFrom_44 rfl 2 rfl (q := 45) rfl ?_
        refine e_imul C dX7_wordFrom_45 (q := 46) rfl ?_
        refine e_iload C dX7_wordFrom_46 0 rfl (q := 48) rfl ?_
        refine e_iadd C dX7_wordFrom_48 (q := 49) rfl ?_
        refine e_iald C (k := 70) (n := 96) dX7_wordFrom_49 (ltL hn (Nat.le_of_ble_eq_true rfl)) rfl (q := 50) rfl ?_
        refine e_iload_n C dX7_wordFrom_50 rfl 4 rfl (q := 51) rfl ?_
        refine e_iload C dX7_wordFrom_51 0 rfl (q := 53) rfl ?_
        refine e_iadd C dX7_wordFrom_53 (q := 54) rfl ?_
        refine e_iload_n C dX7_wordFrom_54 rfl 5 rfl (q := 55) rfl ?_
        refine e_icmpge C (tgt := 70) (q := 58) dX7_wordFrom_55 rfl rfl ?_ ?_
        · refine e_bipush C dX7_wordFrom_70 b8_32 (q := 72) rfl ?_
          exact e_lv [0, 2, 3, 4, 5] (lv1 := [(5, .int x5), (3, .int x3), (0, .ref (oA ω 56)), (1, .int a1), (2, .int a2)]) rfl (xb_X7_wordFrom_b72 C hlau hret hn hK2 ih x5 x3 (32 : Int32) (I 70 (((8 : Int32) * x3) + x5).toNatClampNeg) _)
        · refine e_aload_n C dX7_wordFrom_58 rfl 3 rfl (q := 59) rfl ?_
          refine e_getf C (k := 56) (j := 6) (T := TX7) (N := 32) (v := .ref (oA ω 61)) dX7_wordFrom_59 (ltL hn (Nat.le_of_ble_eq_true rfl)) rfl rfl (by decide) in_X7 w_768 rfl (q := 62) rfl ?_
          refine e_iload_n C dX7_wordFrom_62 rfl 4 rfl (q := 63) rfl ?_
          refine e_iload C dX7_wordFrom_63 0 rfl (q := 65) rfl ?_
          refine e_iadd C dX7_wordFrom_65 (q := 66) rfl ?_
          refine e_iald C (k := 61) (n := 160) dX7_wordFrom_66 (ltL hn (Nat.le_of_ble_eq_true rfl)) rfl (q := 67) rfl ?_
          refine e_goto C (tgt := 72) dX7_wordFrom_67 rfl ?_
          exact e_lv [0, 2, 3, 4, 5] (lv1 := [(5, .int x5), (3, .int x3), (0, .ref (oA ω 56)), (1, .int a1), (2, .int a2)]) rfl (xb_X7_wordFrom_b72 C hlau hret hn hK2 ih x5 x3 (I 61 (a1 + x5).toNatClampNeg) (I 70 (((8 : Int32) * x3) + x5).toNatClampNeg) _)
set_option maxHeartbeats 4000000 in
set_option maxRecDepth 100000 in
theorem xb_X7_wordFrom_b21 {l : Launch} {κ : Kx} {ω : Om} {a1 : Int32} {a2 : Int32} (C : CX κ ω cX7_wordFrom 6 1 yX7_wordFrom.cls) (hlau : κ.2.1 = l) (hret : κ.2.2.2.2.2.2.2.2.1.sig.returnType = (some .int)) (hn : 75 ≤ oN ω)  {K2 : Int32 → Mem → Option (Int32 × Mem)} (hK2 : ∀ (x3 : Int32) (J : Mem), EE κ ω 6 (Gi κ ω) (K2 x3 J) J 2 [(3, .int x3), (0, .ref (oA ω 56)), (1, .int a1), (2, .int a2)] []) : ∀ (x3 : Int32) (s0 : Int32) (I : Mem), EE κ ω 6 (Gi κ ω) (f_X7_wordFrom_b21 a1 a2 K2 x3 s0 I) I 21 [(3, .int x3), (0, .ref (oA ω 56)), (1, .int a1), (2, .int a2)] [.int s0] := by
  intro x3 s0 I
  unfold f_X7_wordFrom_b21
  refine e_istore C (lv1 := [(4, .int s0), (3, .int x3), (0, .ref (oA ω 56)), (1, .int a1), (2, .int a2)]) dX7_wordFrom_21 (Nat.le_of_ble_eq_true rfl) rfl (q := 23) rfl ?_
  refine e_iconst C dX7_wordFrom_23 ic_0 (q := 24) rfl ?_
  refine e_istore C (lv1 := [(5, .int (0 : Int32)), (4, .int s0), (3, .int x3), (0, .ref (oA ω 56)), (1, .int a1), (2, .int a2)]) dX7_wordFrom_24 (Nat.le_of_ble_eq_true rfl) rfl (q := 26) rfl ?_
  exact xb_X7_wordFrom_b26 C hlau hret hn hK2 FU (0 : Int32) s0 x3 _
set_option maxHeartbeats 4000000 in
set_option maxRecDepth 100000 in
theorem xb_X7_wordFrom_b2 {l : Launch} {κ : Kx} {ω : Om} {a1 : Int32} {a2 : Int32} (C : CX κ ω cX7_wordFrom 6 1 yX7_wordFrom.cls) (hlau : κ.2.1 = l) (hret : κ.2.2.2.2.2.2.2.2.1.sig.returnType = (some .int)) (hn : 75 ≤ oN ω)  : ∀ (n : Nat) (x3 : Int32) (I : Mem), EE κ ω 6 (Gi κ ω) (f_X7_wordFrom_b2 a1 a2 n x3 I) I 2 [(3, .int x3), (0, .ref (oA ω 56)), (1, .int a1), (2, .int a2)] [] := by
  intro n
  induction n with
  | zero => intro x3 I; exact e_none
  | succ n ih =>
    intro x3 I
    rw [f_X7_wordFrom_b2]
    refine e_iload_n C dX7_wordFrom_2 rfl 0 rfl (q := 3) rfl ?_
    refine e_bipush C dX7_wordFrom_3 b8_12 (q := 5) rfl ?_
    refine e_icmpge C (tgt := 101) (q := 8) dX7_wordFrom_5 rfl rfl ?_ ?_
    · refine e_bipush C dX7_wordFrom_101 b8_12 (q := 103) rfl ?_
      exact e_ireturn C dX7_wordFrom_103 hret rfl
    · refine e_iload_n C dX7_wordFrom_8 rfl 3 rfl (q := 9) rfl ?_
      refine e_iload_n C dX7_wordFrom_9 rfl 2 rfl (q := 10) rfl ?_
      refine e_isub C dX7_wordFrom_10 (q := 11) rfl ?_
      refine e_bipush C dX7_wordFrom_11 b8_8 (q := 13) rfl ?_
      refine e_icmpgt C (tgt := 20) (q := 16) dX7_wordFrom_13 rfl rfl ?_ ?_
      · refine e_iconst C dX7_wordFrom_20 ic_0 (q := 21) rfl ?_
        exact xb_X7_wordFrom_b21 C hlau hret hn ih x3 (0 : Int32) _
      · refine e_iconst C dX7_wordFrom_16 ic_1 (q := 17) rfl ?_
        refine e_goto C (tgt := 21) dX7_wordFrom_17 rfl ?_
        exact xb_X7_wordFrom_b21 C hlau hret hn ih x3 (1 : Int32) _
set_option maxHeartbeats 4000000 in
set_option maxRecDepth 100000 in
theorem x_X7_wordFrom {l : Launch} {ω : Om} {a1 : Int32} {a2 : Int32} (hn : 75 ≤ oN ω)  {I : Mem} : CTi l ω yX7_wordFrom cX7_wordFrom 6 (some .int) 1 [.ref (oA ω 56), .int a1, .int a2] (f_X7_wordFrom a1 a2 I) I := by
  refine ct_i (by decide) (Nat.le_of_ble_eq_true rfl) ?_
  intro κ hlau hret C
  refine e_lv [0, 1, 2] (lv1 := [(0, .ref (oA ω 56)), (1, .int a1), (2, .int a2)]) rfl ?_
  unfold f_X7_wordFrom
  refine e_iconst C dX7_wordFrom_0 ic_0 (q := 1) rfl ?_
  refine e_istore_n C (lv1 := [(3, .int (0 : Int32)), (0, .ref (oA ω 56)), (1, .int a1), (2, .int a2)]) dX7_wordFrom_1 rfl (Nat.le_of_ble_eq_true rfl) rfl (q := 2) rfl ?_
  exact xb_X7_wordFrom_b2 C hlau hret hn FU (0 : Int32) _
set_option maxHeartbeats 4000000 in
set_option maxRecDepth 100000 in
theorem xb_X7_next_b390 {l : Launch} {κ : Kx} {ω : Om}  (C : CX κ ω cX7_next 3 2 yX7_next.cls) (hlau : κ.2.1 = l) (hret : κ.2.2.2.2.2.2.2.2.1.sig.returnType = none) (hn : 75 ≤ oN ω)  : ∀ (s0 : Int32) (I : Mem), EE κ ω 3 (Gv κ ω) (f_X7_next_b390 s0 I) I 390 [(0, .ref (oA ω 56))] [.int s0, .ref (oA ω 56)] := by
  intro s0 I
  unfold f_X7_next_b390
  refine e_putf C (k := 56) (j := 21) (T := TX7) (N := 32) dX7_next_390 (ltL hn (Nat.le_of_ble_eq_true rfl)) rfl rfl (by decide) in_X7 w_783 tyX7_ok nmX7 rfl rfl rfl (show 21 < 32 by decide) (set_Mo_21_ _) (q := 393) rfl ?_
  refine e_nmM (fun J9 => ?_)
  refine e_aload_n C dX7_next_393 rfl 0 rfl (q := 394) rfl ?_
  refine e_dup C dX7_next_394 rfl (q := 395) rfl ?_
  refine e_getf C (k := 56) (j := 19) (T := TX7) (N := 32) (v := .int (J9 56 19)) dX7_next_395 (ltL hn (Nat.le_of_ble_eq_true rfl)) rfl rfl (by decide) in_X7 w_781 rfl (q := 398) rfl ?_
  refine e_iconst C dX7_next_398 ic_1 (q := 399) rfl ?_
  refine e_iadd C dX7_next_399 (q := 400) rfl ?_
  refine e_putf C (k := 56) (j := 19) (T := TX7) (N := 32) dX7_next_400 (ltL hn (Nat.le_of_ble_eq_true rfl)) rfl rfl (by decide) in_X7 w_781 tyX7_ok nmX7 rfl rfl rfl (show 19 < 32 by decide) (set_Mo_19_ _) (q := 403) rfl ?_
  refine e_nmM (fun J10 => ?_)
  exact e_vreturn C dX7_next_403 hret
set_option maxHeartbeats 4000000 in
set_option maxRecDepth 100000 in
theorem xb_X7_next_b379 {l : Launch} {κ : Kx} {ω : Om}  (C : CX κ ω cX7_next 3 2 yX7_next.cls) (hlau : κ.2.1 = l) (hret : κ.2.2.2.2.2.2.2.2.1.sig.returnType = none) (hn : 75 ≤ oN ω)  : ∀ (x1 : Int32) (s0 : Int32) (I : Mem), EE κ ω 3 (Gv κ ω) (f_X7_next_b379 x1 s0 I) I 379 [(1, .int x1), (0, .ref (oA ω 56))] [.int s0] := by
  intro x1 s0 I
  unfold f_X7_next_b379
  refine e_istore_n C (lv1 := [(2, .int s0), (1, .int x1), (0, .ref (oA ω 56))]) dX7_next_379 rfl (Nat.le_of_ble_eq_true rfl) rfl (q := 380) rfl ?_
  refine e_aload_n C dX7_next_380 rfl 2 rfl (q := 381) rfl ?_
  refine e_iload_n C dX7_next_381 rfl 0 rfl (q := 382) rfl ?_
  refine e_ifeq C (tgt := 389) (q := 385) dX7_next_382 rfl rfl ?_ ?_
  · refine e_iconst C dX7_next_389 ic_m1 (q := 390) rfl ?_
    exact e_lv [2] (lv1 := [(0, .ref (oA ω 56))]) rfl (xb_X7_next_b390 C hlau hret hn (-1 : Int32) _)
  · refine e_iload_n C dX7_next_385 rfl 1 rfl (q := 386) rfl ?_
    refine e_goto C (tgt := 390) dX7_next_386 rfl ?_
    exact e_lv [2] (lv1 := [(0, .ref (oA ω 56))]) rfl (xb_X7_next_b390 C hlau hret hn x1 _)
set_option maxHeartbeats 4000000 in
set_option maxRecDepth 100000 in
theorem xb_X7_next_b374 {l : Launch} {κ : Kx} {ω : Om}  (C : CX κ ω cX7_next 3 2 yX7_next.cls) (hlau : κ.2.1 = l) (hret : κ.2.2.2.2.2.2.2.2.1.sig.returnType = none) (hn : 75 ≤ oN ω)  : ∀ (x1 : Int32) (I : Mem), EE κ ω 3 (Gv κ ω) (f_X7_next_b374 x1 I) I 374 [(1, .int x1), (0, .ref (oA ω 56))] [] := by
  intro x1 I
  unfold f_X7_next_b374
  refine e_iconst C dX7_next_374 ic_1 (q := 375) rfl ?_
  refine e_goto C (tgt := 379) dX7_next_375 rfl ?_
  exact xb_X7_next_b379 C hlau hret hn x1 (1 : Int32) _
set_option maxHeartbeats 4000000 in
set_option maxRecDepth 100000 in
theorem xb_X7_next_b320 {l : Launch} {κ : Kx} {ω : Om}  (C : CX κ ω cX7_next 3 2 yX7_next.cls) (hlau : κ.2.1 = l) (hret : κ.2.2.2.2.2.2.2.2.1.sig.returnType = none) (hn : 75 ≤ oN ω)  : ∀ (s0 : Int32) (I : Mem), EE κ ω 3 (Gv κ ω) (f_X7_next_b320 s0 I) I 320 [] [.int s0, .ref (oA ω 56)] := by
  intro s0 I
  unfold f_X7_next_b320
  refine e_putf C (k := 56) (j := 21) (T := TX7) (N := 32) dX7_next_320 (ltL hn (Nat.le_of_ble_eq_true rfl)) rfl rfl (by decide) in_X7 w_783 tyX7_ok nmX7 rfl rfl rfl (show 21 < 32 by decide) (set_Mo_21_ _) (q := 323) rfl ?_
  refine e_nmM (fun J11 => ?_)
  refine e_goto C (tgt := 403) dX7_next_323 rfl ?_
  exact e_vreturn C dX7_next_403 hret
set_option maxHeartbeats 4000000 in
set_option maxRecDepth 100000 in
theorem xb_X7_next_b309 {l : Launch} {κ : Kx} {ω : Om}  (C : CX κ ω cX7_next 3 2 yX7_next.cls) (hlau : κ.2.1 = l) (hret : κ.2.2.2.2.2.2.2.2.1.sig.returnType = none) (hn : 75 ≤ oN ω)  : ∀ (x2 : Int32) (I : Mem), EE κ ω 3 (Gv κ ω) (f_X7_next_b309 x2 I) I 309 [(2, .int x2), (0, .ref (oA ω 56))] [] := by
  intro x2 I
  unfold f_X7_next_b309
  refine e_aload_n C dX7_next_309 rfl 1 rfl (q := 310) rfl ?_
  refine e_iload_n C dX7_next_310 rfl 0 rfl (q := 311) rfl ?_
  refine e_iconst C dX7_next_311 ic_4 (q := 312) rfl ?_
  refine e_icmple C (tgt := 319) (q := 315) dX7_next_312 rfl rfl ?_ ?_
  · refine e_iconst C dX7_next_319 ic_1 (q := 320) rfl ?_
    exact e_lv [] (lv1 := []) rfl (xb_X7_next_b320 C hlau hret hn (1 : Int32) _)
  · refine e_iconst C dX7_next_315 ic_m1 (q := 316) rfl ?_
    refine e_goto C (tgt := 320) dX7_next_316 rfl ?_
    exact e_lv [] (lv1 := []) rfl (xb_X7_next_b320 C hlau hret hn (-1 : Int32) _)
set_option maxHeartbeats 4000000 in
set_option maxRecDepth 100000 in
theorem xb_X7_next_b290 {l : Launch} {κ : Kx} {ω : Om}  (C : CX κ ω cX7_next 3 2 yX7_next.cls) (hlau : κ.2.1 = l) (hret : κ.2.2.2.2.2.2.2.2.1.sig.returnType = none) (hn : 75 ≤ oN ω)  {K230 : Int32 → Mem → Option (Unit × Mem)} (hK230 : ∀ (x2 : Int32) (J : Mem), EE κ ω 3 (Gv κ ω) (K230 x2 J) J 230 [(2, .int x2), (0, .ref (oA ω 56))] []) : ∀ (x2 : Int32) (s0 : Int32) (I : Mem), EE κ ω 3 (Gv κ ω) (f_X7_next_b290 K230 x2 s0 I) I 290 [(2, .int x2), (0, .ref (oA ω 56))] [.int s0, .ref (oA ω 56)] := by
  intro x2 s0 I
  unfold f_X7_next_b290
  refine e_putf C (k := 56) (j := 22) (T := TX7) (N := 32) dX7_next_290 (ltL hn (Nat.le_of_ble_eq_true rfl)) rfl rfl (by decide) in_X7 w_784 tyX7_ok nmX7 rfl rfl rfl (show 22 < 32 by decide) (set_Mo_22_ _) (q := 293) rfl ?_
  refine e_nmM (fun J14 => ?_)
  refine e_iinc C (v := x2 + (1 : Int32)) (lv1 := [(2, .int (x2 + (1 : Int32))), (0, .ref (oA ω 56))]) dX7_next_293 0 rfl (Nat.le_of_ble_eq_true rfl) (by rw [ic_1]) rfl (q := 296) rfl ?_
  refine e_aload_n C dX7_next_296 rfl 1 rfl (q := 297) rfl ?_
  refine e_dup C dX7_next_297 rfl (q := 298) rfl ?_
  refine e_getf C (k := 56) (j := 19) (T := TX7) (N := 32) (v := .int (J14 56 19)) dX7_next_298 (ltL hn (Nat.le_of_ble_eq_true rfl)) rfl rfl (by decide) in_X7 w_781 rfl (q := 301) rfl ?_
  refine e_iconst C dX7_next_301 ic_1 (q := 302) rfl ?_
  refine e_iadd C dX7_next_302 (q := 303) rfl ?_
  refine e_putf C (k := 56) (j := 19) (T := TX7) (N := 32) dX7_next_303 (ltL hn (Nat.le_of_ble_eq_true rfl)) rfl rfl (by decide) in_X7 w_781 tyX7_ok nmX7 rfl rfl rfl (show 19 < 32 by decide) (set_Mo_19_ _) (q := 306) rfl ?_
  refine e_nmM (fun J15 => ?_)
  refine e_goto C (tgt := 230) dX7_next_306 rfl ?_
  exact hK230 (x2 + (1 : Int32)) _
set_option maxHeartbeats 4000000 in
set_option maxRecDepth 100000 in
theorem xb_X7_next_b230 {l : Launch} {κ : Kx} {ω : Om}  (C : CX κ ω cX7_next 3 2 yX7_next.cls) (hlau : κ.2.1 = l) (hret : κ.2.2.2.2.2.2.2.2.1.sig.returnType = none) (hn : 75 ≤ oN ω)  : ∀ (n : Nat) (x2 : Int32) (I : Mem), EE κ ω 3 (Gv κ ω) (f_X7_next_b230 n x2 I) I 230 [(2, .int x2), (0, .ref (oA ω 56))] [] := by
  intro n
  induction n with
  | zero => intro x2 I; exact e_none
  | succ n ih =>
    intro x2 I
    rw [f_X7_next_b230]
    refine e_aload_n C dX7_next_230 rfl 1 rfl (q := 231) rfl ?_
    refine e_getf C (k := 56) (j := 19) (T := TX7) (N := 32) (v := .int (I 56 19)) dX7_next_231 (ltL hn (Nat.le_of_ble_eq_true rfl)) rfl rfl (by decide) in_X7 w_781 rfl (q := 234) rfl ?_
    refine e_aload_n C dX7_next_234 rfl 1 rfl (q := 235) rfl ?_
    refine e_getf C (k := 56) (j := 7) (T := TX7) (N := 32) (v := .int (I 56 7)) dX7_next_235 (ltL hn (Nat.le_of_ble_eq_true rfl)) rfl rfl (by decide) in_X7 w_769 rfl (q := 238) rfl ?_
    refine e_icmpge C (tgt := 309) (q := 241) dX7_next_238 rfl rfl ?_ ?_
    · exact xb_X7_next_b309 C hlau hret hn x2 _
    · refine e_aload_n C dX7_next_241 rfl 1 rfl (q := 242) rfl ?_
      refine e_getf C (k := 56) (j := 6) (T := TX7) (N := 32) (v := .ref (oA ω 61)) dX7_next_242 (ltL hn (Nat.le_of_ble_eq_true rfl)) rfl rfl (by decide) in_X7 w_768 rfl (q := 245) rfl ?_
      refine e_aload_n C dX7_next_245 rfl 1 rfl (q := 246) rfl ?_
      refine e_getf C (k := 56) (j := 19) (T := TX7) (N := 32) (v := .int (I 56 19)) dX7_next_246 (ltL hn (Nat.le_of_ble_eq_true rfl)) rfl rfl (by decide) in_X7 w_781 rfl (q := 249) rfl ?_
      refine e_iald C (k := 61) (n := 160) dX7_next_249 (ltL hn (Nat.le_of_ble_eq_true rfl)) rfl (q := 250) rfl ?_
      refine e_bipush C dX7_next_250 b8_48 (q := 252) rfl ?_
      refine e_bipush C dX7_next_252 b8_57 (q := 254) rfl ?_
      refine e_callSi C (l := l) (av := [.int (I 61 (I 56 19).toNatClampNeg), .int (48 : Int32), .int (57 : Int32)]) (st := []) hlau (x_X7_in (l := l) (ω := ω) (a0 := I 61 (I 56 19).toNatClampNeg) (a1 := (48 : Int32)) (a2 := (57 : Int32)) hn (I := I)) dX7_next_254 w_723 w_724 w_67 w_725 md_X7_in (by decide) (by decide) rfl (Nat.le_of_ble_eq_true rfl) (q := 257) rfl (fun v13 J12 => ?_)
      refine e_ifeq C (tgt := 309) (q := 260) dX7_next_257 rfl rfl ?_ ?_
      · exact xb_X7_next_b309 C hlau hret hn x2 _
      · refine e_aload_n C dX7_next_260 rfl 1 rfl (q := 261) rfl ?_
        refine e_iload_n C dX7_next_261 rfl 0 rfl (q := 262) rfl ?_
        refine e_iconst C dX7_next_262 ic_4 (q := 263) rfl ?_
        refine e_icmpge C (tgt := 289) (q := 266) dX7_next_263 rfl rfl ?_ ?_
        · refine e_iconst C dX7_next_289 ic_0 (q := 290) rfl ?_
          exact xb_X7_next_b290 C hlau hret hn ih x2 (0 : Int32) _
        · refine e_bipush C dX7_next_266 b8_10 (q := 268) rfl ?_
          refine e_aload_n C dX7_next_268 rfl 1 rfl (q := 269) rfl ?_
          refine e_getf C (k := 56) (j := 22) (T := TX7) (N := 32) (v := .int (J12 56 22)) dX7_next_269 (ltL hn (Nat.le_of_ble_eq_true rfl)) rfl rfl (by decide) in_X7 w_784 rfl (q := 272) rfl ?_
          refine e_imul C dX7_next_272 (q := 273) rfl ?_
          refine e_aload_n C dX7_next_273 rfl 1 rfl (q := 274) rfl ?_
          refine e_getf C (k := 56) (j := 6) (T := TX7) (N := 32) (v := .ref (oA ω 61)) dX7_next_274 (ltL hn (Nat.le_of_ble_eq_true rfl)) rfl rfl (by decide) in_X7 w_768 rfl (q := 277) rfl ?_
          refine e_aload_n C dX7_next_277 rfl 1 rfl (q := 278) rfl ?_
          refine e_getf C (k := 56) (j := 19) (T := TX7) (N := 32) (v := .int (J12 56 19)) dX7_next_278 (ltL hn (Nat.le_of_ble_eq_true rfl)) rfl rfl (by decide) in_X7 w_781 rfl (q := 281) rfl ?_
          refine e_iald C (k := 61) (n := 160) dX7_next_281 (ltL hn (Nat.le_of_ble_eq_true rfl)) rfl (q := 282) rfl ?_
          refine e_iadd C dX7_next_282 (q := 283) rfl ?_
          refine e_bipush C dX7_next_283 b8_48 (q := 285) rfl ?_
          refine e_isub C dX7_next_285 (q := 286) rfl ?_
          refine e_goto C (tgt := 290) dX7_next_286 rfl ?_
          exact xb_X7_next_b290 C hlau hret hn ih x2 ((((10 : Int32) * (J12 56 22)) + (J12 61 (J12 56 19).toNatClampNeg)) - (48 : Int32)) _
set_option maxHeartbeats 4000000 in
set_option maxRecDepth 100000 in
theorem xb_X7_next_b211 {l : Launch} {κ : Kx} {ω : Om}  (C : CX κ ω cX7_next 3 2 yX7_next.cls) (hlau : κ.2.1 = l) (hret : κ.2.2.2.2.2.2.2.2.1.sig.returnType = none) (hn : 75 ≤ oN ω)  : ∀ (s0 : Int32) (I : Mem), EE κ ω 3 (Gv κ ω) (f_X7_next_b211 s0 I) I 211 [] [.int s0, .ref (oA ω 56)] := by
  intro s0 I
  unfold f_X7_next_b211
  refine e_putf C (k := 56) (j := 22) (T := TX7) (N := 32) dX7_next_211 (ltL hn (Nat.le_of_ble_eq_true rfl)) rfl rfl (by decide) in_X7 w_784 tyX7_ok nmX7 rfl rfl rfl (show 22 < 32 by decide) (set_Mo_22_ _) (q := 214) rfl ?_
  refine e_nmM (fun J19 => ?_)
  refine e_goto C (tgt := 403) dX7_next_214 rfl ?_
  exact e_vreturn C dX7_next_403 hret
set_option maxHeartbeats 4000000 in
set_option maxRecDepth 100000 in
theorem xb_X7_next_b195 {l : Launch} {κ : Kx} {ω : Om}  (C : CX κ ω cX7_next 3 2 yX7_next.cls) (hlau : κ.2.1 = l) (hret : κ.2.2.2.2.2.2.2.2.1.sig.returnType = none) (hn : 75 ≤ oN ω)  : ∀ (x2 : Int32) (s0 : Int32) (I : Mem), EE κ ω 3 (Gv κ ω) (f_X7_next_b195 x2 s0 I) I 195 [(2, .int x2), (0, .ref (oA ω 56))] [.int s0, .ref (oA ω 56)] := by
  intro x2 s0 I
  unfold f_X7_next_b195
  refine e_putf C (k := 56) (j := 21) (T := TX7) (N := 32) dX7_next_195 (ltL hn (Nat.le_of_ble_eq_true rfl)) rfl rfl (by decide) in_X7 w_783 tyX7_ok nmX7 rfl rfl rfl (show 21 < 32 by decide) (set_Mo_21_ _) (q := 198) rfl ?_
  refine e_nmM (fun J18 => ?_)
  refine e_aload_n C dX7_next_198 rfl 1 rfl (q := 199) rfl ?_
  refine e_iload_n C dX7_next_199 rfl 0 rfl (q := 200) rfl ?_
  refine e_iconst C dX7_next_200 ic_3 (q := 201) rfl ?_
  refine e_icmpge C (tgt := 208) (q := 204) dX7_next_201 rfl rfl ?_ ?_
  · refine e_iload_n C dX7_next_208 rfl 0 rfl (q := 209) rfl ?_
    refine e_iconst C dX7_next_209 ic_3 (q := 210) rfl ?_
    refine e_isub C dX7_next_210 (q := 211) rfl ?_
    exact e_lv [] (lv1 := []) rfl (xb_X7_next_b211 C hlau hret hn (x2 - (3 : Int32)) _)
  · refine e_iload_n C dX7_next_204 rfl 0 rfl (q := 205) rfl ?_
    refine e_goto C (tgt := 211) dX7_next_205 rfl ?_
    exact e_lv [] (lv1 := []) rfl (xb_X7_next_b211 C hlau hret hn x2 _)
set_option maxHeartbeats 4000000 in
set_option maxRecDepth 100000 in
theorem xb_X7_next_b146 {l : Launch} {κ : Kx} {ω : Om}  (C : CX κ ω cX7_next 3 2 yX7_next.cls) (hlau : κ.2.1 = l) (hret : κ.2.2.2.2.2.2.2.2.1.sig.returnType = none) (hn : 75 ≤ oN ω)  : ∀  (I : Mem), EE κ ω 3 (Gv κ ω) (f_X7_next_b146  I) I 146 [(0, .ref (oA ω 56))] [] := by
  intro  I
  unfold f_X7_next_b146
  refine e_aload_n C dX7_next_146 rfl 0 rfl (q := 147) rfl ?_
  refine e_aload_n C dX7_next_147 rfl 0 rfl (q := 148) rfl ?_
  refine e_getf C (k := 56) (j := 20) (T := TX7) (N := 32) (v := .int (I 56 20)) dX7_next_148 (ltL hn (Nat.le_of_ble_eq_true rfl)) rfl rfl (by decide) in_X7 w_782 rfl (q := 151) rfl ?_
  refine e_aload_n C dX7_next_151 rfl 0 rfl (q := 152) rfl ?_
  refine e_getf C (k := 56) (j := 19) (T := TX7) (N := 32) (v := .int (I 56 19)) dX7_next_152 (ltL hn (Nat.le_of_ble_eq_true rfl)) rfl rfl (by decide) in_X7 w_781 rfl (q := 155) rfl ?_
  refine e_callVi C (l := l) (k := 56) (av := [.int (I 56 20), .int (I 56 19)]) (st := []) hlau (x_X7_wordFrom (l := l) (ω := ω) (a1 := I 56 20) (a2 := I 56 19) hn (I := I)) dX7_next_155 w_726 w_728 w_22 w_67 w_729 md_X7_wordFrom (by decide) (by decide) rfl (ltL hn (Nat.le_of_ble_eq_true rfl)) rfl rfl (Nat.le_of_ble_eq_true rfl) (q := 158) rfl (fun v17 J16 => ?_)
  refine e_istore_n C (lv1 := [(2, .int v17), (0, .ref (oA ω 56))]) dX7_next_158 rfl (Nat.le_of_ble_eq_true rfl) rfl (q := 159) rfl ?_
  refine e_aload_n C dX7_next_159 rfl 1 rfl (q := 160) rfl ?_
  refine e_iload_n C dX7_next_160 rfl 0 rfl (q := 161) rfl ?_
  refine e_iconst C dX7_next_161 ic_3 (q := 162) rfl ?_
  refine e_icmpge C (tgt := 169) (q := 165) dX7_next_162 rfl rfl ?_ ?_
  · refine e_iload_n C dX7_next_169 rfl 0 rfl (q := 170) rfl ?_
    refine e_bipush C dX7_next_170 b8_9 (q := 172) rfl ?_
    refine e_icmpge C (tgt := 179) (q := 175) dX7_next_172 rfl rfl ?_ ?_
    · refine e_iload_n C dX7_next_179 rfl 0 rfl (q := 180) rfl ?_
      refine e_bipush C dX7_next_180 b8_12 (q := 182) rfl ?_
      refine e_icmpne C (tgt := 189) (q := 185) dX7_next_182 rfl rfl ?_ ?_
      · refine e_iconst C dX7_next_189 ic_4 (q := 190) rfl ?_
        refine e_iload_n C dX7_next_190 rfl 0 rfl (q := 191) rfl ?_
        refine e_iadd C dX7_next_191 (q := 192) rfl ?_
        refine e_bipush C dX7_next_192 b8_9 (q := 194) rfl ?_
        refine e_isub C dX7_next_194 (q := 195) rfl ?_
        exact xb_X7_next_b195 C hlau hret hn v17 (((4 : Int32) + v17) - (9 : Int32)) _
      · refine e_iconst C dX7_next_185 ic_m1 (q := 186) rfl ?_
        refine e_goto C (tgt := 195) dX7_next_186 rfl ?_
        exact xb_X7_next_b195 C hlau hret hn v17 (-1 : Int32) _
    · refine e_iconst C dX7_next_175 ic_2 (q := 176) rfl ?_
      refine e_goto C (tgt := 195) dX7_next_176 rfl ?_
      exact xb_X7_next_b195 C hlau hret hn v17 (2 : Int32) _
  · refine e_iconst C dX7_next_165 ic_3 (q := 166) rfl ?_
    refine e_goto C (tgt := 195) dX7_next_166 rfl ?_
    exact xb_X7_next_b195 C hlau hret hn v17 (3 : Int32) _
set_option maxHeartbeats 4000000 in
set_option maxRecDepth 100000 in
theorem xb_X7_next_b103 {l : Launch} {κ : Kx} {ω : Om}  (C : CX κ ω cX7_next 3 2 yX7_next.cls) (hlau : κ.2.1 = l) (hret : κ.2.2.2.2.2.2.2.2.1.sig.returnType = none) (hn : 75 ≤ oN ω)  : ∀ (n : Nat)  (I : Mem), EE κ ω 3 (Gv κ ω) (f_X7_next_b103 n  I) I 103 [(0, .ref (oA ω 56))] [] := by
  intro n
  induction n with
  | zero => intro  I; exact e_none
  | succ n ih =>
    intro  I
    rw [f_X7_next_b103]
    refine e_aload_n C dX7_next_103 rfl 0 rfl (q := 104) rfl ?_
    refine e_getf C (k := 56) (j := 19) (T := TX7) (N := 32) (v := .int (I 56 19)) dX7_next_104 (ltL hn (Nat.le_of_ble_eq_true rfl)) rfl rfl (by decide) in_X7 w_781 rfl (q := 107) rfl ?_
    refine e_aload_n C dX7_next_107 rfl 0 rfl (q := 108) rfl ?_
    refine e_getf C (k := 56) (j := 7) (T := TX7) (N := 32) (v := .int (I 56 7)) dX7_next_108 (ltL hn (Nat.le_of_ble_eq_true rfl)) rfl rfl (by decide) in_X7 w_769 rfl (q := 111) rfl ?_
    refine e_icmpge C (tgt := 146) (q := 114) dX7_next_111 rfl rfl ?_ ?_
    · exact xb_X7_next_b146 C hlau hret hn _
    · refine e_aload_n C dX7_next_114 rfl 0 rfl (q := 115) rfl ?_
      refine e_getf C (k := 56) (j := 6) (T := TX7) (N := 32) (v := .ref (oA ω 61)) dX7_next_115 (ltL hn (Nat.le_of_ble_eq_true rfl)) rfl rfl (by decide) in_X7 w_768 rfl (q := 118) rfl ?_
      refine e_aload_n C dX7_next_118 rfl 0 rfl (q := 119) rfl ?_
      refine e_getf C (k := 56) (j := 19) (T := TX7) (N := 32) (v := .int (I 56 19)) dX7_next_119 (ltL hn (Nat.le_of_ble_eq_true rfl)) rfl rfl (by decide) in_X7 w_781 rfl (q := 122) rfl ?_
      refine e_iald C (k := 61) (n := 160) dX7_next_122 (ltL hn (Nat.le_of_ble_eq_true rfl)) rfl (q := 123) rfl ?_
      refine e_bipush C dX7_next_123 b8_97 (q := 125) rfl ?_
      refine e_bipush C dX7_next_125 b8_122 (q := 127) rfl ?_
      refine e_callSi C (l := l) (av := [.int (I 61 (I 56 19).toNatClampNeg), .int (97 : Int32), .int (122 : Int32)]) (st := []) hlau (x_X7_in (l := l) (ω := ω) (a0 := I 61 (I 56 19).toNatClampNeg) (a1 := (97 : Int32)) (a2 := (122 : Int32)) hn (I := I)) dX7_next_127 w_723 w_724 w_67 w_725 md_X7_in (by decide) (by decide) rfl (Nat.le_of_ble_eq_true rfl) (q := 130) rfl (fun v21 J20 => ?_)
      refine e_ifeq C (tgt := 146) (q := 133) dX7_next_130 rfl rfl ?_ ?_
      · exact xb_X7_next_b146 C hlau hret hn _
      · refine e_aload_n C dX7_next_133 rfl 0 rfl (q := 134) rfl ?_
        refine e_dup C dX7_next_134 rfl (q := 135) rfl ?_
        refine e_getf C (k := 56) (j := 19) (T := TX7) (N := 32) (v := .int (J20 56 19)) dX7_next_135 (ltL hn (Nat.le_of_ble_eq_true rfl)) rfl rfl (by decide) in_X7 w_781 rfl (q := 138) rfl ?_
        refine e_iconst C dX7_next_138 ic_1 (q := 139) rfl ?_
        refine e_iadd C dX7_next_139 (q := 140) rfl ?_
        refine e_putf C (k := 56) (j := 19) (T := TX7) (N := 32) dX7_next_140 (ltL hn (Nat.le_of_ble_eq_true rfl)) rfl rfl (by decide) in_X7 w_781 tyX7_ok nmX7 rfl rfl rfl (show 19 < 32 by decide) (set_Mo_19_ _) (q := 143) rfl ?_
        refine e_nmM (fun J22 => ?_)
        refine e_goto C (tgt := 103) dX7_next_143 rfl ?_
        exact ih _
set_option maxHeartbeats 4000000 in
set_option maxRecDepth 100000 in
theorem xb_X7_next_b52 {l : Launch} {κ : Kx} {ω : Om}  (C : CX κ ω cX7_next 3 2 yX7_next.cls) (hlau : κ.2.1 = l) (hret : κ.2.2.2.2.2.2.2.2.1.sig.returnType = none) (hn : 75 ≤ oN ω)  : ∀  (I : Mem), EE κ ω 3 (Gv κ ω) (f_X7_next_b52  I) I 52 [(0, .ref (oA ω 56))] [] := by
  intro  I
  unfold f_X7_next_b52
  refine e_aload_n C dX7_next_52 rfl 0 rfl (q := 53) rfl ?_
  refine e_aload_n C dX7_next_53 rfl 0 rfl (q := 54) rfl ?_
  refine e_getf C (k := 56) (j := 19) (T := TX7) (N := 32) (v := .int (I 56 19)) dX7_next_54 (ltL hn (Nat.le_of_ble_eq_true rfl)) rfl rfl (by decide) in_X7 w_781 rfl (q := 57) rfl ?_
  refine e_putf C (k := 56) (j := 20) (T := TX7) (N := 32) dX7_next_57 (ltL hn (Nat.le_of_ble_eq_true rfl)) rfl rfl (by decide) in_X7 w_782 tyX7_ok nmX7 rfl rfl rfl (show 20 < 32 by decide) (set_Mo_20_ _) (q := 60) rfl ?_
  refine e_nmM (fun J1 => ?_)
  refine e_aload_n C dX7_next_60 rfl 0 rfl (q := 61) rfl ?_
  refine e_iconst C dX7_next_61 ic_0 (q := 62) rfl ?_
  refine e_putf C (k := 56) (j := 21) (T := TX7) (N := 32) dX7_next_62 (ltL hn (Nat.le_of_ble_eq_true rfl)) rfl rfl (by decide) in_X7 w_783 tyX7_ok nmX7 rfl rfl rfl (show 21 < 32 by decide) (set_Mo_21_ _) (q := 65) rfl ?_
  refine e_nmM (fun J2 => ?_)
  refine e_aload_n C dX7_next_65 rfl 0 rfl (q := 66) rfl ?_
  refine e_iconst C dX7_next_66 ic_0 (q := 67) rfl ?_
  refine e_putf C (k := 56) (j := 22) (T := TX7) (N := 32) dX7_next_67 (ltL hn (Nat.le_of_ble_eq_true rfl)) rfl rfl (by decide) in_X7 w_784 tyX7_ok nmX7 rfl rfl rfl (show 22 < 32 by decide) (set_Mo_22_ _) (q := 70) rfl ?_
  refine e_nmM (fun J3 => ?_)
  refine e_aload_n C dX7_next_70 rfl 0 rfl (q := 71) rfl ?_
  refine e_getf C (k := 56) (j := 19) (T := TX7) (N := 32) (v := .int (J3 56 19)) dX7_next_71 (ltL hn (Nat.le_of_ble_eq_true rfl)) rfl rfl (by decide) in_X7 w_781 rfl (q := 74) rfl ?_
  refine e_aload_n C dX7_next_74 rfl 0 rfl (q := 75) rfl ?_
  refine e_getf C (k := 56) (j := 7) (T := TX7) (N := 32) (v := .int (J3 56 7)) dX7_next_75 (ltL hn (Nat.le_of_ble_eq_true rfl)) rfl rfl (by decide) in_X7 w_769 rfl (q := 78) rfl ?_
  refine e_icmpne C (tgt := 82) (q := 81) dX7_next_78 rfl rfl ?_ ?_
  · refine e_aload_n C dX7_next_82 rfl 0 rfl (q := 83) rfl ?_
    refine e_getf C (k := 56) (j := 6) (T := TX7) (N := 32) (v := .ref (oA ω 61)) dX7_next_83 (ltL hn (Nat.le_of_ble_eq_true rfl)) rfl rfl (by decide) in_X7 w_768 rfl (q := 86) rfl ?_
    refine e_aload_n C dX7_next_86 rfl 0 rfl (q := 87) rfl ?_
    refine e_getf C (k := 56) (j := 19) (T := TX7) (N := 32) (v := .int (J3 56 19)) dX7_next_87 (ltL hn (Nat.le_of_ble_eq_true rfl)) rfl rfl (by decide) in_X7 w_781 rfl (q := 90) rfl ?_
    refine e_iald C (k := 61) (n := 160) dX7_next_90 (ltL hn (Nat.le_of_ble_eq_true rfl)) rfl (q := 91) rfl ?_
    refine e_nmi (fun v4 => ?_)
    refine e_istore_n C (lv1 := [(1, .int v4), (0, .ref (oA ω 56))]) dX7_next_91 rfl (Nat.le_of_ble_eq_true rfl) rfl (q := 92) rfl ?_
    refine e_iload_n C dX7_next_92 rfl 0 rfl (q := 93) rfl ?_
    refine e_bipush C dX7_next_93 b8_97 (q := 95) rfl ?_
    refine e_bipush C dX7_next_95 b8_122 (q := 97) rfl ?_
    refine e_callSi C (l := l) (av := [.int v4, .int (97 : Int32), .int (122 : Int32)]) (st := []) hlau (x_X7_in (l := l) (ω := ω) (a0 := v4) (a1 := (97 : Int32)) (a2 := (122 : Int32)) hn (I := J3)) dX7_next_97 w_723 w_724 w_67 w_725 md_X7_in (by decide) (by decide) rfl (Nat.le_of_ble_eq_true rfl) (q := 100) rfl (fun v6 J5 => ?_)
    refine e_ifeq C (tgt := 217) (q := 103) dX7_next_100 rfl rfl ?_ ?_
    · refine e_iload_n C dX7_next_217 rfl 0 rfl (q := 218) rfl ?_
      refine e_bipush C dX7_next_218 b8_48 (q := 220) rfl ?_
      refine e_bipush C dX7_next_220 b8_57 (q := 222) rfl ?_
      refine e_callSi C (l := l) (av := [.int v4, .int (48 : Int32), .int (57 : Int32)]) (st := []) hlau (x_X7_in (l := l) (ω := ω) (a0 := v4) (a1 := (48 : Int32)) (a2 := (57 : Int32)) hn (I := J5)) dX7_next_222 w_723 w_724 w_67 w_725 md_X7_in (by decide) (by decide) rfl (Nat.le_of_ble_eq_true rfl) (q := 225) rfl (fun v8 J7 => ?_)
      refine e_ifeq C (tgt := 326) (q := 228) dX7_next_225 rfl rfl ?_ ?_
      · refine e_iload_n C dX7_next_326 rfl 0 rfl (q := 327) rfl ?_
        refine e_bipush C dX7_next_327 b8_40 (q := 329) rfl ?_
        refine e_icmpeq C (tgt := 374) (q := 332) dX7_next_329 rfl rfl ?_ ?_
        · exact xb_X7_next_b374 C hlau hret hn v4 _
        · refine e_iload_n C dX7_next_332 rfl 0 rfl (q := 333) rfl ?_
          refine e_bipush C dX7_next_333 b8_41 (q := 335) rfl ?_
          refine e_icmpeq C (tgt := 374) (q := 338) dX7_next_335 rfl rfl ?_ ?_
          · exact xb_X7_next_b374 C hlau hret hn v4 _
          · refine e_iload_n C dX7_next_338 rfl 0 rfl (q := 339) rfl ?_
            refine e_bipush C dX7_next_339 b8_59 (q := 341) rfl ?_
            refine e_icmpeq C (tgt := 374) (q := 344) dX7_next_341 rfl rfl ?_ ?_
            · exact xb_X7_next_b374 C hlau hret hn v4 _
            · refine e_iload_n C dX7_next_344 rfl 0 rfl (q := 345) rfl ?_
              refine e_bipush C dX7_next_345 b8_43 (q := 347) rfl ?_
              refine e_icmpeq C (tgt := 374) (q := 350) dX7_next_347 rfl rfl ?_ ?_
              · exact xb_X7_next_b374 C hlau hret hn v4 _
              · refine e_iload_n C dX7_next_350 rfl 0 rfl (q := 351) rfl ?_
                refine e_bipush C dX7_next_351 b8_45 (q := 353) rfl ?_
                refine e_icmpeq C (tgt := 374) (q := 356) dX7_next_353 rfl rfl ?_ ?_
                · exact xb_X7_next_b374 C hlau hret hn v4 _
                · refine e_iload_n C dX7_next_356 rfl 0 rfl (q := 357) rfl ?_
                  refine e_bipush C dX7_next_357 b8_42 (q := 359) rfl ?_
                  refine e_icmpeq C (tgt := 374) (q := 362) dX7_next_359 rfl rfl ?_ ?_
                  · exact xb_X7_next_b374 C hlau hret hn v4 _
                  · refine e_iload_n C dX7_next_362 rfl 0 rfl (q := 363) rfl ?_
                    refine e_bipush C dX7_next_363 b8_60 (q := 365) rfl ?_
                    refine e_icmpeq C (tgt := 374) (q := 368) dX7_next_365 rfl rfl ?_ ?_
                    · exact xb_X7_next_b374 C hlau hret hn v4 _
                    · refine e_iload_n C dX7_next_368 rfl 0 rfl (q := 369) rfl ?_
                      refine e_bipush C dX7_next_369 b8_61 (q := 371) rfl ?_
                      refine e_icmpne C (tgt := 378) (q := 374) dX7_next_371 rfl rfl ?_ ?_
                      · refine e_iconst C dX7_next_378 ic_0 (q := 379) rfl ?_
                        exact xb_X7_next_b379 C hlau hret hn v4 (0 : Int32) _
                      · exact xb_X7_next_b374 C hlau hret hn v4 _
      · refine e_iconst C dX7_next_228 ic_0 (q := 229) rfl ?_
        refine e_istore_n C (lv1 := [(2, .int (0 : Int32)), (1, .int v4), (0, .ref (oA ω 56))]) dX7_next_229 rfl (Nat.le_of_ble_eq_true rfl) rfl (q := 230) rfl ?_
        exact e_lv [0, 2] (lv1 := [(2, .int (0 : Int32)), (0, .ref (oA ω 56))]) rfl (xb_X7_next_b230 C hlau hret hn FU (0 : Int32) _)
    · exact e_lv [1] (lv1 := [(0, .ref (oA ω 56))]) rfl (xb_X7_next_b103 C hlau hret hn FU _)
  · exact e_vreturn C dX7_next_81 hret
set_option maxHeartbeats 4000000 in
set_option maxRecDepth 100000 in
theorem xb_X7_next_b39 {l : Launch} {κ : Kx} {ω : Om}  (C : CX κ ω cX7_next 3 2 yX7_next.cls) (hlau : κ.2.1 = l) (hret : κ.2.2.2.2.2.2.2.2.1.sig.returnType = none) (hn : 75 ≤ oN ω)  {K0 : Mem → Option (Unit × Mem)} (hK0 : ∀  (J : Mem), EE κ ω 3 (Gv κ ω) (K0  J) J 0 [(0, .ref (oA ω 56))] []) : ∀  (I : Mem), EE κ ω 3 (Gv κ ω) (f_X7_next_b39 K0  I) I 39 [(0, .ref (oA ω 56))] [] := by
  intro  I
  unfold f_X7_next_b39
  refine e_aload_n C dX7_next_39 rfl 0 rfl (q := 40) rfl ?_
  refine e_dup C dX7_next_40 rfl (q := 41) rfl ?_
  refine e_getf C (k := 56) (j := 19) (T := TX7) (N := 32) (v := .int (I 56 19)) dX7_next_41 (ltL hn (Nat.le_of_ble_eq_true rfl)) rfl rfl (by decide) in_X7 w_781 rfl (q := 44) rfl ?_
  refine e_iconst C dX7_next_44 ic_1 (q := 45) rfl ?_
  refine e_iadd C dX7_next_45 (q := 46) rfl ?_
  refine e_putf C (k := 56) (j := 19) (T := TX7) (N := 32) dX7_next_46 (ltL hn (Nat.le_of_ble_eq_true rfl)) rfl rfl (by decide) in_X7 w_781 tyX7_ok nmX7 rfl rfl rfl (show 19 < 32 by decide) (set_Mo_19_ _) (q := 49) rfl ?_
  refine e_nmM (fun J23 => ?_)
  refine e_goto C (tgt := 0) dX7_next_49 rfl ?_
  exact hK0 _
set_option maxHeartbeats 4000000 in
set_option maxRecDepth 100000 in
theorem xb_X7_next_b0 {l : Launch} {κ : Kx} {ω : Om}  (C : CX κ ω cX7_next 3 2 yX7_next.cls) (hlau : κ.2.1 = l) (hret : κ.2.2.2.2.2.2.2.2.1.sig.returnType = none) (hn : 75 ≤ oN ω)  : ∀ (n : Nat)  (I : Mem), EE κ ω 3 (Gv κ ω) (f_X7_next_b0 n  I) I 0 [(0, .ref (oA ω 56))] [] := by
  intro n
  induction n with
  | zero => intro  I; exact e_none
  | succ n ih =>
    intro  I
    rw [f_X7_next_b0]
    refine e_aload_n C dX7_next_0 rfl 0 rfl (q := 1) rfl ?_
    refine e_getf C (k := 56) (j := 19) (T := TX7) (N := 32) (v := .int (I 56 19)) dX7_next_1 (ltL hn (Nat.le_of_ble_eq_true rfl)) rfl rfl (by decide) in_X7 w_781 rfl (q := 4) rfl ?_
    refine e_aload_n C dX7_next_4 rfl 0 rfl (q := 5) rfl ?_
    refine e_getf C (k := 56) (j := 7) (T := TX7) (N := 32) (v := .int (I 56 7)) dX7_next_5 (ltL hn (Nat.le_of_ble_eq_true rfl)) rfl rfl (by decide) in_X7 w_769 rfl (q := 8) rfl ?_
    refine e_icmpge C (tgt := 52) (q := 11) dX7_next_8 rfl rfl ?_ ?_
    · exact xb_X7_next_b52 C hlau hret hn _
    · refine e_aload_n C dX7_next_11 rfl 0 rfl (q := 12) rfl ?_
      refine e_getf C (k := 56) (j := 6) (T := TX7) (N := 32) (v := .ref (oA ω 61)) dX7_next_12 (ltL hn (Nat.le_of_ble_eq_true rfl)) rfl rfl (by decide) in_X7 w_768 rfl (q := 15) rfl ?_
      refine e_aload_n C dX7_next_15 rfl 0 rfl (q := 16) rfl ?_
      refine e_getf C (k := 56) (j := 19) (T := TX7) (N := 32) (v := .int (I 56 19)) dX7_next_16 (ltL hn (Nat.le_of_ble_eq_true rfl)) rfl rfl (by decide) in_X7 w_781 rfl (q := 19) rfl ?_
      refine e_iald C (k := 61) (n := 160) dX7_next_19 (ltL hn (Nat.le_of_ble_eq_true rfl)) rfl (q := 20) rfl ?_
      refine e_bipush C dX7_next_20 b8_32 (q := 22) rfl ?_
      refine e_icmpeq C (tgt := 39) (q := 25) dX7_next_22 rfl rfl ?_ ?_
      · exact xb_X7_next_b39 C hlau hret hn ih _
      · refine e_aload_n C dX7_next_25 rfl 0 rfl (q := 26) rfl ?_
        refine e_getf C (k := 56) (j := 6) (T := TX7) (N := 32) (v := .ref (oA ω 61)) dX7_next_26 (ltL hn (Nat.le_of_ble_eq_true rfl)) rfl rfl (by decide) in_X7 w_768 rfl (q := 29) rfl ?_
        refine e_aload_n C dX7_next_29 rfl 0 rfl (q := 30) rfl ?_
        refine e_getf C (k := 56) (j := 19) (T := TX7) (N := 32) (v := .int (I 56 19)) dX7_next_30 (ltL hn (Nat.le_of_ble_eq_true rfl)) rfl rfl (by decide) in_X7 w_781 rfl (q := 33) rfl ?_
        refine e_iald C (k := 61) (n := 160) dX7_next_33 (ltL hn (Nat.le_of_ble_eq_true rfl)) rfl (q := 34) rfl ?_
        refine e_bipush C dX7_next_34 b8_10 (q := 36) rfl ?_
        refine e_icmpne C (tgt := 52) (q := 39) dX7_next_36 rfl rfl ?_ ?_
        · exact xb_X7_next_b52 C hlau hret hn _
        · exact xb_X7_next_b39 C hlau hret hn ih _
set_option maxHeartbeats 4000000 in
set_option maxRecDepth 100000 in
theorem x_X7_next {l : Launch} {ω : Om}  (hn : 75 ≤ oN ω)  {I : Mem} : CTv l ω yX7_next cX7_next 3 none 2 [.ref (oA ω 56)] (f_X7_next  I) I := by
  refine ct_v (by decide) (Nat.le_of_ble_eq_true rfl) ?_
  intro κ hlau hret C
  refine e_lv [0] (lv1 := [(0, .ref (oA ω 56))]) rfl ?_
  unfold f_X7_next
  exact xb_X7_next_b0 C hlau hret hn FU _
set_option maxHeartbeats 4000000 in
set_option maxRecDepth 100000 in
theorem x_X7_rank {l : Launch} {ω : Om} {a0 : Int32} (hn : 75 ≤ oN ω)  {I : Mem} : CTi l ω yX7_rank cX7_rank 1 (some .int) 1 [.int a0] (f_X7_rank a0 I) I := by
  refine ct_i (by decide) (Nat.le_of_ble_eq_true rfl) ?_
  intro κ hlau hret C
  refine e_lv [0] (lv1 := [(0, .int a0)]) rfl ?_
  unfold f_X7_rank
  refine e_iload_n C dX7_rank_0 rfl 0 rfl (q := 1) rfl ?_
  refine e_ifne C (tgt := 8) (q := 4) dX7_rank_1 rfl rfl ?_ ?_
  · refine e_iload_n C dX7_rank_8 rfl 0 rfl (q := 9) rfl ?_
    refine e_bipush C dX7_rank_9 b8_11 (q := 11) rfl ?_
    refine e_icmpne C (tgt := 18) (q := 14) dX7_rank_11 rfl rfl ?_ ?_
    · refine e_iload_n C dX7_rank_18 rfl 0 rfl (q := 19) rfl ?_
      refine e_bipush C dX7_rank_19 b8_12 (q := 21) rfl ?_
      refine e_icmpne C (tgt := 28) (q := 24) dX7_rank_21 rfl rfl ?_ ?_
      · refine e_iload_n C dX7_rank_28 rfl 0 rfl (q := 29) rfl ?_
        refine e_bipush C dX7_rank_29 b8_13 (q := 31) rfl ?_
        refine e_icmpne C (tgt := 38) (q := 34) dX7_rank_31 rfl rfl ?_ ?_
        · refine e_iload_n C dX7_rank_38 rfl 0 rfl (q := 39) rfl ?_
          refine e_bipush C dX7_rank_39 b8_15 (q := 41) rfl ?_
          refine e_icmpgt C (tgt := 48) (q := 44) dX7_rank_41 rfl rfl ?_ ?_
          · refine e_iload_n C dX7_rank_48 rfl 0 rfl (q := 49) rfl ?_
            refine e_bipush C dX7_rank_49 b8_17 (q := 51) rfl ?_
            refine e_icmpgt C (tgt := 58) (q := 54) dX7_rank_51 rfl rfl ?_ ?_
            · refine e_iload_n C dX7_rank_58 rfl 0 rfl (q := 59) rfl ?_
              refine e_bipush C dX7_rank_59 b8_18 (q := 61) rfl ?_
              refine e_icmpne C (tgt := 69) (q := 64) dX7_rank_61 rfl rfl ?_ ?_
              · refine e_bipush C dX7_rank_69 b8_7 (q := 71) rfl ?_
                exact e_ireturn C dX7_rank_71 hret rfl
              · refine e_bipush C dX7_rank_64 b8_6 (q := 66) rfl ?_
                refine e_goto C (tgt := 71) dX7_rank_66 rfl ?_
                exact e_ireturn C dX7_rank_71 hret rfl
            · refine e_iconst C dX7_rank_54 ic_5 (q := 55) rfl ?_
              refine e_goto C (tgt := 71) dX7_rank_55 rfl ?_
              exact e_ireturn C dX7_rank_71 hret rfl
          · refine e_iconst C dX7_rank_44 ic_4 (q := 45) rfl ?_
            refine e_goto C (tgt := 71) dX7_rank_45 rfl ?_
            exact e_ireturn C dX7_rank_71 hret rfl
        · refine e_iconst C dX7_rank_34 ic_3 (q := 35) rfl ?_
          refine e_goto C (tgt := 71) dX7_rank_35 rfl ?_
          exact e_ireturn C dX7_rank_71 hret rfl
      · refine e_iconst C dX7_rank_24 ic_2 (q := 25) rfl ?_
        refine e_goto C (tgt := 71) dX7_rank_25 rfl ?_
        exact e_ireturn C dX7_rank_71 hret rfl
    · refine e_iconst C dX7_rank_14 ic_1 (q := 15) rfl ?_
      refine e_goto C (tgt := 71) dX7_rank_15 rfl ?_
      exact e_ireturn C dX7_rank_71 hret rfl
  · refine e_iconst C dX7_rank_4 ic_0 (q := 5) rfl ?_
    refine e_goto C (tgt := 71) dX7_rank_5 rfl ?_
    exact e_ireturn C dX7_rank_71 hret rfl
set_option maxHeartbeats 4000000 in
set_option maxRecDepth 100000 in
theorem x_X7_puts {l : Launch} {ω : Om} {a1 : Int32} (hn : 75 ≤ oN ω)  {I : Mem} : CTv l ω yX7_puts cX7_puts 2 none 1 [.ref (oA ω 56), .int a1] (f_X7_puts a1 I) I := by
  refine ct_v (by decide) (Nat.le_of_ble_eq_true rfl) ?_
  intro κ hlau hret C
  refine e_lv [0, 1] (lv1 := [(0, .ref (oA ω 56)), (1, .int a1)]) rfl ?_
  unfold f_X7_puts
  refine e_aload_n C dX7_puts_0 rfl 0 rfl (q := 1) rfl ?_
  refine e_getf C (k := 56) (j := 8) (T := TX7) (N := 32) (v := .ref (oA ω 62)) dX7_puts_1 (ltL hn (Nat.le_of_ble_eq_true rfl)) rfl rfl (by decide) in_X7 w_770 rfl (q := 4) rfl ?_
  refine e_sipush C dX7_puts_4 b16_200 (q := 7) rfl ?_
  refine e_aload_n C dX7_puts_7 rfl 0 rfl (q := 8) rfl ?_
  refine e_getf C (k := 56) (j := 10) (T := TX7) (N := 32) (v := .int (I 56 10)) dX7_puts_8 (ltL hn (Nat.le_of_ble_eq_true rfl)) rfl rfl (by decide) in_X7 w_772 rfl (q := 11) rfl ?_
  refine e_imul C dX7_puts_11 (q := 12) rfl ?_
  refine e_aload_n C dX7_puts_12 rfl 0 rfl (q := 13) rfl ?_
  refine e_getf C (k := 56) (j := 27) (T := TX7) (N := 32) (v := .int (I 56 27)) dX7_puts_13 (ltL hn (Nat.le_of_ble_eq_true rfl)) rfl rfl (by decide) in_X7 w_789 rfl (q := 16) rfl ?_
  refine e_iadd C dX7_puts_16 (q := 17) rfl ?_
  refine e_iload_n C dX7_puts_17 rfl 1 rfl (q := 18) rfl ?_
  refine e_iast C (k := 62) (n := 1200) dX7_puts_18 (ltL hn (Nat.le_of_ble_eq_true rfl)) (fun _ => rfl) (q := 19) rfl ?_
  refine e_nmM (fun J1 => ?_)
  refine e_aload_n C dX7_puts_19 rfl 0 rfl (q := 20) rfl ?_
  refine e_dup C dX7_puts_20 rfl (q := 21) rfl ?_
  refine e_getf C (k := 56) (j := 27) (T := TX7) (N := 32) (v := .int (J1 56 27)) dX7_puts_21 (ltL hn (Nat.le_of_ble_eq_true rfl)) rfl rfl (by decide) in_X7 w_789 rfl (q := 24) rfl ?_
  refine e_iconst C dX7_puts_24 ic_1 (q := 25) rfl ?_
  refine e_iadd C dX7_puts_25 (q := 26) rfl ?_
  refine e_putf C (k := 56) (j := 27) (T := TX7) (N := 32) dX7_puts_26 (ltL hn (Nat.le_of_ble_eq_true rfl)) rfl rfl (by decide) in_X7 w_789 tyX7_ok nmX7 rfl rfl rfl (show 27 < 32 by decide) (set_Mo_27_ _) (q := 29) rfl ?_
  refine e_nmM (fun J2 => ?_)
  exact e_vreturn C dX7_puts_29 hret
set_option maxHeartbeats 4000000 in
set_option maxRecDepth 100000 in
theorem xb_X7_unwinds_b67 {l : Launch} {κ : Kx} {ω : Om} {a1 : Int32} (C : CX κ ω cX7_unwinds 3 2 yX7_unwinds.cls) (hlau : κ.2.1 = l) (hret : κ.2.2.2.2.2.2.2.2.1.sig.returnType = none) (hn : 75 ≤ oN ω)  {K0 : Mem → Option (Unit × Mem)} (hK0 : ∀  (J : Mem), EE κ ω 3 (Gv κ ω) (K0  J) J 0 [(0, .ref (oA ω 56)), (1, .int a1)] []) : ∀ (x2 : Int32) (s0 : Int32) (s1 : Int32) (I : Mem), EE κ ω 3 (Gv κ ω) (f_X7_unwinds_b67 a1 K0 x2 s0 s1 I) I 67 [(2, .int x2), (0, .ref (oA ω 56)), (1, .int a1)] [.int s0, .int s1, .ref (oA ω 56)] := by
  intro x2 s0 s1 I
  unfold f_X7_unwinds_b67
  refine e_isub C dX7_unwinds_67 (q := 68) rfl ?_
  refine e_putf C (k := 56) (j := 26) (T := TX7) (N := 32) dX7_unwinds_68 (ltL hn (Nat.le_of_ble_eq_true rfl)) rfl rfl (by decide) in_X7 w_788 tyX7_ok nmX7 rfl rfl rfl (show 26 < 32 by decide) (set_Mo_26_ _) (q := 71) rfl ?_
  refine e_nmM (fun J5 => ?_)
  refine e_aload_n C dX7_unwinds_71 rfl 1 rfl (q := 72) rfl ?_
  refine e_iload_n C dX7_unwinds_72 rfl 0 rfl (q := 73) rfl ?_
  refine e_callVv C (l := l) (k := 56) (av := [.int x2]) (st := []) hlau (x_X7_puts (l := l) (ω := ω) (a1 := x2) hn (I := J5)) dX7_unwinds_73 w_735 w_737 w_24 w_67 w_738 md_X7_puts (by decide) (by decide) rfl (ltL hn (Nat.le_of_ble_eq_true rfl)) rfl rfl (Nat.le_of_ble_eq_true rfl) (q := 76) rfl (fun _ J6 => ?_)
  refine e_goto C (tgt := 0) dX7_unwinds_76 rfl ?_
  exact e_lv [1, 2] (lv1 := [(0, .ref (oA ω 56)), (1, .int a1)]) rfl (hK0 _)
set_option maxHeartbeats 4000000 in
set_option maxRecDepth 100000 in
theorem xb_X7_unwinds_b62 {l : Launch} {κ : Kx} {ω : Om} {a1 : Int32} (C : CX κ ω cX7_unwinds 3 2 yX7_unwinds.cls) (hlau : κ.2.1 = l) (hret : κ.2.2.2.2.2.2.2.2.1.sig.returnType = none) (hn : 75 ≤ oN ω)  {K0 : Mem → Option (Unit × Mem)} (hK0 : ∀  (J : Mem), EE κ ω 3 (Gv κ ω) (K0  J) J 0 [(0, .ref (oA ω 56)), (1, .int a1)] []) : ∀ (x2 : Int32) (s0 : Int32) (I : Mem), EE κ ω 3 (Gv κ ω) (f_X7_unwinds_b62 a1 K0 x2 s0 I) I 62 [(2, .int x2), (0, .ref (oA ω 56)), (1, .int a1)] [.int s0, .ref (oA ω 56)] := by
  intro x2 s0 I
  unfold f_X7_unwinds_b62
  refine e_iconst C dX7_unwinds_62 ic_1 (q := 63) rfl ?_
  refine e_goto C (tgt := 67) dX7_unwinds_63 rfl ?_
  exact xb_X7_unwinds_b67 C hlau hret hn hK0 x2 (1 : Int32) s0 _
set_option maxHeartbeats 4000000 in
set_option maxRecDepth 100000 in
theorem xb_X7_unwinds_b0 {l : Launch} {κ : Kx} {ω : Om} {a1 : Int32} (C : CX κ ω cX7_unwinds 3 2 yX7_unwinds.cls) (hlau : κ.2.1 = l) (hret : κ.2.2.2.2.2.2.2.2.1.sig.returnType = none) (hn : 75 ≤ oN ω)  : ∀ (n : Nat)  (I : Mem), EE κ ω 3 (Gv κ ω) (f_X7_unwinds_b0 a1 n  I) I 0 [(0, .ref (oA ω 56)), (1, .int a1)] [] := by
  intro n
  induction n with
  | zero => intro  I; exact e_none
  | succ n ih =>
    intro  I
    rw [f_X7_unwinds_b0]
    refine e_aload_n C dX7_unwinds_0 rfl 0 rfl (q := 1) rfl ?_
    refine e_getf C (k := 56) (j := 25) (T := TX7) (N := 32) (v := .int (I 56 25)) dX7_unwinds_1 (ltL hn (Nat.le_of_ble_eq_true rfl)) rfl rfl (by decide) in_X7 w_787 rfl (q := 4) rfl ?_
    refine e_ifle C (tgt := 79) (q := 7) dX7_unwinds_4 rfl rfl ?_ ?_
    · exact e_vreturn C dX7_unwinds_79 hret
    · refine e_aload_n C dX7_unwinds_7 rfl 0 rfl (q := 8) rfl ?_
      refine e_getf C (k := 56) (j := 24) (T := TX7) (N := 32) (v := .ref (oA ω 71)) dX7_unwinds_8 (ltL hn (Nat.le_of_ble_eq_true rfl)) rfl rfl (by decide) in_X7 w_786 rfl (q := 11) rfl ?_
      refine e_aload_n C dX7_unwinds_11 rfl 0 rfl (q := 12) rfl ?_
      refine e_getf C (k := 56) (j := 25) (T := TX7) (N := 32) (v := .int (I 56 25)) dX7_unwinds_12 (ltL hn (Nat.le_of_ble_eq_true rfl)) rfl rfl (by decide) in_X7 w_787 rfl (q := 15) rfl ?_
      refine e_iconst C dX7_unwinds_15 ic_1 (q := 16) rfl ?_
      refine e_isub C dX7_unwinds_16 (q := 17) rfl ?_
      refine e_iald C (k := 71) (n := 200) dX7_unwinds_17 (ltL hn (Nat.le_of_ble_eq_true rfl)) rfl (q := 18) rfl ?_
      refine e_callSi C (l := l) (av := [.int (I 71 ((I 56 25) - (1 : Int32)).toNatClampNeg)]) (st := []) hlau (x_X7_rank (l := l) (ω := ω) (a0 := I 71 ((I 56 25) - (1 : Int32)).toNatClampNeg) hn (I := I)) dX7_unwinds_18 w_743 w_744 w_67 w_745 md_X7_rank (by decide) (by decide) rfl (Nat.le_of_ble_eq_true rfl) (q := 21) rfl (fun v2 J1 => ?_)
      refine e_iload_n C dX7_unwinds_21 rfl 1 rfl (q := 22) rfl ?_
      refine e_icmplt C (tgt := 79) (q := 25) dX7_unwinds_22 rfl rfl ?_ ?_
      · exact e_vreturn C dX7_unwinds_79 hret
      · refine e_aload_n C dX7_unwinds_25 rfl 0 rfl (q := 26) rfl ?_
        refine e_dup C dX7_unwinds_26 rfl (q := 27) rfl ?_
        refine e_getf C (k := 56) (j := 25) (T := TX7) (N := 32) (v := .int (J1 56 25)) dX7_unwinds_27 (ltL hn (Nat.le_of_ble_eq_true rfl)) rfl rfl (by decide) in_X7 w_787 rfl (q := 30) rfl ?_
        refine e_iconst C dX7_unwinds_30 ic_1 (q := 31) rfl ?_
        refine e_isub C dX7_unwinds_31 (q := 32) rfl ?_
        refine e_putf C (k := 56) (j := 25) (T := TX7) (N := 32) dX7_unwinds_32 (ltL hn (Nat.le_of_ble_eq_true rfl)) rfl rfl (by decide) in_X7 w_787 tyX7_ok nmX7 rfl rfl rfl (show 25 < 32 by decide) (set_Mo_25_ _) (q := 35) rfl ?_
        refine e_nmM (fun J3 => ?_)
        refine e_aload_n C dX7_unwinds_35 rfl 0 rfl (q := 36) rfl ?_
        refine e_getf C (k := 56) (j := 24) (T := TX7) (N := 32) (v := .ref (oA ω 71)) dX7_unwinds_36 (ltL hn (Nat.le_of_ble_eq_true rfl)) rfl rfl (by decide) in_X7 w_786 rfl (q := 39) rfl ?_
        refine e_aload_n C dX7_unwinds_39 rfl 0 rfl (q := 40) rfl ?_
        refine e_getf C (k := 56) (j := 25) (T := TX7) (N := 32) (v := .int (J3 56 25)) dX7_unwinds_40 (ltL hn (Nat.le_of_ble_eq_true rfl)) rfl rfl (by decide) in_X7 w_787 rfl (q := 43) rfl ?_
        refine e_iald C (k := 71) (n := 200) dX7_unwinds_43 (ltL hn (Nat.le_of_ble_eq_true rfl)) rfl (q := 44) rfl ?_
        refine e_nmi (fun v4 => ?_)
        refine e_istore_n C (lv1 := [(2, .int v4), (0, .ref (oA ω 56)), (1, .int a1)]) dX7_unwinds_44 rfl (Nat.le_of_ble_eq_true rfl) rfl (q := 45) rfl ?_
        refine e_aload_n C dX7_unwinds_45 rfl 1 rfl (q := 46) rfl ?_
        refine e_dup C dX7_unwinds_46 rfl (q := 47) rfl ?_
        refine e_getf C (k := 56) (j := 26) (T := TX7) (N := 32) (v := .int (J3 56 26)) dX7_unwinds_47 (ltL hn (Nat.le_of_ble_eq_true rfl)) rfl rfl (by decide) in_X7 w_788 rfl (q := 50) rfl ?_
        refine e_iload_n C dX7_unwinds_50 rfl 0 rfl (q := 51) rfl ?_
        refine e_bipush C dX7_unwinds_51 b8_13 (q := 53) rfl ?_
        refine e_icmpeq C (tgt := 62) (q := 56) dX7_unwinds_53 rfl rfl ?_ ?_
        · exact xb_X7_unwinds_b62 C hlau hret hn ih v4 (J3 56 26) _
        · refine e_iload_n C dX7_unwinds_56 rfl 0 rfl (q := 57) rfl ?_
          refine e_bipush C dX7_unwinds_57 b8_19 (q := 59) rfl ?_
          refine e_icmpne C (tgt := 66) (q := 62) dX7_unwinds_59 rfl rfl ?_ ?_
          · refine e_iconst C dX7_unwinds_66 ic_0 (q := 67) rfl ?_
            exact xb_X7_unwinds_b67 C hlau hret hn ih v4 (0 : Int32) (J3 56 26) _
          · exact xb_X7_unwinds_b62 C hlau hret hn ih v4 (J3 56 26) _
set_option maxHeartbeats 4000000 in
set_option maxRecDepth 100000 in
theorem x_X7_unwinds {l : Launch} {ω : Om} {a1 : Int32} (hn : 75 ≤ oN ω)  {I : Mem} : CTv l ω yX7_unwinds cX7_unwinds 3 none 2 [.ref (oA ω 56), .int a1] (f_X7_unwinds a1 I) I := by
  refine ct_v (by decide) (Nat.le_of_ble_eq_true rfl) ?_
  intro κ hlau hret C
  refine e_lv [0, 1] (lv1 := [(0, .ref (oA ω 56)), (1, .int a1)]) rfl ?_
  unfold f_X7_unwinds
  exact xb_X7_unwinds_b0 C hlau hret hn FU _
set_option maxHeartbeats 4000000 in
set_option maxRecDepth 100000 in
theorem x_X7_holds {l : Launch} {ω : Om} {a1 : Int32} (hn : 75 ≤ oN ω)  {I : Mem} : CTv l ω yX7_holds cX7_holds 2 none 1 [.ref (oA ω 56), .int a1] (f_X7_holds a1 I) I := by
  refine ct_v (by decide) (Nat.le_of_ble_eq_true rfl) ?_
  intro κ hlau hret C
  refine e_lv [0, 1] (lv1 := [(0, .ref (oA ω 56)), (1, .int a1)]) rfl ?_
  unfold f_X7_holds
  refine e_aload_n C dX7_holds_0 rfl 0 rfl (q := 1) rfl ?_
  refine e_getf C (k := 56) (j := 24) (T := TX7) (N := 32) (v := .ref (oA ω 71)) dX7_holds_1 (ltL hn (Nat.le_of_ble_eq_true rfl)) rfl rfl (by decide) in_X7 w_786 rfl (q := 4) rfl ?_
  refine e_aload_n C dX7_holds_4 rfl 0 rfl (q := 5) rfl ?_
  refine e_getf C (k := 56) (j := 25) (T := TX7) (N := 32) (v := .int (I 56 25)) dX7_holds_5 (ltL hn (Nat.le_of_ble_eq_true rfl)) rfl rfl (by decide) in_X7 w_787 rfl (q := 8) rfl ?_
  refine e_iload_n C dX7_holds_8 rfl 1 rfl (q := 9) rfl ?_
  refine e_iast C (k := 71) (n := 200) dX7_holds_9 (ltL hn (Nat.le_of_ble_eq_true rfl)) (fun _ => rfl) (q := 10) rfl ?_
  refine e_nmM (fun J1 => ?_)
  refine e_aload_n C dX7_holds_10 rfl 0 rfl (q := 11) rfl ?_
  refine e_dup C dX7_holds_11 rfl (q := 12) rfl ?_
  refine e_getf C (k := 56) (j := 25) (T := TX7) (N := 32) (v := .int (J1 56 25)) dX7_holds_12 (ltL hn (Nat.le_of_ble_eq_true rfl)) rfl rfl (by decide) in_X7 w_787 rfl (q := 15) rfl ?_
  refine e_iconst C dX7_holds_15 ic_1 (q := 16) rfl ?_
  refine e_iadd C dX7_holds_16 (q := 17) rfl ?_
  refine e_putf C (k := 56) (j := 25) (T := TX7) (N := 32) dX7_holds_17 (ltL hn (Nat.le_of_ble_eq_true rfl)) rfl rfl (by decide) in_X7 w_787 tyX7_ok nmX7 rfl rfl rfl (show 25 < 32 by decide) (set_Mo_25_ _) (q := 20) rfl ?_
  refine e_nmM (fun J2 => ?_)
  exact e_vreturn C dX7_holds_20 hret
set_option maxHeartbeats 4000000 in
set_option maxRecDepth 100000 in
theorem x_X7_opensOne {l : Launch} {ω : Om} {a1 : Int32} (hn : 75 ≤ oN ω)  {I : Mem} : CTi l ω yX7_opensOne cX7_opensOne 2 (some .boolean) 2 [.ref (oA ω 56), .int a1] (f_X7_opensOne a1 I) I := by
  refine ct_i (by decide) (Nat.le_of_ble_eq_true rfl) ?_
  intro κ hlau hret C
  refine e_lv [0, 1] (lv1 := [(0, .ref (oA ω 56)), (1, .int a1)]) rfl ?_
  unfold f_X7_opensOne
  refine e_aload_n C dX7_opensOne_0 rfl 0 rfl (q := 1) rfl ?_
  refine e_getf C (k := 56) (j := 26) (T := TX7) (N := 32) (v := .int (I 56 26)) dX7_opensOne_1 (ltL hn (Nat.le_of_ble_eq_true rfl)) rfl rfl (by decide) in_X7 w_788 rfl (q := 4) rfl ?_
  refine e_iconst C dX7_opensOne_4 ic_5 (q := 5) rfl ?_
  refine e_icmpne C (tgt := 10) (q := 8) dX7_opensOne_5 rfl rfl ?_ ?_
  · refine e_aload_n C dX7_opensOne_10 rfl 0 rfl (q := 11) rfl ?_
    refine e_dup C dX7_opensOne_11 rfl (q := 12) rfl ?_
    refine e_getf C (k := 56) (j := 26) (T := TX7) (N := 32) (v := .int (I 56 26)) dX7_opensOne_12 (ltL hn (Nat.le_of_ble_eq_true rfl)) rfl rfl (by decide) in_X7 w_788 rfl (q := 15) rfl ?_
    refine e_iconst C dX7_opensOne_15 ic_1 (q := 16) rfl ?_
    refine e_iadd C dX7_opensOne_16 (q := 17) rfl ?_
    refine e_putf C (k := 56) (j := 26) (T := TX7) (N := 32) dX7_opensOne_17 (ltL hn (Nat.le_of_ble_eq_true rfl)) rfl rfl (by decide) in_X7 w_788 tyX7_ok nmX7 rfl rfl rfl (show 26 < 32 by decide) (set_Mo_26_ _) (q := 20) rfl ?_
    refine e_nmM (fun J1 => ?_)
    refine e_aload_n C dX7_opensOne_20 rfl 0 rfl (q := 21) rfl ?_
    refine e_iload_n C dX7_opensOne_21 rfl 1 rfl (q := 22) rfl ?_
    refine e_callVv C (l := l) (k := 56) (av := [.int a1]) (st := []) hlau (x_X7_holds (l := l) (ω := ω) (a1 := a1) hn (I := J1)) dX7_opensOne_22 w_750 w_752 w_27 w_67 w_753 md_X7_holds (by decide) (by decide) rfl (ltL hn (Nat.le_of_ble_eq_true rfl)) rfl rfl (Nat.le_of_ble_eq_true rfl) (q := 25) rfl (fun _ J2 => ?_)
    refine e_iconst C dX7_opensOne_25 ic_1 (q := 26) rfl ?_
    exact e_ireturn C dX7_opensOne_26 hret rfl
  · refine e_iconst C dX7_opensOne_8 ic_0 (q := 9) rfl ?_
    exact e_ireturn C dX7_opensOne_9 hret rfl
set_option maxHeartbeats 4000000 in
set_option maxRecDepth 100000 in
theorem xb_X7_between_b55 {l : Launch} {κ : Kx} {ω : Om} {a1 : Int32} (C : CX κ ω cX7_between 2 3 yX7_between.cls) (hlau : κ.2.1 = l) (hret : κ.2.2.2.2.2.2.2.2.1.sig.returnType = (some .boolean)) (hn : 75 ≤ oN ω)  : ∀  (I : Mem), EE κ ω 2 (Gi κ ω) (f_X7_between_b55 a1  I) I 55 [(0, .ref (oA ω 56)), (1, .int a1)] [] := by
  intro  I
  unfold f_X7_between_b55
  refine e_aload_n C dX7_between_55 rfl 0 rfl (q := 56) rfl ?_
  refine e_iload_n C dX7_between_56 rfl 1 rfl (q := 57) rfl ?_
  refine e_callVv C (l := l) (k := 56) (av := [.int a1]) (st := []) hlau (x_X7_holds (l := l) (ω := ω) (a1 := a1) hn (I := I)) dX7_between_57 w_750 w_752 w_27 w_67 w_753 md_X7_holds (by decide) (by decide) rfl (ltL hn (Nat.le_of_ble_eq_true rfl)) rfl rfl (Nat.le_of_ble_eq_true rfl) (q := 60) rfl (fun _ J8 => ?_)
  refine e_iconst C dX7_between_60 ic_1 (q := 61) rfl ?_
  exact e_ireturn C dX7_between_61 hret rfl
set_option maxHeartbeats 4000000 in
set_option maxRecDepth 100000 in
theorem xb_X7_between_b17 {l : Launch} {κ : Kx} {ω : Om} {a1 : Int32} (C : CX κ ω cX7_between 2 3 yX7_between.cls) (hlau : κ.2.1 = l) (hret : κ.2.2.2.2.2.2.2.2.1.sig.returnType = (some .boolean)) (hn : 75 ≤ oN ω)  : ∀ (s0 : Int32) (I : Mem), EE κ ω 2 (Gi κ ω) (f_X7_between_b17 a1 s0 I) I 17 [(0, .ref (oA ω 56)), (1, .int a1)] [.int s0, .ref (oA ω 56)] := by
  intro s0 I
  unfold f_X7_between_b17
  refine e_callVv C (l := l) (k := 56) (av := [.int s0]) (st := []) hlau (x_X7_unwinds (l := l) (ω := ω) (a1 := s0) hn (I := I)) dX7_between_17 w_739 w_741 w_25 w_67 w_742 md_X7_unwinds (by decide) (by decide) rfl (ltL hn (Nat.le_of_ble_eq_true rfl)) rfl rfl (Nat.le_of_ble_eq_true rfl) (q := 20) rfl (fun _ J5 => ?_)
  refine e_iload_n C dX7_between_20 rfl 1 rfl (q := 21) rfl ?_
  refine e_callSi C (l := l) (av := [.int a1]) (st := []) hlau (x_X7_rank (l := l) (ω := ω) (a0 := a1) hn (I := J5)) dX7_between_21 w_743 w_744 w_67 w_745 md_X7_rank (by decide) (by decide) rfl (Nat.le_of_ble_eq_true rfl) (q := 24) rfl (fun v7 J6 => ?_)
  refine e_iconst C dX7_between_24 ic_4 (q := 25) rfl ?_
  refine e_icmpne C (tgt := 55) (q := 28) dX7_between_25 rfl rfl ?_ ?_
  · exact xb_X7_between_b55 C hlau hret hn _
  · refine e_aload_n C dX7_between_28 rfl 0 rfl (q := 29) rfl ?_
    refine e_getf C (k := 56) (j := 25) (T := TX7) (N := 32) (v := .int (J6 56 25)) dX7_between_29 (ltL hn (Nat.le_of_ble_eq_true rfl)) rfl rfl (by decide) in_X7 w_787 rfl (q := 32) rfl ?_
    refine e_ifle C (tgt := 55) (q := 35) dX7_between_32 rfl rfl ?_ ?_
    · exact xb_X7_between_b55 C hlau hret hn _
    · refine e_aload_n C dX7_between_35 rfl 0 rfl (q := 36) rfl ?_
      refine e_getf C (k := 56) (j := 24) (T := TX7) (N := 32) (v := .ref (oA ω 71)) dX7_between_36 (ltL hn (Nat.le_of_ble_eq_true rfl)) rfl rfl (by decide) in_X7 w_786 rfl (q := 39) rfl ?_
      refine e_aload_n C dX7_between_39 rfl 0 rfl (q := 40) rfl ?_
      refine e_getf C (k := 56) (j := 25) (T := TX7) (N := 32) (v := .int (J6 56 25)) dX7_between_40 (ltL hn (Nat.le_of_ble_eq_true rfl)) rfl rfl (by decide) in_X7 w_787 rfl (q := 43) rfl ?_
      refine e_iconst C dX7_between_43 ic_1 (q := 44) rfl ?_
      refine e_isub C dX7_between_44 (q := 45) rfl ?_
      refine e_iald C (k := 71) (n := 200) dX7_between_45 (ltL hn (Nat.le_of_ble_eq_true rfl)) rfl (q := 46) rfl ?_
      refine e_callSi C (l := l) (av := [.int (J6 71 ((J6 56 25) - (1 : Int32)).toNatClampNeg)]) (st := []) hlau (x_X7_rank (l := l) (ω := ω) (a0 := J6 71 ((J6 56 25) - (1 : Int32)).toNatClampNeg) hn (I := J6)) dX7_between_46 w_743 w_744 w_67 w_745 md_X7_rank (by decide) (by decide) rfl (Nat.le_of_ble_eq_true rfl) (q := 49) rfl (fun v10 J9 => ?_)
      refine e_iconst C dX7_between_49 ic_4 (q := 50) rfl ?_
      refine e_icmpne C (tgt := 55) (q := 53) dX7_between_50 rfl rfl ?_ ?_
      · exact xb_X7_between_b55 C hlau hret hn _
      · refine e_iconst C dX7_between_53 ic_0 (q := 54) rfl ?_
        exact e_ireturn C dX7_between_54 hret rfl
set_option maxHeartbeats 4000000 in
set_option maxRecDepth 100000 in
theorem x_X7_between {l : Launch} {ω : Om} {a1 : Int32} (hn : 75 ≤ oN ω)  {I : Mem} : CTi l ω yX7_between cX7_between 2 (some .boolean) 3 [.ref (oA ω 56), .int a1] (f_X7_between a1 I) I := by
  refine ct_i (by decide) (Nat.le_of_ble_eq_true rfl) ?_
  intro κ hlau hret C
  refine e_lv [0, 1] (lv1 := [(0, .ref (oA ω 56)), (1, .int a1)]) rfl ?_
  unfold f_X7_between
  refine e_aload_n C dX7_between_0 rfl 0 rfl (q := 1) rfl ?_
  refine e_iload_n C dX7_between_1 rfl 1 rfl (q := 2) rfl ?_
  refine e_callSi C (l := l) (av := [.int a1]) (st := [.ref (oA ω 56)]) hlau (x_X7_rank (l := l) (ω := ω) (a0 := a1) hn (I := I)) dX7_between_2 w_743 w_744 w_67 w_745 md_X7_rank (by decide) (by decide) rfl (Nat.le_of_ble_eq_true rfl) (q := 5) rfl (fun v2 J1 => ?_)
  refine e_iconst C dX7_between_5 ic_4 (q := 6) rfl ?_
  refine e_icmpne C (tgt := 13) (q := 9) dX7_between_6 rfl rfl ?_ ?_
  · refine e_iload_n C dX7_between_13 rfl 1 rfl (q := 14) rfl ?_
    refine e_callSi C (l := l) (av := [.int a1]) (st := [.ref (oA ω 56)]) hlau (x_X7_rank (l := l) (ω := ω) (a0 := a1) hn (I := J1)) dX7_between_14 w_743 w_744 w_67 w_745 md_X7_rank (by decide) (by decide) rfl (Nat.le_of_ble_eq_true rfl) (q := 17) rfl (fun v4 J3 => ?_)
    exact xb_X7_between_b17 C hlau hret hn v4 _
  · refine e_iconst C dX7_between_9 ic_5 (q := 10) rfl ?_
    refine e_goto C (tgt := 17) dX7_between_10 rfl ?_
    exact xb_X7_between_b17 C hlau hret hn (5 : Int32) _
set_option maxHeartbeats 4000000 in
set_option maxRecDepth 100000 in
theorem x_X7_signOf {l : Launch} {ω : Om}  (hn : 75 ≤ oN ω)  {I : Mem} : CTi l ω yX7_signOf cX7_signOf 1 (some .int) 1 [.ref (oA ω 56)] (f_X7_signOf  I) I := by
  refine ct_i (by decide) (Nat.le_of_ble_eq_true rfl) ?_
  intro κ hlau hret C
  refine e_lv [0] (lv1 := [(0, .ref (oA ω 56))]) rfl ?_
  unfold f_X7_signOf
  refine e_aload_n C dX7_signOf_0 rfl 0 rfl (q := 1) rfl ?_
  refine e_getf C (k := 56) (j := 21) (T := TX7) (N := 32) (v := .int (I 56 21)) dX7_signOf_1 (ltL hn (Nat.le_of_ble_eq_true rfl)) rfl rfl (by decide) in_X7 w_783 rfl (q := 4) rfl ?_
  refine e_iconst C dX7_signOf_4 ic_4 (q := 5) rfl ?_
  refine e_icmpne C (tgt := 13) (q := 8) dX7_signOf_5 rfl rfl ?_ ?_
  · refine e_aload_n C dX7_signOf_13 rfl 0 rfl (q := 14) rfl ?_
    refine e_getf C (k := 56) (j := 21) (T := TX7) (N := 32) (v := .int (I 56 21)) dX7_signOf_14 (ltL hn (Nat.le_of_ble_eq_true rfl)) rfl rfl (by decide) in_X7 w_783 rfl (q := 17) rfl ?_
    refine e_iconst C dX7_signOf_17 ic_5 (q := 18) rfl ?_
    refine e_icmpne C (tgt := 26) (q := 21) dX7_signOf_18 rfl rfl ?_ ?_
    · refine e_aload_n C dX7_signOf_26 rfl 0 rfl (q := 27) rfl ?_
      refine e_getf C (k := 56) (j := 21) (T := TX7) (N := 32) (v := .int (I 56 21)) dX7_signOf_27 (ltL hn (Nat.le_of_ble_eq_true rfl)) rfl rfl (by decide) in_X7 w_783 rfl (q := 30) rfl ?_
      refine e_bipush C dX7_signOf_30 b8_60 (q := 32) rfl ?_
      refine e_icmpne C (tgt := 40) (q := 35) dX7_signOf_32 rfl rfl ?_ ?_
      · refine e_aload_n C dX7_signOf_40 rfl 0 rfl (q := 41) rfl ?_
        refine e_getf C (k := 56) (j := 21) (T := TX7) (N := 32) (v := .int (I 56 21)) dX7_signOf_41 (ltL hn (Nat.le_of_ble_eq_true rfl)) rfl rfl (by decide) in_X7 w_783 rfl (q := 44) rfl ?_
        refine e_bipush C dX7_signOf_44 b8_61 (q := 46) rfl ?_
        refine e_icmpne C (tgt := 54) (q := 49) dX7_signOf_46 rfl rfl ?_ ?_
        · refine e_aload_n C dX7_signOf_54 rfl 0 rfl (q := 55) rfl ?_
          refine e_getf C (k := 56) (j := 21) (T := TX7) (N := 32) (v := .int (I 56 21)) dX7_signOf_55 (ltL hn (Nat.le_of_ble_eq_true rfl)) rfl rfl (by decide) in_X7 w_783 rfl (q := 58) rfl ?_
          refine e_bipush C dX7_signOf_58 b8_43 (q := 60) rfl ?_
          refine e_icmpne C (tgt := 68) (q := 63) dX7_signOf_60 rfl rfl ?_ ?_
          · refine e_aload_n C dX7_signOf_68 rfl 0 rfl (q := 69) rfl ?_
            refine e_getf C (k := 56) (j := 21) (T := TX7) (N := 32) (v := .int (I 56 21)) dX7_signOf_69 (ltL hn (Nat.le_of_ble_eq_true rfl)) rfl rfl (by decide) in_X7 w_783 rfl (q := 72) rfl ?_
            refine e_bipush C dX7_signOf_72 b8_45 (q := 74) rfl ?_
            refine e_icmpne C (tgt := 82) (q := 77) dX7_signOf_74 rfl rfl ?_ ?_
            · refine e_aload_n C dX7_signOf_82 rfl 0 rfl (q := 83) rfl ?_
              refine e_getf C (k := 56) (j := 21) (T := TX7) (N := 32) (v := .int (I 56 21)) dX7_signOf_83 (ltL hn (Nat.le_of_ble_eq_true rfl)) rfl rfl (by decide) in_X7 w_783 rfl (q := 86) rfl ?_
              refine e_bipush C dX7_signOf_86 b8_42 (q := 88) rfl ?_
              refine e_icmpne C (tgt := 96) (q := 91) dX7_signOf_88 rfl rfl ?_ ?_
              · refine e_iconst C dX7_signOf_96 ic_m1 (q := 97) rfl ?_
                exact e_ireturn C dX7_signOf_97 hret rfl
              · refine e_bipush C dX7_signOf_91 b8_18 (q := 93) rfl ?_
                refine e_goto C (tgt := 97) dX7_signOf_93 rfl ?_
                exact e_ireturn C dX7_signOf_97 hret rfl
            · refine e_bipush C dX7_signOf_77 b8_17 (q := 79) rfl ?_
              refine e_goto C (tgt := 97) dX7_signOf_79 rfl ?_
              exact e_ireturn C dX7_signOf_97 hret rfl
          · refine e_bipush C dX7_signOf_63 b8_16 (q := 65) rfl ?_
            refine e_goto C (tgt := 97) dX7_signOf_65 rfl ?_
            exact e_ireturn C dX7_signOf_97 hret rfl
        · refine e_bipush C dX7_signOf_49 b8_15 (q := 51) rfl ?_
          refine e_goto C (tgt := 97) dX7_signOf_51 rfl ?_
          exact e_ireturn C dX7_signOf_97 hret rfl
      · refine e_bipush C dX7_signOf_35 b8_14 (q := 37) rfl ?_
        refine e_goto C (tgt := 97) dX7_signOf_37 rfl ?_
        exact e_ireturn C dX7_signOf_97 hret rfl
    · refine e_bipush C dX7_signOf_21 b8_12 (q := 23) rfl ?_
      refine e_goto C (tgt := 97) dX7_signOf_23 rfl ?_
      exact e_ireturn C dX7_signOf_97 hret rfl
  · refine e_bipush C dX7_signOf_8 b8_11 (q := 10) rfl ?_
    refine e_goto C (tgt := 97) dX7_signOf_10 rfl ?_
    exact e_ireturn C dX7_signOf_97 hret rfl
set_option maxHeartbeats 4000000 in
set_option maxRecDepth 100000 in
theorem xb_X7_eRead_b262 {l : Launch} {κ : Kx} {ω : Om}  (C : CX κ ω cX7_eRead 4 4 yX7_eRead.cls) (hlau : κ.2.1 = l) (hret : κ.2.2.2.2.2.2.2.2.1.sig.returnType = (some .boolean)) (hn : 75 ≤ oN ω)  {K14 : Int32 → Int32 → Mem → Option (Int32 × Mem)} (hK14 : ∀ (x2 : Int32) (x1 : Int32) (J : Mem), EE κ ω 4 (Gi κ ω) (K14 x2 x1 J) J 14 [(2, .int x2), (1, .int x1), (0, .ref (oA ω 56))] []) : ∀ (x1 : Int32) (s0 : Int32) (I : Mem), EE κ ω 4 (Gi κ ω) (f_X7_eRead_b262 K14 x1 s0 I) I 262 [(1, .int x1), (0, .ref (oA ω 56))] [.int s0] := by
  intro x1 s0 I
  unfold f_X7_eRead_b262
  refine e_istore_n C (lv1 := [(2, .int s0), (1, .int x1), (0, .ref (oA ω 56))]) dX7_eRead_262 rfl (Nat.le_of_ble_eq_true rfl) rfl (q := 263) rfl ?_
  refine e_goto C (tgt := 14) dX7_eRead_263 rfl ?_
  exact hK14 s0 x1 _
set_option maxHeartbeats 4000000 in
set_option maxRecDepth 100000 in
theorem xb_X7_eRead_b61 {l : Launch} {κ : Kx} {ω : Om}  (C : CX κ ω cX7_eRead 4 4 yX7_eRead.cls) (hlau : κ.2.1 = l) (hret : κ.2.2.2.2.2.2.2.2.1.sig.returnType = (some .boolean)) (hn : 75 ≤ oN ω)  {K14 : Int32 → Int32 → Mem → Option (Int32 × Mem)} (hK14 : ∀ (x2 : Int32) (x1 : Int32) (J : Mem), EE κ ω 4 (Gi κ ω) (K14 x2 x1 J) J 14 [(2, .int x2), (1, .int x1), (0, .ref (oA ω 56))] []) : ∀ (x2 : Int32) (s0 : Int32) (I : Mem), EE κ ω 4 (Gi κ ω) (f_X7_eRead_b61 K14 x2 s0 I) I 61 [(2, .int x2), (0, .ref (oA ω 56))] [.int s0, .ref (oA ω 56)] := by
  intro x2 s0 I
  unfold f_X7_eRead_b61
  refine e_callVv C (l := l) (k := 56) (av := [.int s0]) (st := []) hlau (x_X7_puts (l := l) (ω := ω) (a1 := s0) hn (I := I)) dX7_eRead_61 w_735 w_737 w_24 w_67 w_738 md_X7_puts (by decide) (by decide) rfl (ltL hn (Nat.le_of_ble_eq_true rfl)) rfl rfl (Nat.le_of_ble_eq_true rfl) (q := 64) rfl (fun _ J13 => ?_)
  refine e_aload_n C dX7_eRead_64 rfl 1 rfl (q := 65) rfl ?_
  refine e_bipush C dX7_eRead_65 b8_7 (q := 67) rfl ?_
  refine e_callVv C (l := l) (k := 56) (av := [.int (7 : Int32)]) (st := []) hlau (x_X7_unwinds (l := l) (ω := ω) (a1 := (7 : Int32)) hn (I := J13)) dX7_eRead_67 w_739 w_741 w_25 w_67 w_742 md_X7_unwinds (by decide) (by decide) rfl (ltL hn (Nat.le_of_ble_eq_true rfl)) rfl rfl (Nat.le_of_ble_eq_true rfl) (q := 70) rfl (fun _ J14 => ?_)
  refine e_iconst C dX7_eRead_70 ic_0 (q := 71) rfl ?_
  refine e_istore_n C (lv1 := [(1, .int (0 : Int32)), (2, .int x2), (0, .ref (oA ω 56))]) dX7_eRead_71 rfl (Nat.le_of_ble_eq_true rfl) rfl (q := 72) rfl ?_
  refine e_goto C (tgt := 14) dX7_eRead_72 rfl ?_
  exact e_lv [1, 0, 2] (lv1 := [(2, .int x2), (1, .int (0 : Int32)), (0, .ref (oA ω 56))]) rfl (hK14 x2 (0 : Int32) _)
set_option maxHeartbeats 4000000 in
set_option maxRecDepth 100000 in
theorem xb_X7_eRead_b38 {l : Launch} {κ : Kx} {ω : Om}  (C : CX κ ω cX7_eRead 4 4 yX7_eRead.cls) (hlau : κ.2.1 = l) (hret : κ.2.2.2.2.2.2.2.2.1.sig.returnType = (some .boolean)) (hn : 75 ≤ oN ω)  {K14 : Int32 → Int32 → Mem → Option (Int32 × Mem)} (hK14 : ∀ (x2 : Int32) (x1 : Int32) (J : Mem), EE κ ω 4 (Gi κ ω) (K14 x2 x1 J) J 14 [(2, .int x2), (1, .int x1), (0, .ref (oA ω 56))] []) : ∀ (x2 : Int32) (I : Mem), EE κ ω 4 (Gi κ ω) (f_X7_eRead_b38 K14 x2 I) I 38 [(2, .int x2), (0, .ref (oA ω 56))] [] := by
  intro x2 I
  unfold f_X7_eRead_b38
  refine e_aload_n C dX7_eRead_38 rfl 1 rfl (q := 39) rfl ?_
  refine e_aload_n C dX7_eRead_39 rfl 1 rfl (q := 40) rfl ?_
  refine e_getf C (k := 56) (j := 21) (T := TX7) (N := 32) (v := .int (I 56 21)) dX7_eRead_40 (ltL hn (Nat.le_of_ble_eq_true rfl)) rfl rfl (by decide) in_X7 w_783 rfl (q := 43) rfl ?_
  refine e_iconst C dX7_eRead_43 ic_1 (q := 44) rfl ?_
  refine e_icmpne C (tgt := 57) (q := 47) dX7_eRead_44 rfl rfl ?_ ?_
  · refine e_aload_n C dX7_eRead_57 rfl 1 rfl (q := 58) rfl ?_
    refine e_getf C (k := 56) (j := 22) (T := TX7) (N := 32) (v := .int (I 56 22)) dX7_eRead_58 (ltL hn (Nat.le_of_ble_eq_true rfl)) rfl rfl (by decide) in_X7 w_784 rfl (q := 61) rfl ?_
    exact xb_X7_eRead_b61 C hlau hret hn hK14 x2 (I 56 22) _
  · refine e_ldc C dX7_eRead_47 w_734 (q := 49) rfl ?_
    refine e_aload_n C dX7_eRead_49 rfl 1 rfl (q := 50) rfl ?_
    refine e_getf C (k := 56) (j := 22) (T := TX7) (N := 32) (v := .int (I 56 22)) dX7_eRead_50 (ltL hn (Nat.le_of_ble_eq_true rfl)) rfl rfl (by decide) in_X7 w_784 rfl (q := 53) rfl ?_
    refine e_iadd C dX7_eRead_53 (q := 54) rfl ?_
    refine e_goto C (tgt := 61) dX7_eRead_54 rfl ?_
    exact xb_X7_eRead_b61 C hlau hret hn hK14 x2 ((100000 : Int32) + (I 56 22)) _
set_option maxHeartbeats 4000000 in
set_option maxRecDepth 100000 in
theorem xb_X7_eRead_b99 {l : Launch} {κ : Kx} {ω : Om}  (C : CX κ ω cX7_eRead 4 4 yX7_eRead.cls) (hlau : κ.2.1 = l) (hret : κ.2.2.2.2.2.2.2.2.1.sig.returnType = (some .boolean)) (hn : 75 ≤ oN ω)  {K14 : Int32 → Int32 → Mem → Option (Int32 × Mem)} (hK14 : ∀ (x2 : Int32) (x1 : Int32) (J : Mem), EE κ ω 4 (Gi κ ω) (K14 x2 x1 J) J 14 [(2, .int x2), (1, .int x1), (0, .ref (oA ω 56))] []) : ∀ (x1 : Int32) (I : Mem), EE κ ω 4 (Gi κ ω) (f_X7_eRead_b99 K14 x1 I) I 99 [(1, .int x1), (0, .ref (oA ω 56))] [] := by
  intro x1 I
  unfold f_X7_eRead_b99
  refine e_aload_n C dX7_eRead_99 rfl 1 rfl (q := 100) rfl ?_
  refine e_getf C (k := 56) (j := 21) (T := TX7) (N := 32) (v := .int (I 56 21)) dX7_eRead_100 (ltL hn (Nat.le_of_ble_eq_true rfl)) rfl rfl (by decide) in_X7 w_783 rfl (q := 103) rfl ?_
  refine e_bipush C dX7_eRead_103 b8_45 (q := 105) rfl ?_
  refine e_icmpne C (tgt := 124) (q := 108) dX7_eRead_105 rfl rfl ?_ ?_
  · refine e_aload_n C dX7_eRead_124 rfl 1 rfl (q := 125) rfl ?_
    refine e_getf C (k := 56) (j := 21) (T := TX7) (N := 32) (v := .int (I 56 21)) dX7_eRead_125 (ltL hn (Nat.le_of_ble_eq_true rfl)) rfl rfl (by decide) in_X7 w_783 rfl (q := 128) rfl ?_
    refine e_bipush C dX7_eRead_128 b8_40 (q := 130) rfl ?_
    refine e_icmpne C (tgt := 148) (q := 133) dX7_eRead_130 rfl rfl ?_ ?_
    · refine e_iconst C dX7_eRead_148 ic_0 (q := 149) rfl ?_
      exact e_ireturn C dX7_eRead_149 hret rfl
    · refine e_aload_n C dX7_eRead_133 rfl 1 rfl (q := 134) rfl ?_
      refine e_iconst C dX7_eRead_134 ic_0 (q := 135) rfl ?_
      refine e_callVi C (l := l) (k := 56) (av := [.int (0 : Int32)]) (st := []) hlau (x_X7_opensOne (l := l) (ω := ω) (a1 := (0 : Int32)) hn (I := I)) dX7_eRead_135 w_746 w_748 w_26 w_67 w_749 md_X7_opensOne (by decide) (by decide) rfl (ltL hn (Nat.le_of_ble_eq_true rfl)) rfl rfl (Nat.le_of_ble_eq_true rfl) (q := 138) rfl (fun v16 J15 => ?_)
      refine e_ifne C (tgt := 143) (q := 141) dX7_eRead_138 rfl rfl ?_ ?_
      · refine e_iconst C dX7_eRead_143 ic_1 (q := 144) rfl ?_
        refine e_istore_n C (lv1 := [(2, .int (1 : Int32)), (1, .int x1), (0, .ref (oA ω 56))]) dX7_eRead_144 rfl (Nat.le_of_ble_eq_true rfl) rfl (q := 145) rfl ?_
        refine e_goto C (tgt := 14) dX7_eRead_145 rfl ?_
        exact hK14 (1 : Int32) x1 _
      · refine e_iconst C dX7_eRead_141 ic_0 (q := 142) rfl ?_
        exact e_ireturn C dX7_eRead_142 hret rfl
  · refine e_aload_n C dX7_eRead_108 rfl 1 rfl (q := 109) rfl ?_
    refine e_bipush C dX7_eRead_109 b8_19 (q := 111) rfl ?_
    refine e_callVi C (l := l) (k := 56) (av := [.int (19 : Int32)]) (st := []) hlau (x_X7_opensOne (l := l) (ω := ω) (a1 := (19 : Int32)) hn (I := I)) dX7_eRead_111 w_746 w_748 w_26 w_67 w_749 md_X7_opensOne (by decide) (by decide) rfl (ltL hn (Nat.le_of_ble_eq_true rfl)) rfl rfl (Nat.le_of_ble_eq_true rfl) (q := 114) rfl (fun v18 J17 => ?_)
    refine e_ifne C (tgt := 119) (q := 117) dX7_eRead_114 rfl rfl ?_ ?_
    · refine e_iconst C dX7_eRead_119 ic_0 (q := 120) rfl ?_
      refine e_istore_n C (lv1 := [(2, .int (0 : Int32)), (1, .int x1), (0, .ref (oA ω 56))]) dX7_eRead_120 rfl (Nat.le_of_ble_eq_true rfl) rfl (q := 121) rfl ?_
      refine e_goto C (tgt := 14) dX7_eRead_121 rfl ?_
      exact hK14 (0 : Int32) x1 _
    · refine e_iconst C dX7_eRead_117 ic_0 (q := 118) rfl ?_
      exact e_ireturn C dX7_eRead_118 hret rfl
set_option maxHeartbeats 4000000 in
set_option maxRecDepth 100000 in
theorem xb_X7_eRead_b14 {l : Launch} {κ : Kx} {ω : Om}  (C : CX κ ω cX7_eRead 4 4 yX7_eRead.cls) (hlau : κ.2.1 = l) (hret : κ.2.2.2.2.2.2.2.2.1.sig.returnType = (some .boolean)) (hn : 75 ≤ oN ω)  : ∀ (n : Nat) (x2 : Int32) (x1 : Int32) (I : Mem), EE κ ω 4 (Gi κ ω) (f_X7_eRead_b14 n x2 x1 I) I 14 [(2, .int x2), (1, .int x1), (0, .ref (oA ω 56))] [] := by
  intro n
  induction n with
  | zero => intro x2 x1 I; exact e_none
  | succ n ih =>
    intro x2 x1 I
    rw [f_X7_eRead_b14]
    refine e_aload_n C dX7_eRead_14 rfl 2 rfl (q := 15) rfl ?_
    refine e_callVv C (l := l) (k := 56) (av := []) (st := []) hlau (x_X7_next (l := l) (ω := ω) hn (I := I)) dX7_eRead_15 w_719 w_721 w_21 w_67 w_722 md_X7_next (by decide) (by decide) rfl (ltL hn (Nat.le_of_ble_eq_true rfl)) rfl rfl (Nat.le_of_ble_eq_true rfl) (q := 18) rfl (fun _ J3 => ?_)
    refine e_iload_n C dX7_eRead_18 rfl 1 rfl (q := 19) rfl ?_
    refine e_ifeq C (tgt := 150) (q := 22) dX7_eRead_19 rfl rfl ?_ ?_
    · refine e_aload_n C dX7_eRead_150 rfl 2 rfl (q := 151) rfl ?_
      refine e_getf C (k := 56) (j := 21) (T := TX7) (N := 32) (v := .int (J3 56 21)) dX7_eRead_151 (ltL hn (Nat.le_of_ble_eq_true rfl)) rfl rfl (by decide) in_X7 w_783 rfl (q := 154) rfl ?_
      refine e_bipush C dX7_eRead_154 b8_59 (q := 156) rfl ?_
      refine e_icmpne C (tgt := 177) (q := 159) dX7_eRead_156 rfl rfl ?_ ?_
      · refine e_aload_n C dX7_eRead_177 rfl 2 rfl (q := 178) rfl ?_
        refine e_getf C (k := 56) (j := 21) (T := TX7) (N := 32) (v := .int (J3 56 21)) dX7_eRead_178 (ltL hn (Nat.le_of_ble_eq_true rfl)) rfl rfl (by decide) in_X7 w_783 rfl (q := 181) rfl ?_
        refine e_bipush C dX7_eRead_181 b8_41 (q := 183) rfl ?_
        refine e_icmpne C (tgt := 229) (q := 186) dX7_eRead_183 rfl rfl ?_ ?_
        · refine e_aload_n C dX7_eRead_229 rfl 2 rfl (q := 230) rfl ?_
          refine e_callVi C (l := l) (k := 56) (av := []) (st := []) hlau (x_X7_signOf (l := l) (ω := ω) hn (I := J3)) dX7_eRead_230 w_754 w_756 w_28 w_67 w_757 md_X7_signOf (by decide) (by decide) rfl (ltL hn (Nat.le_of_ble_eq_true rfl)) rfl rfl (Nat.le_of_ble_eq_true rfl) (q := 233) rfl (fun v5 J4 => ?_)
          refine e_istore_n C (lv1 := [(3, .int v5), (2, .int x2), (1, .int x1), (0, .ref (oA ω 56))]) dX7_eRead_233 rfl (Nat.le_of_ble_eq_true rfl) rfl (q := 234) rfl ?_
          refine e_iload_n C dX7_eRead_234 rfl 0 rfl (q := 235) rfl ?_
          refine e_iconst C dX7_eRead_235 ic_m1 (q := 236) rfl ?_
          refine e_icmpeq C (tgt := 247) (q := 239) dX7_eRead_236 rfl rfl ?_ ?_
          · refine e_iconst C dX7_eRead_247 ic_0 (q := 248) rfl ?_
            exact e_ireturn C dX7_eRead_248 hret rfl
          · refine e_aload_n C dX7_eRead_239 rfl 3 rfl (q := 240) rfl ?_
            refine e_iload_n C dX7_eRead_240 rfl 0 rfl (q := 241) rfl ?_
            refine e_callVi C (l := l) (k := 56) (av := [.int v5]) (st := []) hlau (x_X7_between (l := l) (ω := ω) (a1 := v5) hn (I := J4)) dX7_eRead_241 w_758 w_760 w_29 w_67 w_761 md_X7_between (by decide) (by decide) rfl (ltL hn (Nat.le_of_ble_eq_true rfl)) rfl rfl (Nat.le_of_ble_eq_true rfl) (q := 244) rfl (fun v7 J6 => ?_)
            refine e_ifne C (tgt := 249) (q := 247) dX7_eRead_244 rfl rfl ?_ ?_
            · refine e_iconst C dX7_eRead_249 ic_1 (q := 250) rfl ?_
              refine e_istore_n C (lv1 := [(1, .int (1 : Int32)), (3, .int v5), (2, .int x2), (0, .ref (oA ω 56))]) dX7_eRead_250 rfl (Nat.le_of_ble_eq_true rfl) rfl (q := 251) rfl ?_
              refine e_iload_n C dX7_eRead_251 rfl 1 rfl (q := 252) rfl ?_
              refine e_bipush C dX7_eRead_252 b8_12 (q := 254) rfl ?_
              refine e_icmpgt C (tgt := 261) (q := 257) dX7_eRead_254 rfl rfl ?_ ?_
              · refine e_iconst C dX7_eRead_261 ic_0 (q := 262) rfl ?_
                exact e_lv [0, 3] (lv1 := [(1, .int (1 : Int32)), (0, .ref (oA ω 56))]) rfl (xb_X7_eRead_b262 C hlau hret hn ih (1 : Int32) (0 : Int32) _)
              · refine e_iconst C dX7_eRead_257 ic_1 (q := 258) rfl ?_
                refine e_goto C (tgt := 262) dX7_eRead_258 rfl ?_
                exact e_lv [0, 3] (lv1 := [(1, .int (1 : Int32)), (0, .ref (oA ω 56))]) rfl (xb_X7_eRead_b262 C hlau hret hn ih (1 : Int32) (1 : Int32) _)
            · refine e_iconst C dX7_eRead_247 ic_0 (q := 248) rfl ?_
              exact e_ireturn C dX7_eRead_248 hret rfl
        · refine e_aload_n C dX7_eRead_186 rfl 2 rfl (q := 187) rfl ?_
          refine e_iconst C dX7_eRead_187 ic_1 (q := 188) rfl ?_
          refine e_callVv C (l := l) (k := 56) (av := [.int (1 : Int32)]) (st := []) hlau (x_X7_unwinds (l := l) (ω := ω) (a1 := (1 : Int32)) hn (I := J3)) dX7_eRead_188 w_739 w_741 w_25 w_67 w_742 md_X7_unwinds (by decide) (by decide) rfl (ltL hn (Nat.le_of_ble_eq_true rfl)) rfl rfl (Nat.le_of_ble_eq_true rfl) (q := 191) rfl (fun _ J8 => ?_)
          refine e_aload_n C dX7_eRead_191 rfl 2 rfl (q := 192) rfl ?_
          refine e_getf C (k := 56) (j := 25) (T := TX7) (N := 32) (v := .int (J8 56 25)) dX7_eRead_192 (ltL hn (Nat.le_of_ble_eq_true rfl)) rfl rfl (by decide) in_X7 w_787 rfl (q := 195) rfl ?_
          refine e_ifne C (tgt := 200) (q := 198) dX7_eRead_195 rfl rfl ?_ ?_
          · refine e_aload_n C dX7_eRead_200 rfl 2 rfl (q := 201) rfl ?_
            refine e_dup C dX7_eRead_201 rfl (q := 202) rfl ?_
            refine e_getf C (k := 56) (j := 25) (T := TX7) (N := 32) (v := .int (J8 56 25)) dX7_eRead_202 (ltL hn (Nat.le_of_ble_eq_true rfl)) rfl rfl (by decide) in_X7 w_787 rfl (q := 205) rfl ?_
            refine e_iconst C dX7_eRead_205 ic_1 (q := 206) rfl ?_
            refine e_isub C dX7_eRead_206 (q := 207) rfl ?_
            refine e_putf C (k := 56) (j := 25) (T := TX7) (N := 32) dX7_eRead_207 (ltL hn (Nat.le_of_ble_eq_true rfl)) rfl rfl (by decide) in_X7 w_787 tyX7_ok nmX7 rfl rfl rfl (show 25 < 32 by decide) (set_Mo_25_ _) (q := 210) rfl ?_
            refine e_nmM (fun J9 => ?_)
            refine e_aload_n C dX7_eRead_210 rfl 2 rfl (q := 211) rfl ?_
            refine e_dup C dX7_eRead_211 rfl (q := 212) rfl ?_
            refine e_getf C (k := 56) (j := 26) (T := TX7) (N := 32) (v := .int (J9 56 26)) dX7_eRead_212 (ltL hn (Nat.le_of_ble_eq_true rfl)) rfl rfl (by decide) in_X7 w_788 rfl (q := 215) rfl ?_
            refine e_iconst C dX7_eRead_215 ic_1 (q := 216) rfl ?_
            refine e_isub C dX7_eRead_216 (q := 217) rfl ?_
            refine e_putf C (k := 56) (j := 26) (T := TX7) (N := 32) dX7_eRead_217 (ltL hn (Nat.le_of_ble_eq_true rfl)) rfl rfl (by decide) in_X7 w_788 tyX7_ok nmX7 rfl rfl rfl (show 26 < 32 by decide) (set_Mo_26_ _) (q := 220) rfl ?_
            refine e_nmM (fun J10 => ?_)
            refine e_aload_n C dX7_eRead_220 rfl 2 rfl (q := 221) rfl ?_
            refine e_bipush C dX7_eRead_221 b8_7 (q := 223) rfl ?_
            refine e_callVv C (l := l) (k := 56) (av := [.int (7 : Int32)]) (st := []) hlau (x_X7_unwinds (l := l) (ω := ω) (a1 := (7 : Int32)) hn (I := J10)) dX7_eRead_223 w_739 w_741 w_25 w_67 w_742 md_X7_unwinds (by decide) (by decide) rfl (ltL hn (Nat.le_of_ble_eq_true rfl)) rfl rfl (Nat.le_of_ble_eq_true rfl) (q := 226) rfl (fun _ J11 => ?_)
            refine e_goto C (tgt := 14) dX7_eRead_226 rfl ?_
            exact ih x2 x1 _
          · refine e_iconst C dX7_eRead_198 ic_0 (q := 199) rfl ?_
            exact e_ireturn C dX7_eRead_199 hret rfl
      · refine e_aload_n C dX7_eRead_159 rfl 2 rfl (q := 160) rfl ?_
        refine e_iconst C dX7_eRead_160 ic_1 (q := 161) rfl ?_
        refine e_callVv C (l := l) (k := 56) (av := [.int (1 : Int32)]) (st := []) hlau (x_X7_unwinds (l := l) (ω := ω) (a1 := (1 : Int32)) hn (I := J3)) dX7_eRead_161 w_739 w_741 w_25 w_67 w_742 md_X7_unwinds (by decide) (by decide) rfl (ltL hn (Nat.le_of_ble_eq_true rfl)) rfl rfl (Nat.le_of_ble_eq_true rfl) (q := 164) rfl (fun _ J12 => ?_)
        refine e_aload_n C dX7_eRead_164 rfl 2 rfl (q := 165) rfl ?_
        refine e_getf C (k := 56) (j := 25) (T := TX7) (N := 32) (v := .int (J12 56 25)) dX7_eRead_165 (ltL hn (Nat.le_of_ble_eq_true rfl)) rfl rfl (by decide) in_X7 w_787 rfl (q := 168) rfl ?_
        refine e_ifne C (tgt := 175) (q := 171) dX7_eRead_168 rfl rfl ?_ ?_
        · refine e_iconst C dX7_eRead_175 ic_0 (q := 176) rfl ?_
          exact e_ireturn C dX7_eRead_176 hret rfl
        · refine e_iconst C dX7_eRead_171 ic_1 (q := 172) rfl ?_
          refine e_goto C (tgt := 176) dX7_eRead_172 rfl ?_
          exact e_ireturn C dX7_eRead_176 hret rfl
    · refine e_aload_n C dX7_eRead_22 rfl 2 rfl (q := 23) rfl ?_
      refine e_getf C (k := 56) (j := 21) (T := TX7) (N := 32) (v := .int (J3 56 21)) dX7_eRead_23 (ltL hn (Nat.le_of_ble_eq_true rfl)) rfl rfl (by decide) in_X7 w_783 rfl (q := 26) rfl ?_
      refine e_iconst C dX7_eRead_26 ic_1 (q := 27) rfl ?_
      refine e_icmpeq C (tgt := 38) (q := 30) dX7_eRead_27 rfl rfl ?_ ?_
      · exact e_lv [0, 2] (lv1 := [(2, .int x2), (0, .ref (oA ω 56))]) rfl (xb_X7_eRead_b38 C hlau hret hn ih x2 _)
      · refine e_aload_n C dX7_eRead_30 rfl 2 rfl (q := 31) rfl ?_
        refine e_getf C (k := 56) (j := 21) (T := TX7) (N := 32) (v := .int (J3 56 21)) dX7_eRead_31 (ltL hn (Nat.le_of_ble_eq_true rfl)) rfl rfl (by decide) in_X7 w_783 rfl (q := 34) rfl ?_
        refine e_iconst C dX7_eRead_34 ic_2 (q := 35) rfl ?_
        refine e_icmpne C (tgt := 75) (q := 38) dX7_eRead_35 rfl rfl ?_ ?_
        · refine e_aload_n C dX7_eRead_75 rfl 2 rfl (q := 76) rfl ?_
          refine e_getf C (k := 56) (j := 21) (T := TX7) (N := 32) (v := .int (J3 56 21)) dX7_eRead_76 (ltL hn (Nat.le_of_ble_eq_true rfl)) rfl rfl (by decide) in_X7 w_783 rfl (q := 79) rfl ?_
          refine e_bipush C dX7_eRead_79 b8_6 (q := 81) rfl ?_
          refine e_icmpne C (tgt := 99) (q := 84) dX7_eRead_81 rfl rfl ?_ ?_
          · exact e_lv [1, 2] (lv1 := [(1, .int x1), (0, .ref (oA ω 56))]) rfl (xb_X7_eRead_b99 C hlau hret hn ih x1 _)
          · refine e_iload_n C dX7_eRead_84 rfl 0 rfl (q := 85) rfl ?_
            refine e_ifeq C (tgt := 99) (q := 88) dX7_eRead_85 rfl rfl ?_ ?_
            · exact e_lv [1, 2] (lv1 := [(1, .int x1), (0, .ref (oA ω 56))]) rfl (xb_X7_eRead_b99 C hlau hret hn ih x1 _)
            · refine e_aload_n C dX7_eRead_88 rfl 2 rfl (q := 89) rfl ?_
              refine e_bipush C dX7_eRead_89 b8_13 (q := 91) rfl ?_
              refine e_callVi C (l := l) (k := 56) (av := [.int (13 : Int32)]) (st := []) hlau (x_X7_opensOne (l := l) (ω := ω) (a1 := (13 : Int32)) hn (I := J3)) dX7_eRead_91 w_746 w_748 w_26 w_67 w_749 md_X7_opensOne (by decide) (by decide) rfl (ltL hn (Nat.le_of_ble_eq_true rfl)) rfl rfl (Nat.le_of_ble_eq_true rfl) (q := 94) rfl (fun v20 J19 => ?_)
              refine e_ifne C (tgt := 14) (q := 97) dX7_eRead_94 rfl rfl ?_ ?_
              · exact ih x2 x1 _
              · refine e_iconst C dX7_eRead_97 ic_0 (q := 98) rfl ?_
                exact e_ireturn C dX7_eRead_98 hret rfl
        · exact e_lv [0, 2] (lv1 := [(2, .int x2), (0, .ref (oA ω 56))]) rfl (xb_X7_eRead_b38 C hlau hret hn ih x2 _)
set_option maxHeartbeats 4000000 in
set_option maxRecDepth 100000 in
theorem x_X7_eRead {l : Launch} {ω : Om}  (hn : 75 ≤ oN ω)  {I : Mem} : CTi l ω yX7_eRead cX7_eRead 4 (some .boolean) 4 [.ref (oA ω 56)] (f_X7_eRead  I) I := by
  refine ct_i (by decide) (Nat.le_of_ble_eq_true rfl) ?_
  intro κ hlau hret C
  refine e_lv [0] (lv1 := [(0, .ref (oA ω 56))]) rfl ?_
  unfold f_X7_eRead
  refine e_aload_n C dX7_eRead_0 rfl 0 rfl (q := 1) rfl ?_
  refine e_iconst C dX7_eRead_1 ic_0 (q := 2) rfl ?_
  refine e_putf C (k := 56) (j := 25) (T := TX7) (N := 32) dX7_eRead_2 (ltL hn (Nat.le_of_ble_eq_true rfl)) rfl rfl (by decide) in_X7 w_787 tyX7_ok nmX7 rfl rfl rfl (show 25 < 32 by decide) (set_Mo_25_ _) (q := 5) rfl ?_
  refine e_nmM (fun J1 => ?_)
  refine e_aload_n C dX7_eRead_5 rfl 0 rfl (q := 6) rfl ?_
  refine e_iconst C dX7_eRead_6 ic_0 (q := 7) rfl ?_
  refine e_putf C (k := 56) (j := 26) (T := TX7) (N := 32) dX7_eRead_7 (ltL hn (Nat.le_of_ble_eq_true rfl)) rfl rfl (by decide) in_X7 w_788 tyX7_ok nmX7 rfl rfl rfl (show 26 < 32 by decide) (set_Mo_26_ _) (q := 10) rfl ?_
  refine e_nmM (fun J2 => ?_)
  refine e_iconst C dX7_eRead_10 ic_1 (q := 11) rfl ?_
  refine e_istore_n C (lv1 := [(1, .int (1 : Int32)), (0, .ref (oA ω 56))]) dX7_eRead_11 rfl (Nat.le_of_ble_eq_true rfl) rfl (q := 12) rfl ?_
  refine e_iconst C dX7_eRead_12 ic_1 (q := 13) rfl ?_
  refine e_istore_n C (lv1 := [(2, .int (1 : Int32)), (1, .int (1 : Int32)), (0, .ref (oA ω 56))]) dX7_eRead_13 rfl (Nat.le_of_ble_eq_true rfl) rfl (q := 14) rfl ?_
  exact xb_X7_eRead_b14 C hlau hret hn FU (1 : Int32) (1 : Int32) _
set_option maxHeartbeats 4000000 in
set_option maxRecDepth 100000 in
theorem xb_X7_text_b122 {l : Launch} {κ : Kx} {ω : Om}  (C : CX κ ω cX7_text 3 5 yX7_text.cls) (hlau : κ.2.1 = l) (hret : κ.2.2.2.2.2.2.2.2.1.sig.returnType = (some .int)) (hn : 75 ≤ oN ω)  : ∀ (x1 : Int32) (I : Mem), EE κ ω 3 (Gi κ ω) (f_X7_text_b122 x1 I) I 122 [(1, .int x1), (0, .ref (oA ω 56))] [] := by
  intro x1 I
  unfold f_X7_text_b122
  refine e_aload_n C dX7_text_122 rfl 1 rfl (q := 123) rfl ?_
  refine e_getf C (k := 56) (j := 9) (T := TX7) (N := 32) (v := .ref (oA ω 63)) dX7_text_123 (ltL hn (Nat.le_of_ble_eq_true rfl)) rfl rfl (by decide) in_X7 w_771 rfl (q := 126) rfl ?_
  refine e_iconst C dX7_text_126 ic_4 (q := 127) rfl ?_
  refine e_aload_n C dX7_text_127 rfl 1 rfl (q := 128) rfl ?_
  refine e_getf C (k := 56) (j := 10) (T := TX7) (N := 32) (v := .int (I 56 10)) dX7_text_128 (ltL hn (Nat.le_of_ble_eq_true rfl)) rfl rfl (by decide) in_X7 w_772 rfl (q := 131) rfl ?_
  refine e_imul C dX7_text_131 (q := 132) rfl ?_
  refine e_iconst C dX7_text_132 ic_3 (q := 133) rfl ?_
  refine e_iadd C dX7_text_133 (q := 134) rfl ?_
  refine e_aload_n C dX7_text_134 rfl 1 rfl (q := 135) rfl ?_
  refine e_getf C (k := 56) (j := 27) (T := TX7) (N := 32) (v := .int (I 56 27)) dX7_text_135 (ltL hn (Nat.le_of_ble_eq_true rfl)) rfl rfl (by decide) in_X7 w_789 rfl (q := 138) rfl ?_
  refine e_iast C (k := 63) (n := 24) dX7_text_138 (ltL hn (Nat.le_of_ble_eq_true rfl)) (fun _ => rfl) (q := 139) rfl ?_
  refine e_nmM (fun J3 => ?_)
  refine e_aload_n C dX7_text_139 rfl 1 rfl (q := 140) rfl ?_
  refine e_iconst C dX7_text_140 ic_0 (q := 141) rfl ?_
  refine e_putf C (k := 56) (j := 7) (T := TX7) (N := 32) dX7_text_141 (ltL hn (Nat.le_of_ble_eq_true rfl)) rfl rfl (by decide) in_X7 w_769 tyX7_ok nmX7 rfl rfl rfl (show 7 < 32 by decide) (set_Mo_7_ _) (q := 144) rfl ?_
  refine e_nmM (fun J4 => ?_)
  refine e_iload_n C dX7_text_144 rfl 0 rfl (q := 145) rfl ?_
  refine e_ifne C (tgt := 156) (q := 148) dX7_text_145 rfl rfl ?_ ?_
  · refine e_aload_n C dX7_text_156 rfl 1 rfl (q := 157) rfl ?_
    refine e_dup C dX7_text_157 rfl (q := 158) rfl ?_
    refine e_getf C (k := 56) (j := 10) (T := TX7) (N := 32) (v := .int (J4 56 10)) dX7_text_158 (ltL hn (Nat.le_of_ble_eq_true rfl)) rfl rfl (by decide) in_X7 w_772 rfl (q := 161) rfl ?_
    refine e_iconst C dX7_text_161 ic_1 (q := 162) rfl ?_
    refine e_iadd C dX7_text_162 (q := 163) rfl ?_
    refine e_putf C (k := 56) (j := 10) (T := TX7) (N := 32) dX7_text_163 (ltL hn (Nat.le_of_ble_eq_true rfl)) rfl rfl (by decide) in_X7 w_772 tyX7_ok nmX7 rfl rfl rfl (show 10 < 32 by decide) (set_Mo_10_ _) (q := 166) rfl ?_
    refine e_nmM (fun J5 => ?_)
    refine e_aload_n C dX7_text_166 rfl 1 rfl (q := 167) rfl ?_
    refine e_getf C (k := 56) (j := 10) (T := TX7) (N := 32) (v := .int (J5 56 10)) dX7_text_167 (ltL hn (Nat.le_of_ble_eq_true rfl)) rfl rfl (by decide) in_X7 w_772 rfl (q := 170) rfl ?_
    refine e_iconst C dX7_text_170 ic_1 (q := 171) rfl ?_
    refine e_isub C dX7_text_171 (q := 172) rfl ?_
    exact e_ireturn C dX7_text_172 hret rfl
  · refine e_bipush C dX7_text_148 b8_m100 (q := 150) rfl ?_
    refine e_aload_n C dX7_text_150 rfl 1 rfl (q := 151) rfl ?_
    refine e_getf C (k := 56) (j := 20) (T := TX7) (N := 32) (v := .int (J4 56 20)) dX7_text_151 (ltL hn (Nat.le_of_ble_eq_true rfl)) rfl rfl (by decide) in_X7 w_782 rfl (q := 154) rfl ?_
    refine e_isub C dX7_text_154 (q := 155) rfl ?_
    exact e_ireturn C dX7_text_155 hret rfl
set_option maxHeartbeats 4000000 in
set_option maxRecDepth 100000 in
theorem xb_X7_text_b121 {l : Launch} {κ : Kx} {ω : Om}  (C : CX κ ω cX7_text 3 5 yX7_text.cls) (hlau : κ.2.1 = l) (hret : κ.2.2.2.2.2.2.2.2.1.sig.returnType = (some .int)) (hn : 75 ≤ oN ω)  : ∀ (s0 : Int32) (I : Mem), EE κ ω 3 (Gi κ ω) (f_X7_text_b121 s0 I) I 121 [(0, .ref (oA ω 56))] [.int s0] := by
  intro s0 I
  unfold f_X7_text_b121
  refine e_istore_n C (lv1 := [(1, .int s0), (0, .ref (oA ω 56))]) dX7_text_121 rfl (Nat.le_of_ble_eq_true rfl) rfl (q := 122) rfl ?_
  exact xb_X7_text_b122 C hlau hret hn s0 _
set_option maxHeartbeats 4000000 in
set_option maxRecDepth 100000 in
theorem xb_X7_text_b101 {l : Launch} {κ : Kx} {ω : Om}  (C : CX κ ω cX7_text 3 5 yX7_text.cls) (hlau : κ.2.1 = l) (hret : κ.2.2.2.2.2.2.2.2.1.sig.returnType = (some .int)) (hn : 75 ≤ oN ω)  : ∀ (x1 : Int32) (I : Mem), EE κ ω 3 (Gi κ ω) (f_X7_text_b101 x1 I) I 101 [(1, .int x1), (0, .ref (oA ω 56))] [] := by
  intro x1 I
  unfold f_X7_text_b101
  refine e_iload_n C dX7_text_101 rfl 0 rfl (q := 102) rfl ?_
  refine e_ifeq C (tgt := 122) (q := 105) dX7_text_102 rfl rfl ?_ ?_
  · exact xb_X7_text_b122 C hlau hret hn x1 _
  · refine e_aload_n C dX7_text_105 rfl 1 rfl (q := 106) rfl ?_
    refine e_callVv C (l := l) (k := 56) (av := []) (st := []) hlau (x_X7_next (l := l) (ω := ω) hn (I := I)) dX7_text_106 w_719 w_721 w_21 w_67 w_722 md_X7_next (by decide) (by decide) rfl (ltL hn (Nat.le_of_ble_eq_true rfl)) rfl rfl (Nat.le_of_ble_eq_true rfl) (q := 109) rfl (fun _ J6 => ?_)
    refine e_aload_n C dX7_text_109 rfl 1 rfl (q := 110) rfl ?_
    refine e_getf C (k := 56) (j := 21) (T := TX7) (N := 32) (v := .int (J6 56 21)) dX7_text_110 (ltL hn (Nat.le_of_ble_eq_true rfl)) rfl rfl (by decide) in_X7 w_783 rfl (q := 113) rfl ?_
    refine e_ifne C (tgt := 120) (q := 116) dX7_text_113 rfl rfl ?_ ?_
    · refine e_iconst C dX7_text_120 ic_0 (q := 121) rfl ?_
      exact e_lv [1] (lv1 := [(0, .ref (oA ω 56))]) rfl (xb_X7_text_b121 C hlau hret hn (0 : Int32) _)
    · refine e_iconst C dX7_text_116 ic_1 (q := 117) rfl ?_
      refine e_goto C (tgt := 121) dX7_text_117 rfl ?_
      exact e_lv [1] (lv1 := [(0, .ref (oA ω 56))]) rfl (xb_X7_text_b121 C hlau hret hn (1 : Int32) _)
set_option maxHeartbeats 4000000 in
set_option maxRecDepth 100000 in
theorem xb_X7_text_b94 {l : Launch} {κ : Kx} {ω : Om}  (C : CX κ ω cX7_text 3 5 yX7_text.cls) (hlau : κ.2.1 = l) (hret : κ.2.2.2.2.2.2.2.2.1.sig.returnType = (some .int)) (hn : 75 ≤ oN ω)  {K26 : Int32 → Int32 → Mem → Option (Int32 × Mem)} (hK26 : ∀ (x2 : Int32) (x1 : Int32) (J : Mem), EE κ ω 3 (Gi κ ω) (K26 x2 x1 J) J 26 [(2, .int x2), (1, .int x1), (0, .ref (oA ω 56))] []) : ∀ (x2 : Int32) (s0 : Int32) (I : Mem), EE κ ω 3 (Gi κ ω) (f_X7_text_b94 K26 x2 s0 I) I 94 [(2, .int x2), (0, .ref (oA ω 56))] [.int s0] := by
  intro x2 s0 I
  unfold f_X7_text_b94
  refine e_istore_n C (lv1 := [(1, .int s0), (2, .int x2), (0, .ref (oA ω 56))]) dX7_text_94 rfl (Nat.le_of_ble_eq_true rfl) rfl (q := 95) rfl ?_
  refine e_iinc C (v := x2 + (1 : Int32)) (lv1 := [(2, .int (x2 + (1 : Int32))), (1, .int s0), (0, .ref (oA ω 56))]) dX7_text_95 1 rfl (Nat.le_of_ble_eq_true rfl) (by rw [ic_1]) rfl (q := 98) rfl ?_
  refine e_goto C (tgt := 26) dX7_text_98 rfl ?_
  exact hK26 (x2 + (1 : Int32)) s0 _
set_option maxHeartbeats 4000000 in
set_option maxRecDepth 100000 in
theorem xb_X7_text_b93 {l : Launch} {κ : Kx} {ω : Om}  (C : CX κ ω cX7_text 3 5 yX7_text.cls) (hlau : κ.2.1 = l) (hret : κ.2.2.2.2.2.2.2.2.1.sig.returnType = (some .int)) (hn : 75 ≤ oN ω)  {K26 : Int32 → Int32 → Mem → Option (Int32 × Mem)} (hK26 : ∀ (x2 : Int32) (x1 : Int32) (J : Mem), EE κ ω 3 (Gi κ ω) (K26 x2 x1 J) J 26 [(2, .int x2), (1, .int x1), (0, .ref (oA ω 56))] []) : ∀ (x2 : Int32) (I : Mem), EE κ ω 3 (Gi κ ω) (f_X7_text_b93 K26 x2 I) I 93 [(2, .int x2), (0, .ref (oA ω 56))] [] := by
  intro x2 I
  unfold f_X7_text_b93
  refine e_iconst C dX7_text_93 ic_0 (q := 94) rfl ?_
  exact xb_X7_text_b94 C hlau hret hn hK26 x2 (0 : Int32) _
set_option maxHeartbeats 4000000 in
set_option maxRecDepth 100000 in
theorem xb_X7_text_b60 {l : Launch} {κ : Kx} {ω : Om}  (C : CX κ ω cX7_text 3 5 yX7_text.cls) (hlau : κ.2.1 = l) (hret : κ.2.2.2.2.2.2.2.2.1.sig.returnType = (some .int)) (hn : 75 ≤ oN ω)  {K26 : Int32 → Int32 → Mem → Option (Int32 × Mem)} (hK26 : ∀ (x2 : Int32) (x1 : Int32) (J : Mem), EE κ ω 3 (Gi κ ω) (K26 x2 x1 J) J 26 [(2, .int x2), (1, .int x1), (0, .ref (oA ω 56))] []) : ∀ (x2 : Int32) (s0 : Int32) (I : Mem), EE κ ω 3 (Gi κ ω) (f_X7_text_b60 K26 x2 s0 I) I 60 [(2, .int x2), (0, .ref (oA ω 56))] [.int s0] := by
  intro x2 s0 I
  unfold f_X7_text_b60
  refine e_istore_n C (lv1 := [(1, .int s0), (2, .int x2), (0, .ref (oA ω 56))]) dX7_text_60 rfl (Nat.le_of_ble_eq_true rfl) rfl (q := 61) rfl ?_
  refine e_aload_n C dX7_text_61 rfl 2 rfl (q := 62) rfl ?_
  refine e_getf C (k := 56) (j := 9) (T := TX7) (N := 32) (v := .ref (oA ω 63)) dX7_text_62 (ltL hn (Nat.le_of_ble_eq_true rfl)) rfl rfl (by decide) in_X7 w_771 rfl (q := 65) rfl ?_
  refine e_iconst C dX7_text_65 ic_4 (q := 66) rfl ?_
  refine e_aload_n C dX7_text_66 rfl 2 rfl (q := 67) rfl ?_
  refine e_getf C (k := 56) (j := 10) (T := TX7) (N := 32) (v := .int (I 56 10)) dX7_text_67 (ltL hn (Nat.le_of_ble_eq_true rfl)) rfl rfl (by decide) in_X7 w_772 rfl (q := 70) rfl ?_
  refine e_imul C dX7_text_70 (q := 71) rfl ?_
  refine e_iload_n C dX7_text_71 rfl 1 rfl (q := 72) rfl ?_
  refine e_iadd C dX7_text_72 (q := 73) rfl ?_
  refine e_aload_n C dX7_text_73 rfl 2 rfl (q := 74) rfl ?_
  refine e_getf C (k := 56) (j := 27) (T := TX7) (N := 32) (v := .int (I 56 27)) dX7_text_74 (ltL hn (Nat.le_of_ble_eq_true rfl)) rfl rfl (by decide) in_X7 w_789 rfl (q := 77) rfl ?_
  refine e_iast C (k := 63) (n := 24) dX7_text_77 (ltL hn (Nat.le_of_ble_eq_true rfl)) (fun _ => rfl) (q := 78) rfl ?_
  refine e_nmM (fun J8 => ?_)
  refine e_iload_n C dX7_text_78 rfl 0 rfl (q := 79) rfl ?_
  refine e_ifeq C (tgt := 93) (q := 82) dX7_text_79 rfl rfl ?_ ?_
  · exact e_lv [1, 2] (lv1 := [(2, .int x2), (0, .ref (oA ω 56))]) rfl (xb_X7_text_b93 C hlau hret hn hK26 x2 _)
  · refine e_aload_n C dX7_text_82 rfl 2 rfl (q := 83) rfl ?_
    refine e_callVi C (l := l) (k := 56) (av := []) (st := []) hlau (x_X7_eRead (l := l) (ω := ω) hn (I := J8)) dX7_text_83 w_730 w_732 w_23 w_67 w_733 md_X7_eRead (by decide) (by decide) rfl (ltL hn (Nat.le_of_ble_eq_true rfl)) rfl rfl (Nat.le_of_ble_eq_true rfl) (q := 86) rfl (fun v10 J9 => ?_)
    refine e_ifeq C (tgt := 93) (q := 89) dX7_text_86 rfl rfl ?_ ?_
    · exact e_lv [1, 2] (lv1 := [(2, .int x2), (0, .ref (oA ω 56))]) rfl (xb_X7_text_b93 C hlau hret hn hK26 x2 _)
    · refine e_iconst C dX7_text_89 ic_1 (q := 90) rfl ?_
      refine e_goto C (tgt := 94) dX7_text_90 rfl ?_
      exact e_lv [1, 2] (lv1 := [(2, .int x2), (0, .ref (oA ω 56))]) rfl (xb_X7_text_b94 C hlau hret hn hK26 x2 (1 : Int32) _)
set_option maxHeartbeats 4000000 in
set_option maxRecDepth 100000 in
theorem xb_X7_text_b59 {l : Launch} {κ : Kx} {ω : Om}  (C : CX κ ω cX7_text 3 5 yX7_text.cls) (hlau : κ.2.1 = l) (hret : κ.2.2.2.2.2.2.2.2.1.sig.returnType = (some .int)) (hn : 75 ≤ oN ω)  {K26 : Int32 → Int32 → Mem → Option (Int32 × Mem)} (hK26 : ∀ (x2 : Int32) (x1 : Int32) (J : Mem), EE κ ω 3 (Gi κ ω) (K26 x2 x1 J) J 26 [(2, .int x2), (1, .int x1), (0, .ref (oA ω 56))] []) : ∀ (x2 : Int32) (I : Mem), EE κ ω 3 (Gi κ ω) (f_X7_text_b59 K26 x2 I) I 59 [(2, .int x2), (0, .ref (oA ω 56))] [] := by
  intro x2 I
  unfold f_X7_text_b59
  refine e_iconst C dX7_text_59 ic_0 (q := 60) rfl ?_
  exact xb_X7_text_b60 C hlau hret hn hK26 x2 (0 : Int32) _
set_option maxHeartbeats 4000000 in
set_option maxRecDepth 100000 in
theorem xb_X7_text_b26 {l : Launch} {κ : Kx} {ω : Om}  (C : CX κ ω cX7_text 3 5 yX7_text.cls) (hlau : κ.2.1 = l) (hret : κ.2.2.2.2.2.2.2.2.1.sig.returnType = (some .int)) (hn : 75 ≤ oN ω)  : ∀ (n : Nat) (x2 : Int32) (x1 : Int32) (I : Mem), EE κ ω 3 (Gi κ ω) (f_X7_text_b26 n x2 x1 I) I 26 [(2, .int x2), (1, .int x1), (0, .ref (oA ω 56))] [] := by
  intro n
  induction n with
  | zero => intro x2 x1 I; exact e_none
  | succ n ih =>
    intro x2 x1 I
    rw [f_X7_text_b26]
    refine e_iload_n C dX7_text_26 rfl 0 rfl (q := 27) rfl ?_
    refine e_iconst C dX7_text_27 ic_3 (q := 28) rfl ?_
    refine e_icmpge C (tgt := 101) (q := 31) dX7_text_28 rfl rfl ?_ ?_
    · exact e_lv [1, 2] (lv1 := [(1, .int x1), (0, .ref (oA ω 56))]) rfl (xb_X7_text_b101 C hlau hret hn x1 _)
    · refine e_iload_n C dX7_text_31 rfl 1 rfl (q := 32) rfl ?_
      refine e_ifeq C (tgt := 101) (q := 35) dX7_text_32 rfl rfl ?_ ?_
      · exact e_lv [1, 2] (lv1 := [(1, .int x1), (0, .ref (oA ω 56))]) rfl (xb_X7_text_b101 C hlau hret hn x1 _)
      · refine e_aload_n C dX7_text_35 rfl 2 rfl (q := 36) rfl ?_
        refine e_callVv C (l := l) (k := 56) (av := []) (st := []) hlau (x_X7_next (l := l) (ω := ω) hn (I := I)) dX7_text_36 w_719 w_721 w_21 w_67 w_722 md_X7_next (by decide) (by decide) rfl (ltL hn (Nat.le_of_ble_eq_true rfl)) rfl rfl (Nat.le_of_ble_eq_true rfl) (q := 39) rfl (fun _ J7 => ?_)
        refine e_aload_n C dX7_text_39 rfl 2 rfl (q := 40) rfl ?_
        refine e_getf C (k := 56) (j := 21) (T := TX7) (N := 32) (v := .int (J7 56 21)) dX7_text_40 (ltL hn (Nat.le_of_ble_eq_true rfl)) rfl rfl (by decide) in_X7 w_783 rfl (q := 43) rfl ?_
        refine e_iconst C dX7_text_43 ic_3 (q := 44) rfl ?_
        refine e_icmpne C (tgt := 59) (q := 47) dX7_text_44 rfl rfl ?_ ?_
        · exact e_lv [0, 2] (lv1 := [(2, .int x2), (0, .ref (oA ω 56))]) rfl (xb_X7_text_b59 C hlau hret hn ih x2 _)
        · refine e_aload_n C dX7_text_47 rfl 2 rfl (q := 48) rfl ?_
          refine e_getf C (k := 56) (j := 22) (T := TX7) (N := 32) (v := .int (J7 56 22)) dX7_text_48 (ltL hn (Nat.le_of_ble_eq_true rfl)) rfl rfl (by decide) in_X7 w_784 rfl (q := 51) rfl ?_
          refine e_iload_n C dX7_text_51 rfl 0 rfl (q := 52) rfl ?_
          refine e_icmpne C (tgt := 59) (q := 55) dX7_text_52 rfl rfl ?_ ?_
          · exact e_lv [0, 2] (lv1 := [(2, .int x2), (0, .ref (oA ω 56))]) rfl (xb_X7_text_b59 C hlau hret hn ih x2 _)
          · refine e_iconst C dX7_text_55 ic_1 (q := 56) rfl ?_
            refine e_goto C (tgt := 60) dX7_text_56 rfl ?_
            exact e_lv [0, 2] (lv1 := [(2, .int x2), (0, .ref (oA ω 56))]) rfl (xb_X7_text_b60 C hlau hret hn ih x2 (1 : Int32) _)
set_option maxHeartbeats 4000000 in
set_option maxRecDepth 100000 in
theorem x_X7_text {l : Launch} {ω : Om}  (hn : 75 ≤ oN ω)  {I : Mem} : CTi l ω yX7_text cX7_text 3 (some .int) 5 [.ref (oA ω 56)] (f_X7_text  I) I := by
  refine ct_i (by decide) (Nat.le_of_ble_eq_true rfl) ?_
  intro κ hlau hret C
  refine e_lv [0] (lv1 := [(0, .ref (oA ω 56))]) rfl ?_
  unfold f_X7_text
  refine e_aload_n C dX7_text_0 rfl 0 rfl (q := 1) rfl ?_
  refine e_getf C (k := 56) (j := 10) (T := TX7) (N := 32) (v := .int (I 56 10)) dX7_text_1 (ltL hn (Nat.le_of_ble_eq_true rfl)) rfl rfl (by decide) in_X7 w_772 rfl (q := 4) rfl ?_
  refine e_bipush C dX7_text_4 b8_6 (q := 6) rfl ?_
  refine e_icmpne C (tgt := 12) (q := 9) dX7_text_6 rfl rfl ?_ ?_
  · refine e_aload_n C dX7_text_12 rfl 0 rfl (q := 13) rfl ?_
    refine e_iconst C dX7_text_13 ic_0 (q := 14) rfl ?_
    refine e_putf C (k := 56) (j := 19) (T := TX7) (N := 32) dX7_text_14 (ltL hn (Nat.le_of_ble_eq_true rfl)) rfl rfl (by decide) in_X7 w_781 tyX7_ok nmX7 rfl rfl rfl (show 19 < 32 by decide) (set_Mo_19_ _) (q := 17) rfl ?_
    refine e_nmM (fun J1 => ?_)
    refine e_aload_n C dX7_text_17 rfl 0 rfl (q := 18) rfl ?_
    refine e_iconst C dX7_text_18 ic_0 (q := 19) rfl ?_
    refine e_putf C (k := 56) (j := 27) (T := TX7) (N := 32) dX7_text_19 (ltL hn (Nat.le_of_ble_eq_true rfl)) rfl rfl (by decide) in_X7 w_789 tyX7_ok nmX7 rfl rfl rfl (show 27 < 32 by decide) (set_Mo_27_ _) (q := 22) rfl ?_
    refine e_nmM (fun J2 => ?_)
    refine e_iconst C dX7_text_22 ic_1 (q := 23) rfl ?_
    refine e_istore_n C (lv1 := [(1, .int (1 : Int32)), (0, .ref (oA ω 56))]) dX7_text_23 rfl (Nat.le_of_ble_eq_true rfl) rfl (q := 24) rfl ?_
    refine e_iconst C dX7_text_24 ic_0 (q := 25) rfl ?_
    refine e_istore_n C (lv1 := [(2, .int (0 : Int32)), (1, .int (1 : Int32)), (0, .ref (oA ω 56))]) dX7_text_25 rfl (Nat.le_of_ble_eq_true rfl) rfl (q := 26) rfl ?_
    exact xb_X7_text_b26 C hlau hret hn FU (0 : Int32) (1 : Int32) _
  · refine e_bipush C dX7_text_9 b8_m4 (q := 11) rfl ?_
    exact e_ireturn C dX7_text_11 hret rfl
set_option maxHeartbeats 4000000 in
set_option maxRecDepth 100000 in
theorem xb_X7_two_b52 {l : Launch} {κ : Kx} {ω : Om} {a0 : Int32} {a1 : Int32} {a2 : Int32} (C : CX κ ω cX7_two 3 1 yX7_two.cls) (hlau : κ.2.1 = l) (hret : κ.2.2.2.2.2.2.2.2.1.sig.returnType = (some .int)) (hn : 75 ≤ oN ω)  : ∀  (I : Mem), EE κ ω 3 (Gi κ ω) (f_X7_two_b52 a0 a1 a2  I) I 52 [] [] := by
  intro  I
  unfold f_X7_two_b52
  refine e_iconst C dX7_two_52 ic_1 (q := 53) rfl ?_
  refine e_goto C (tgt := 57) dX7_two_53 rfl ?_
  exact e_ireturn C dX7_two_57 hret rfl
set_option maxHeartbeats 4000000 in
set_option maxRecDepth 100000 in
theorem x_X7_two {l : Launch} {ω : Om} {a0 : Int32} {a1 : Int32} {a2 : Int32} (hn : 75 ≤ oN ω)  {I : Mem} : CTi l ω yX7_two cX7_two 3 (some .int) 1 [.int a0, .int a1, .int a2] (f_X7_two a0 a1 a2 I) I := by
  refine ct_i (by decide) (Nat.le_of_ble_eq_true rfl) ?_
  intro κ hlau hret C
  refine e_lv [0, 1, 2] (lv1 := [(0, .int a0), (1, .int a1), (2, .int a2)]) rfl ?_
  unfold f_X7_two
  refine e_iload_n C dX7_two_0 rfl 0 rfl (q := 1) rfl ?_
  refine e_if (fun h1 => ?_) (fun h1 => ?_)
  · refine e_tabIn C (v := 11) (off := 43) (tgt := 44) dX7_two_1 (by rw [h1]; rfl) (by decide) rfl rfl ?_
    refine e_iload_n C dX7_two_44 rfl 1 rfl (q := 45) rfl ?_
    refine e_ifne C (tgt := 52) (q := 48) dX7_two_45 rfl rfl ?_ ?_
    · exact e_lv [] (lv1 := []) rfl (xb_X7_two_b52 C hlau hret hn _)
    · refine e_iload_n C dX7_two_48 rfl 2 rfl (q := 49) rfl ?_
      refine e_ifeq C (tgt := 56) (q := 52) dX7_two_49 rfl rfl ?_ ?_
      · refine e_iconst C dX7_two_56 ic_0 (q := 57) rfl ?_
        exact e_ireturn C dX7_two_57 hret rfl
      · exact e_lv [] (lv1 := []) rfl (xb_X7_two_b52 C hlau hret hn _)
  · refine e_if (fun h2 => ?_) (fun h2 => ?_)
    · refine e_tabIn C (v := 12) (off := 57) (tgt := 58) dX7_two_1 (by rw [h2]; rfl) (by decide) rfl rfl ?_
      refine e_iload_n C dX7_two_58 rfl 1 rfl (q := 59) rfl ?_
      refine e_ifeq C (tgt := 70) (q := 62) dX7_two_59 rfl rfl ?_ ?_
      · refine e_iconst C dX7_two_70 ic_0 (q := 71) rfl ?_
        exact e_ireturn C dX7_two_71 hret rfl
      · refine e_iload_n C dX7_two_62 rfl 2 rfl (q := 63) rfl ?_
        refine e_ifeq C (tgt := 70) (q := 66) dX7_two_63 rfl rfl ?_ ?_
        · refine e_iconst C dX7_two_70 ic_0 (q := 71) rfl ?_
          exact e_ireturn C dX7_two_71 hret rfl
        · refine e_iconst C dX7_two_66 ic_1 (q := 67) rfl ?_
          refine e_goto C (tgt := 71) dX7_two_67 rfl ?_
          exact e_ireturn C dX7_two_71 hret rfl
    · refine e_if (fun h3 => ?_) (fun h3 => ?_)
      · refine e_tabIn C (v := 13) (off := 101) (tgt := 102) dX7_two_1 (by rw [h3]; rfl) (by decide) rfl rfl ?_
        refine e_iload_n C dX7_two_102 rfl 1 rfl (q := 103) rfl ?_
        refine e_iload_n C dX7_two_103 rfl 2 rfl (q := 104) rfl ?_
        refine e_imul C dX7_two_104 (q := 105) rfl ?_
        exact e_ireturn C dX7_two_105 hret rfl
      · refine e_if (fun h4 => ?_) (fun h4 => ?_)
        · refine e_tabIn C (v := 14) (off := 71) (tgt := 72) dX7_two_1 (by rw [h4]; rfl) (by decide) rfl rfl ?_
          refine e_iload_n C dX7_two_72 rfl 1 rfl (q := 73) rfl ?_
          refine e_iload_n C dX7_two_73 rfl 2 rfl (q := 74) rfl ?_
          refine e_icmpge C (tgt := 81) (q := 77) dX7_two_74 rfl rfl ?_ ?_
          · refine e_iconst C dX7_two_81 ic_0 (q := 82) rfl ?_
            exact e_ireturn C dX7_two_82 hret rfl
          · refine e_iconst C dX7_two_77 ic_1 (q := 78) rfl ?_
            refine e_goto C (tgt := 82) dX7_two_78 rfl ?_
            exact e_ireturn C dX7_two_82 hret rfl
        · refine e_if (fun h5 => ?_) (fun h5 => ?_)
          · refine e_tabIn C (v := 15) (off := 82) (tgt := 83) dX7_two_1 (by rw [h5]; rfl) (by decide) rfl rfl ?_
            refine e_iload_n C dX7_two_83 rfl 1 rfl (q := 84) rfl ?_
            refine e_iload_n C dX7_two_84 rfl 2 rfl (q := 85) rfl ?_
            refine e_icmpne C (tgt := 92) (q := 88) dX7_two_85 rfl rfl ?_ ?_
            · refine e_iconst C dX7_two_92 ic_0 (q := 93) rfl ?_
              exact e_ireturn C dX7_two_93 hret rfl
            · refine e_iconst C dX7_two_88 ic_1 (q := 89) rfl ?_
              refine e_goto C (tgt := 93) dX7_two_89 rfl ?_
              exact e_ireturn C dX7_two_93 hret rfl
          · refine e_if (fun h6 => ?_) (fun h6 => ?_)
            · refine e_tabIn C (v := 16) (off := 93) (tgt := 94) dX7_two_1 (by rw [h6]; rfl) (by decide) rfl rfl ?_
              refine e_iload_n C dX7_two_94 rfl 1 rfl (q := 95) rfl ?_
              refine e_iload_n C dX7_two_95 rfl 2 rfl (q := 96) rfl ?_
              refine e_iadd C dX7_two_96 (q := 97) rfl ?_
              exact e_ireturn C dX7_two_97 hret rfl
            · refine e_if (fun h7 => ?_) (fun h7 => ?_)
              · refine e_tabIn C (v := 17) (off := 97) (tgt := 98) dX7_two_1 (by rw [h7]; rfl) (by decide) rfl rfl ?_
                refine e_iload_n C dX7_two_98 rfl 1 rfl (q := 99) rfl ?_
                refine e_iload_n C dX7_two_99 rfl 2 rfl (q := 100) rfl ?_
                refine e_isub C dX7_two_100 (q := 101) rfl ?_
                exact e_ireturn C dX7_two_101 hret rfl
              · refine e_tabOut C (tgt := 102) dX7_two_1 (by have g0 := i32_ne h1; have g1 := i32_ne h2; have g2 := i32_ne h3; have g3 := i32_ne h4; have g4 := i32_ne h5; have g5 := i32_ne h6; have g6 := i32_ne h7; have f0 : ((11 : Int32)).toInt = 11 := rfl; have f1 : ((12 : Int32)).toInt = 12 := rfl; have f2 : ((13 : Int32)).toInt = 13 := rfl; have f3 : ((14 : Int32)).toInt = 14 := rfl; have f4 : ((15 : Int32)).toInt = 15 := rfl; have f5 : ((16 : Int32)).toInt = 16 := rfl; have f6 : ((17 : Int32)).toInt = 17 := rfl; omega) rfl ?_
                refine e_iload_n C dX7_two_102 rfl 1 rfl (q := 103) rfl ?_
                refine e_iload_n C dX7_two_103 rfl 2 rfl (q := 104) rfl ?_
                refine e_imul C dX7_two_104 (q := 105) rfl ?_
                exact e_ireturn C dX7_two_105 hret rfl
