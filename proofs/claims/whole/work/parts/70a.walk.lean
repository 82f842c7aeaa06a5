/-! WALKS, written by program (wip/gen) -/
set_option maxHeartbeats 4000000 in
set_option maxRecDepth 100000 in
theorem x_X6_within {l : Launch} {ω : Om} {a0 : Int32} {a1 : Int32} {a2 : Int32} (hn : 56 ≤ oN ω)  {I : Mem} : CTi l ω yX6_within cX6_within 3 (some .boolean) 1 [.int a0, .int a1, .int a2] (f_X6_within a0 a1 a2 I) I := by
  refine ct_i (by decide) (Nat.le_of_ble_eq_true rfl) ?_
  intro κ hlau hret C
  refine e_lv [0, 1, 2] (lv1 := [(0, .int a0), (1, .int a1), (2, .int a2)]) rfl ?_
  unfold f_X6_within
  refine e_iload_n C dX6_within_0 rfl 0 rfl (q := 1) rfl ?_
  refine e_iload_n C dX6_within_1 rfl 1 rfl (q := 2) rfl ?_
  refine e_icmplt C (tgt := 14) (q := 5) dX6_within_2 rfl rfl ?_ ?_
  · refine e_iconst C dX6_within_14 ic_0 (q := 15) rfl ?_
    exact e_ireturn C dX6_within_15 hret rfl
  · refine e_iload_n C dX6_within_5 rfl 0 rfl (q := 6) rfl ?_
    refine e_iload_n C dX6_within_6 rfl 2 rfl (q := 7) rfl ?_
    refine e_icmpgt C (tgt := 14) (q := 10) dX6_within_7 rfl rfl ?_ ?_
    · refine e_iconst C dX6_within_14 ic_0 (q := 15) rfl ?_
      exact e_ireturn C dX6_within_15 hret rfl
    · refine e_iconst C dX6_within_10 ic_1 (q := 11) rfl ?_
      refine e_goto C (tgt := 15) dX6_within_11 rfl ?_
      exact e_ireturn C dX6_within_15 hret rfl
set_option maxHeartbeats 4000000 in
set_option maxRecDepth 100000 in
theorem xb_X0_isOne_b36 {l : Launch} {κ : Kx} {ω : Om} {a0 : Int32} {a1 : Int32} (C : CX κ ω cX0_isOne 4 2 yX0_isOne.cls) (hlau : κ.2.1 = l) (hret : κ.2.2.2.2.2.2.2.2.1.sig.returnType = (some .boolean)) (hn : 56 ≤ oN ω)  : ∀ (x2 : Int32) (I : Mem), EE κ ω 4 (Gi κ ω) (f_X0_isOne_b36 a0 a1 x2 I) I 36 [(2, .int x2), (1, .int a1)] [] := by
  intro x2 I
  unfold f_X0_isOne_b36
  refine e_iload_n C dX0_isOne_36 rfl 0 rfl (q := 37) rfl ?_
  refine e_iload_n C dX0_isOne_37 rfl 1 rfl (q := 38) rfl ?_
  refine e_icmpne C (tgt := 45) (q := 41) dX0_isOne_38 rfl rfl ?_ ?_
  · refine e_iconst C dX0_isOne_45 ic_0 (q := 46) rfl ?_
    exact e_ireturn C dX0_isOne_46 hret rfl
  · refine e_iconst C dX0_isOne_41 ic_1 (q := 42) rfl ?_
    refine e_goto C (tgt := 46) dX0_isOne_42 rfl ?_
    exact e_ireturn C dX0_isOne_46 hret rfl
set_option maxHeartbeats 4000000 in
set_option maxRecDepth 100000 in
theorem xb_X0_isOne_b4 {l : Launch} {κ : Kx} {ω : Om} {a0 : Int32} {a1 : Int32} (C : CX κ ω cX0_isOne 4 2 yX0_isOne.cls) (hlau : κ.2.1 = l) (hret : κ.2.2.2.2.2.2.2.2.1.sig.returnType = (some .boolean)) (hn : 56 ≤ oN ω)  : ∀ (n : Nat) (x3 : Int32) (x2 : Int32) (I : Mem), EE κ ω 4 (Gi κ ω) (f_X0_isOne_b4 a0 a1 n x3 x2 I) I 4 [(3, .int x3), (2, .int x2), (1, .int a1)] [] := by
  intro n
  induction n with
  | zero => intro x3 x2 I; exact e_none
  | succ n ih =>
    intro x3 x2 I
    rw [f_X0_isOne_b4]
    refine e_iload_n C dX0_isOne_4 rfl 0 rfl (q := 5) rfl ?_
    refine e_bipush C dX0_isOne_5 b8_6 (q := 7) rfl ?_
    refine e_icmpge C (tgt := 36) (q := 10) dX0_isOne_7 rfl rfl ?_ ?_
    · exact e_lv [1, 2] (lv1 := [(2, .int x2), (1, .int a1)]) rfl (xb_X0_isOne_b36 C hlau hret hn x2 _)
    · refine e_iload_n C dX0_isOne_10 rfl 1 rfl (q := 11) rfl ?_
      refine e_iload_n C dX0_isOne_11 rfl 2 rfl (q := 12) rfl ?_
      refine e_icmpeq C (tgt := 36) (q := 15) dX0_isOne_12 rfl rfl ?_ ?_
      · exact e_lv [1, 2] (lv1 := [(2, .int x2), (1, .int a1)]) rfl (xb_X0_isOne_b36 C hlau hret hn x2 _)
      · refine e_iload_n C dX0_isOne_15 rfl 1 rfl (q := 16) rfl ?_
        refine e_iconst C dX0_isOne_16 ic_0 (q := 17) rfl ?_
        refine e_iconst C dX0_isOne_17 ic_5 (q := 18) rfl ?_
        refine e_callNi C (l := l) (av := [.int x2, .int (0 : Int32), .int (5 : Int32)]) (st := []) hlau (x_X6_within (l := l) (ω := ω) (a0 := x2) (a1 := (0 : Int32)) (a2 := (5 : Int32)) hn (I := I)) dX0_isOne_18 rfl w_391 ⟨rfl, rfl⟩ w_56 w_392 md_X6_within (by decide) (by decide) rfl (Nat.le_of_ble_eq_true rfl) (q := 21) rfl (fun v2 J1 => ?_)
        refine e_ifeq C (tgt := 36) (q := 24) dX0_isOne_21 rfl rfl ?_ ?_
        · exact e_lv [1, 2] (lv1 := [(2, .int x2), (1, .int a1)]) rfl (xb_X0_isOne_b36 C hlau hret hn x2 _)
        · refine e_above C dX0_isOne_24 w_707 (q := 27) rfl (fun t3 hT4 => ?_)
          refine e_iload_n C dX0_isOne_27 rfl 1 rfl (q := 28) rfl ?_
          refine e_aldA C hT4 dX0_isOne_28 (q := 29) rfl ?_
          refine e_nmi (fun v5 => ?_)
          refine e_istore_n C (lv1 := [(2, .int v5), (3, .int x3), (1, .int a1)]) dX0_isOne_29 rfl (Nat.le_of_ble_eq_true rfl) rfl (q := 30) rfl ?_
          refine e_iinc C (v := x3 + (1 : Int32)) (lv1 := [(3, .int (x3 + (1 : Int32))), (2, .int v5), (1, .int a1)]) dX0_isOne_30 1 rfl (Nat.le_of_ble_eq_true rfl) (by rw [ic_1]) rfl (q := 33) rfl ?_
          refine e_goto C (tgt := 4) dX0_isOne_33 rfl ?_
          exact ih (x3 + (1 : Int32)) v5 _
set_option maxHeartbeats 4000000 in
set_option maxRecDepth 100000 in
theorem x_X0_isOne {l : Launch} {ω : Om} {a0 : Int32} {a1 : Int32} (hn : 56 ≤ oN ω)  {I : Mem} : CTi l ω yX0_isOne cX0_isOne 4 (some .boolean) 2 [.int a0, .int a1] (f_X0_isOne a0 a1 I) I := by
  refine ct_i (by decide) (Nat.le_of_ble_eq_true rfl) ?_
  intro κ hlau hret C
  refine e_lv [0, 1] (lv1 := [(0, .int a0), (1, .int a1)]) rfl ?_
  unfold f_X0_isOne
  refine e_iload_n C dX0_isOne_0 rfl 0 rfl (q := 1) rfl ?_
  refine e_istore_n C (lv1 := [(2, .int a0), (0, .int a0), (1, .int a1)]) dX0_isOne_1 rfl (Nat.le_of_ble_eq_true rfl) rfl (q := 2) rfl ?_
  refine e_iconst C dX0_isOne_2 ic_0 (q := 3) rfl ?_
  refine e_istore_n C (lv1 := [(3, .int (0 : Int32)), (2, .int a0), (0, .int a0), (1, .int a1)]) dX0_isOne_3 rfl (Nat.le_of_ble_eq_true rfl) rfl (q := 4) rfl ?_
  exact e_lv [0, 1, 3] (lv1 := [(3, .int (0 : Int32)), (2, .int a0), (1, .int a1)]) rfl (xb_X0_isOne_b4 C hlau hret hn FU (0 : Int32) a0 _)
set_option maxHeartbeats 4000000 in
set_option maxRecDepth 100000 in
theorem xb_X0_goes_b45 {l : Launch} {κ : Kx} {ω : Om} {a0 : Int32} {a1 : Int32} {a2 : Int32} {a3 : Int32} (C : CX κ ω cX0_goes 4 1 yX0_goes.cls) (hlau : κ.2.1 = l) (hret : κ.2.2.2.2.2.2.2.2.1.sig.returnType = (some .boolean)) (hn : 56 ≤ oN ω)  : ∀  (I : Mem), EE κ ω 4 (Gi κ ω) (f_X0_goes_b45 a0 a1 a2 a3  I) I 45 [] [] := by
  intro  I
  unfold f_X0_goes_b45
  refine e_iconst C dX0_goes_45 ic_1 (q := 46) rfl ?_
  refine e_goto C (tgt := 50) dX0_goes_46 rfl ?_
  exact e_ireturn C dX0_goes_50 hret rfl
set_option maxHeartbeats 4000000 in
set_option maxRecDepth 100000 in
theorem x_X0_goes {l : Launch} {ω : Om} {a0 : Int32} {a1 : Int32} {a2 : Int32} {a3 : Int32} (hn : 56 ≤ oN ω)  {I : Mem} : CTi l ω yX0_goes cX0_goes 4 (some .boolean) 1 [.int a0, .int a1, .int a2, .int a3] (f_X0_goes a0 a1 a2 a3 I) I := by
  refine ct_i (by decide) (Nat.le_of_ble_eq_true rfl) ?_
  intro κ hlau hret C
  refine e_lv [0, 1, 2, 3] (lv1 := [(0, .int a0), (1, .int a1), (2, .int a2), (3, .int a3)]) rfl ?_
  unfold f_X0_goes
  refine e_iload_n C dX0_goes_0 rfl 0 rfl (q := 1) rfl ?_
  refine e_if (fun h1 => ?_) (fun h1 => ?_)
  · refine e_tabIn C (v := 2) (off := 31) (tgt := 32) dX0_goes_1 (by rw [h1]; rfl) (by decide) rfl rfl ?_
    refine e_iload_n C dX0_goes_32 rfl 3 rfl (q := 33) rfl ?_
    refine e_ifne C (tgt := 45) (q := 36) dX0_goes_33 rfl rfl ?_ ?_
    · exact e_lv [] (lv1 := []) rfl (xb_X0_goes_b45 C hlau hret hn _)
    · refine e_iload_n C dX0_goes_36 rfl 2 rfl (q := 37) rfl ?_
      refine e_iconst C dX0_goes_37 ic_3 (q := 38) rfl ?_
      refine e_irem C dX0_goes_38 (by decide) (q := 39) rfl ?_
      refine e_iload_n C dX0_goes_39 rfl 1 rfl (q := 40) rfl ?_
      refine e_iconst C dX0_goes_40 ic_3 (q := 41) rfl ?_
      refine e_irem C dX0_goes_41 (by decide) (q := 42) rfl ?_
      refine e_icmpne C (tgt := 49) (q := 45) dX0_goes_42 rfl rfl ?_ ?_
      · refine e_iconst C dX0_goes_49 ic_0 (q := 50) rfl ?_
        exact e_ireturn C dX0_goes_50 hret rfl
      · exact e_lv [] (lv1 := []) rfl (xb_X0_goes_b45 C hlau hret hn _)
  · refine e_if (fun h2 => ?_) (fun h2 => ?_)
    · refine e_tabIn C (v := 3) (off := 50) (tgt := 51) dX0_goes_1 (by rw [h2]; rfl) (by decide) rfl rfl ?_
      refine e_iload_n C dX0_goes_51 rfl 3 rfl (q := 52) rfl ?_
      refine e_ifeq C (tgt := 64) (q := 55) dX0_goes_52 rfl rfl ?_ ?_
      · refine e_iconst C dX0_goes_64 ic_0 (q := 65) rfl ?_
        exact e_ireturn C dX0_goes_65 hret rfl
      · refine e_iload_n C dX0_goes_55 rfl 2 rfl (q := 56) rfl ?_
        refine e_iload_n C dX0_goes_56 rfl 1 rfl (q := 57) rfl ?_
        refine e_icmplt C (tgt := 64) (q := 60) dX0_goes_57 rfl rfl ?_ ?_
        · refine e_iconst C dX0_goes_64 ic_0 (q := 65) rfl ?_
          exact e_ireturn C dX0_goes_65 hret rfl
        · refine e_iconst C dX0_goes_60 ic_1 (q := 61) rfl ?_
          refine e_goto C (tgt := 65) dX0_goes_61 rfl ?_
          exact e_ireturn C dX0_goes_65 hret rfl
    · refine e_if (fun h3 => ?_) (fun h3 => ?_)
      · refine e_tabIn C (v := 4) (off := 31) (tgt := 32) dX0_goes_1 (by rw [h3]; rfl) (by decide) rfl rfl ?_
        refine e_iload_n C dX0_goes_32 rfl 3 rfl (q := 33) rfl ?_
        refine e_ifne C (tgt := 45) (q := 36) dX0_goes_33 rfl rfl ?_ ?_
        · exact e_lv [] (lv1 := []) rfl (xb_X0_goes_b45 C hlau hret hn _)
        · refine e_iload_n C dX0_goes_36 rfl 2 rfl (q := 37) rfl ?_
          refine e_iconst C dX0_goes_37 ic_3 (q := 38) rfl ?_
          refine e_irem C dX0_goes_38 (by decide) (q := 39) rfl ?_
          refine e_iload_n C dX0_goes_39 rfl 1 rfl (q := 40) rfl ?_
          refine e_iconst C dX0_goes_40 ic_3 (q := 41) rfl ?_
          refine e_irem C dX0_goes_41 (by decide) (q := 42) rfl ?_
          refine e_icmpne C (tgt := 49) (q := 45) dX0_goes_42 rfl rfl ?_ ?_
          · refine e_iconst C dX0_goes_49 ic_0 (q := 50) rfl ?_
            exact e_ireturn C dX0_goes_50 hret rfl
          · exact e_lv [] (lv1 := []) rfl (xb_X0_goes_b45 C hlau hret hn _)
      · refine e_if (fun h4 => ?_) (fun h4 => ?_)
        · refine e_tabIn C (v := 5) (off := 65) (tgt := 66) dX0_goes_1 (by rw [h4]; rfl) (by decide) rfl rfl ?_
          refine e_iconst C dX0_goes_66 ic_0 (q := 67) rfl ?_
          exact e_ireturn C dX0_goes_67 hret rfl
        · refine e_tabOut C (tgt := 68) dX0_goes_1 (by have g0 := i32_ne h1; have g1 := i32_ne h2; have g2 := i32_ne h3; have g3 := i32_ne h4; have f0 : ((2 : Int32)).toInt = 2 := rfl; have f1 : ((3 : Int32)).toInt = 3 := rfl; have f2 : ((4 : Int32)).toInt = 4 := rfl; have f3 : ((5 : Int32)).toInt = 5 := rfl; omega) rfl ?_
          refine e_iload_n C dX0_goes_68 rfl 3 rfl (q := 69) rfl ?_
          exact e_ireturn_t C dX0_goes_69 hret rfl rfl
set_option maxHeartbeats 4000000 in
set_option maxRecDepth 100000 in
theorem xb_X0_hits_b14 {l : Launch} {κ : Kx} {ω : Om} {a0 : Int32} {a1 : Int32} {a2 : Int32} {a3 : Int32} {a4 : Int32} (C : CX κ ω cX0_hits 6 1 yX0_hits.cls) (hlau : κ.2.1 = l) (hret : κ.2.2.2.2.2.2.2.2.1.sig.returnType = (some .int)) (hn : 56 ≤ oN ω)  : ∀ (s0 : Int32) (I : Mem), EE κ ω 6 (Gi κ ω) (f_X0_hits_b14 a0 a1 a2 a3 a4 s0 I) I 14 [(0, .int a0), (1, .int a1), (2, .int a2), (3, .int a3), (4, .int a4)] [.int s0] := by
  intro s0 I
  unfold f_X0_hits_b14
  refine e_istore C (lv1 := [(5, .int s0), (0, .int a0), (1, .int a1), (2, .int a2), (3, .int a3), (4, .int a4)]) dX0_hits_14 (Nat.le_of_ble_eq_true rfl) rfl (q := 16) rfl ?_
  refine e_iload_n C dX0_hits_16 rfl 1 rfl (q := 17) rfl ?_
  refine e_if (fun h1 => ?_) (fun h1 => ?_)
  · refine e_tabIn C (v := 1) (off := 31) (tgt := 48) dX0_hits_17 (by rw [h1]; rfl) (by decide) rfl rfl ?_
    refine e_iload C dX0_hits_48 5 rfl (q := 50) rfl ?_
    refine e_iload_n C dX0_hits_50 rfl 2 rfl (q := 51) rfl ?_
    refine e_iadd C dX0_hits_51 (q := 52) rfl ?_
    exact e_ireturn C dX0_hits_52 hret rfl
  · refine e_if (fun h2 => ?_) (fun h2 => ?_)
    · refine e_tabIn C (v := 2) (off := 36) (tgt := 53) dX0_hits_17 (by rw [h2]; rfl) (by decide) rfl rfl ?_
      refine e_iload C dX0_hits_53 0 rfl (q := 55) rfl ?_
      exact e_ireturn C dX0_hits_55 hret rfl
    · refine e_if (fun h3 => ?_) (fun h3 => ?_)
      · refine e_tabIn C (v := 3) (off := 39) (tgt := 56) dX0_hits_17 (by rw [h3]; rfl) (by decide) rfl rfl ?_
        refine e_iload_n C dX0_hits_56 rfl 4 rfl (q := 57) rfl ?_
        refine e_iconst C dX0_hits_57 ic_2 (q := 58) rfl ?_
        refine e_irem C dX0_hits_58 (by decide) (q := 59) rfl ?_
        refine e_ifne C (tgt := 69) (q := 62) dX0_hits_59 rfl rfl ?_ ?_
        · refine e_iconst C dX0_hits_69 ic_1 (q := 70) rfl ?_
          exact e_ireturn C dX0_hits_70 hret rfl
        · refine e_iload C dX0_hits_62 5 rfl (q := 64) rfl ?_
          refine e_iload_n C dX0_hits_64 rfl 2 rfl (q := 65) rfl ?_
          refine e_iadd C dX0_hits_65 (q := 66) rfl ?_
          refine e_goto C (tgt := 70) dX0_hits_66 rfl ?_
          exact e_ireturn C dX0_hits_70 hret rfl
      · refine e_if (fun h4 => ?_) (fun h4 => ?_)
        · refine e_tabIn C (v := 4) (off := 54) (tgt := 71) dX0_hits_17 (by rw [h4]; rfl) (by decide) rfl rfl ?_
          refine e_iload_n C dX0_hits_71 rfl 3 rfl (q := 72) rfl ?_
          refine e_iconst C dX0_hits_72 ic_5 (q := 73) rfl ?_
          refine e_icmpne C (tgt := 80) (q := 76) dX0_hits_73 rfl rfl ?_ ?_
          · refine e_iload C dX0_hits_80 0 rfl (q := 82) rfl ?_
            refine e_iconst C dX0_hits_82 ic_1 (q := 83) rfl ?_
            refine e_iadd C dX0_hits_83 (q := 84) rfl ?_
            exact e_ireturn C dX0_hits_84 hret rfl
          · refine e_iconst C dX0_hits_76 ic_0 (q := 77) rfl ?_
            refine e_goto C (tgt := 84) dX0_hits_77 rfl ?_
            exact e_ireturn C dX0_hits_84 hret rfl
        · refine e_tabOut C (tgt := 85) dX0_hits_17 (by have g0 := i32_ne h1; have g1 := i32_ne h2; have g2 := i32_ne h3; have g3 := i32_ne h4; have f0 : ((1 : Int32)).toInt = 1 := rfl; have f1 : ((2 : Int32)).toInt = 2 := rfl; have f2 : ((3 : Int32)).toInt = 3 := rfl; have f3 : ((4 : Int32)).toInt = 4 := rfl; omega) rfl ?_
          refine e_iload C dX0_hits_85 5 rfl (q := 87) rfl ?_
          exact e_ireturn C dX0_hits_87 hret rfl
set_option maxHeartbeats 4000000 in
set_option maxRecDepth 100000 in
theorem x_X0_hits {l : Launch} {ω : Om} {a0 : Int32} {a1 : Int32} {a2 : Int32} {a3 : Int32} {a4 : Int32} (hn : 56 ≤ oN ω)  {I : Mem} : CTi l ω yX0_hits cX0_hits 6 (some .int) 1 [.int a0, .int a1, .int a2, .int a3, .int a4] (f_X0_hits a0 a1 a2 a3 a4 I) I := by
  refine ct_i (by decide) (Nat.le_of_ble_eq_true rfl) ?_
  intro κ hlau hret C
  refine e_lv [0, 1, 2, 3, 4] (lv1 := [(0, .int a0), (1, .int a1), (2, .int a2), (3, .int a3), (4, .int a4)]) rfl ?_
  unfold f_X0_hits
  refine e_iload_n C dX0_hits_0 rfl 2 rfl (q := 1) rfl ?_
  refine e_iconst C dX0_hits_1 ic_1 (q := 2) rfl ?_
  refine e_icmpne C (tgt := 12) (q := 5) dX0_hits_2 rfl rfl ?_ ?_
  · refine e_iload C dX0_hits_12 4 rfl (q := 14) rfl ?_
    exact xb_X0_hits_b14 C hlau hret hn a4 _
  · refine e_iconst C dX0_hits_5 ic_2 (q := 6) rfl ?_
    refine e_iload C dX0_hits_6 4 rfl (q := 8) rfl ?_
    refine e_imul C dX0_hits_8 (q := 9) rfl ?_
    refine e_goto C (tgt := 14) dX0_hits_9 rfl ?_
    exact xb_X0_hits_b14 C hlau hret hn ((2 : Int32) * a4) _
set_option maxHeartbeats 4000000 in
set_option maxRecDepth 100000 in
theorem x_X0_soft {l : Launch} {ω : Om} {a0 : Int32} {a1 : Int32} {a2 : Int32} (hn : 56 ≤ oN ω)  {I : Mem} : CTi l ω yX0_soft cX0_soft 3 (some .int) 1 [.int a0, .int a1, .int a2] (f_X0_soft a0 a1 a2 I) I := by
  refine ct_i (by decide) (Nat.le_of_ble_eq_true rfl) ?_
  intro κ hlau hret C
  refine e_lv [0, 1, 2] (lv1 := [(0, .int a0), (1, .int a1), (2, .int a2)]) rfl ?_
  unfold f_X0_soft
  refine e_iload_n C dX0_soft_0 rfl 0 rfl (q := 1) rfl ?_
  refine e_if (fun h1 => ?_) (fun h1 => ?_)
  · refine e_tabIn C (v := 1) (off := 35) (tgt := 36) dX0_soft_1 (by rw [h1]; rfl) (by decide) rfl rfl ?_
    refine e_iload_n C dX0_soft_36 rfl 2 rfl (q := 37) rfl ?_
    refine e_iload_n C dX0_soft_37 rfl 1 rfl (q := 38) rfl ?_
    refine e_isub C dX0_soft_38 (q := 39) rfl ?_
    exact e_ireturn C dX0_soft_39 hret rfl
  · refine e_if (fun h2 => ?_) (fun h2 => ?_)
    · refine e_tabIn C (v := 2) (off := 49) (tgt := 50) dX0_soft_1 (by rw [h2]; rfl) (by decide) rfl rfl ?_
      refine e_iload_n C dX0_soft_50 rfl 2 rfl (q := 51) rfl ?_
      exact e_ireturn C dX0_soft_51 hret rfl
    · refine e_if (fun h3 => ?_) (fun h3 => ?_)
      · refine e_tabIn C (v := 3) (off := 35) (tgt := 36) dX0_soft_1 (by rw [h3]; rfl) (by decide) rfl rfl ?_
        refine e_iload_n C dX0_soft_36 rfl 2 rfl (q := 37) rfl ?_
        refine e_iload_n C dX0_soft_37 rfl 1 rfl (q := 38) rfl ?_
        refine e_isub C dX0_soft_38 (q := 39) rfl ?_
        exact e_ireturn C dX0_soft_39 hret rfl
      · refine e_if (fun h4 => ?_) (fun h4 => ?_)
        · refine e_tabIn C (v := 4) (off := 39) (tgt := 40) dX0_soft_1 (by rw [h4]; rfl) (by decide) rfl rfl ?_
          refine e_iload_n C dX0_soft_40 rfl 2 rfl (q := 41) rfl ?_
          refine e_iload_n C dX0_soft_41 rfl 1 rfl (q := 42) rfl ?_
          refine e_iadd C dX0_soft_42 (q := 43) rfl ?_
          exact e_ireturn C dX0_soft_43 hret rfl
        · refine e_if (fun h5 => ?_) (fun h5 => ?_)
          · refine e_tabIn C (v := 5) (off := 43) (tgt := 44) dX0_soft_1 (by rw [h5]; rfl) (by decide) rfl rfl ?_
            refine e_iconst C dX0_soft_44 ic_3 (q := 45) rfl ?_
            refine e_iload_n C dX0_soft_45 rfl 2 rfl (q := 46) rfl ?_
            refine e_imul C dX0_soft_46 (q := 47) rfl ?_
            refine e_iload_n C dX0_soft_47 rfl 1 rfl (q := 48) rfl ?_
            refine e_iadd C dX0_soft_48 (q := 49) rfl ?_
            exact e_ireturn C dX0_soft_49 hret rfl
          · refine e_tabOut C (tgt := 50) dX0_soft_1 (by have g0 := i32_ne h1; have g1 := i32_ne h2; have g2 := i32_ne h3; have g3 := i32_ne h4; have g4 := i32_ne h5; have f0 : ((1 : Int32)).toInt = 1 := rfl; have f1 : ((2 : Int32)).toInt = 2 := rfl; have f2 : ((3 : Int32)).toInt = 3 := rfl; have f3 : ((4 : Int32)).toInt = 4 := rfl; have f4 : ((5 : Int32)).toInt = 5 := rfl; omega) rfl ?_
            refine e_iload_n C dX0_soft_50 rfl 2 rfl (q := 51) rfl ?_
            exact e_ireturn C dX0_soft_51 hret rfl
set_option maxHeartbeats 4000000 in
set_option maxRecDepth 100000 in
theorem x_X4_clear {l : Launch} {ω : Om} {τ : Nat} (hn : 56 ≤ oN ω) (hτ : τ < 6) {I : Mem} : CTv l ω yX4_clear cX4_clear 1 none 1 [.ref (oA ω (30 + 3 * τ))] (f_X4_clear τ I) I := by
  refine ct_v (by decide) (Nat.le_of_ble_eq_true rfl) ?_
  intro κ hlau hret C
  refine e_lv [0] (lv1 := [(0, .ref (oA ω (30 + 3 * τ)))]) rfl ?_
  unfold f_X4_clear
  refine e_aload_n C dX4_clear_0 rfl 0 rfl (q := 1) rfl ?_
  refine e_iconst C dX4_clear_1 ic_0 (q := 2) rfl ?_
  refine e_putf C (k := (30 + 3 * τ)) (j := 3) (T := TX4) (N := 4) dX4_clear_2 (ltTx hn hτ) (cOb_Tx (τ := τ) hτ _) rfl (by decide) in_X4 w_176 tyX4_ok nmX4 rfl rfl rfl (show 3 < 4 by decide) (set_Tx_3_ (τ := τ) hτ _) (q := 5) rfl ?_
  refine e_nmM (fun J1 => ?_)
  exact e_vreturn C dX4_clear_5 hret
set_option maxHeartbeats 4000000 in
set_option maxRecDepth 100000 in
theorem x_X1_isLetter {l : Launch} {ω : Om} {a0 : Int32} (hn : 56 ≤ oN ω)  {I : Mem} : CTi l ω yX1_isLetter cX1_isLetter 1 (some .boolean) 1 [.int a0] (f_X1_isLetter a0 I) I := by
  refine ct_i (by decide) (Nat.le_of_ble_eq_true rfl) ?_
  intro κ hlau hret C
  refine e_lv [0] (lv1 := [(0, .int a0)]) rfl ?_
  unfold f_X1_isLetter
  refine e_iload_n C dX1_isLetter_0 rfl 0 rfl (q := 1) rfl ?_
  refine e_bipush C dX1_isLetter_1 b8_97 (q := 3) rfl ?_
  refine e_icmplt C (tgt := 16) (q := 6) dX1_isLetter_3 rfl rfl ?_ ?_
  · refine e_iconst C dX1_isLetter_16 ic_0 (q := 17) rfl ?_
    exact e_ireturn C dX1_isLetter_17 hret rfl
  · refine e_iload_n C dX1_isLetter_6 rfl 0 rfl (q := 7) rfl ?_
    refine e_bipush C dX1_isLetter_7 b8_122 (q := 9) rfl ?_
    refine e_icmpgt C (tgt := 16) (q := 12) dX1_isLetter_9 rfl rfl ?_ ?_
    · refine e_iconst C dX1_isLetter_16 ic_0 (q := 17) rfl ?_
      exact e_ireturn C dX1_isLetter_17 hret rfl
    · refine e_iconst C dX1_isLetter_12 ic_1 (q := 13) rfl ?_
      refine e_goto C (tgt := 17) dX1_isLetter_13 rfl ?_
      exact e_ireturn C dX1_isLetter_17 hret rfl
set_option maxHeartbeats 4000000 in
set_option maxRecDepth 100000 in
theorem xb_X1_spells_b20 {l : Launch} {κ : Kx} {ω : Om} {w1 : Nat} (C : CX κ ω cX1_spells 3 7 yX1_spells.cls) (hlau : κ.2.1 = l) (hret : κ.2.2.2.2.2.2.2.2.1.sig.returnType = (some .boolean)) (hn : 56 ≤ oN ω) (hw1 : w1 < 13) : ∀ (n : Nat) (x2 : Int32) (I : Mem), EE κ ω 3 (Gi κ ω) (f_X1_spells_b20 w1 n x2 I) I 20 [(2, .int x2), (0, .ref (oA ω 26)), (1, .ref (oK ω w1))] [] := by
  intro n
  induction n with
  | zero => intro x2 I; exact e_none
  | succ n ih =>
    intro x2 I
    rw [f_X1_spells_b20]
    refine e_iload_n C dX1_spells_20 rfl 0 rfl (q := 21) rfl ?_
    refine e_aload_n C dX1_spells_21 rfl 2 rfl (q := 22) rfl ?_
    refine e_callWi C (l := l) (j := w1) (av := []) (st := [.int x2]) hlau (x_J0_length_8abf5 (l := l) (ω := ω) (i := w1) hn hw1 (I := I)) dX1_spells_22 w_280 w_206 w_207 w_61 w_208 md_J0_length_8abf5 (by decide) (by decide) rfl hw1 rfl (Nat.le_of_ble_eq_true rfl) (q := 25) rfl (fun v4 J3 => ?_)
    refine e_icmpge C (tgt := 55) (q := 28) dX1_spells_25 rfl rfl ?_ ?_
    · refine e_iconst C dX1_spells_55 ic_1 (q := 56) rfl ?_
      exact e_ireturn C dX1_spells_56 hret rfl
    · refine e_aload_n C dX1_spells_28 rfl 1 rfl (q := 29) rfl ?_
      refine e_bytes C hn dX1_spells_29 in_X1 w_144 (q := 32) rfl ?_
      refine e_aload_n C dX1_spells_32 rfl 1 rfl (q := 33) rfl ?_
      refine e_getf C (k := 26) (j := 3) (T := TX1) (N := 7) (v := .int (J3 26 3)) dX1_spells_33 (ltL hn (Nat.le_of_ble_eq_true rfl)) rfl rfl (by decide) in_X1 w_147 rfl (q := 36) rfl ?_
      refine e_iload_n C dX1_spells_36 rfl 0 rfl (q := 37) rfl ?_
      refine e_iadd C dX1_spells_37 (q := 38) rfl ?_
      refine e_iald C (k := 27) (n := 160) dX1_spells_38 (ltL hn (Nat.le_of_ble_eq_true rfl)) rfl (q := 39) rfl ?_
      refine e_aload_n C dX1_spells_39 rfl 2 rfl (q := 40) rfl ?_
      refine e_iload_n C dX1_spells_40 rfl 0 rfl (q := 41) rfl ?_
      refine e_callWi C (l := l) (j := w1) (av := [.int x2]) (st := [.int (J3 27 ((J3 26 3) + x2).toNatClampNeg)]) hlau (x_J0_charAt_5068e (l := l) (ω := ω) (i := w1) (a1 := x2) hn hw1 (I := J3)) dX1_spells_41 w_281 w_216 w_217 w_61 w_218 md_J0_charAt_5068e (by decide) (by decide) rfl hw1 rfl (Nat.le_of_ble_eq_true rfl) (q := 44) rfl (fun v6 J5 => ?_)
      refine e_icmpeq C (tgt := 49) (q := 47) dX1_spells_44 rfl rfl ?_ ?_
      · refine e_iinc C (v := x2 + (1 : Int32)) (lv1 := [(2, .int (x2 + (1 : Int32))), (0, .ref (oA ω 26)), (1, .ref (oK ω w1))]) dX1_spells_49 0 rfl (Nat.le_of_ble_eq_true rfl) (by rw [ic_1]) rfl (q := 52) rfl ?_
        refine e_goto C (tgt := 20) dX1_spells_52 rfl ?_
        exact ih (x2 + (1 : Int32)) _
      · refine e_iconst C dX1_spells_47 ic_0 (q := 48) rfl ?_
        exact e_ireturn C dX1_spells_48 hret rfl
set_option maxHeartbeats 4000000 in
set_option maxRecDepth 100000 in
theorem x_X1_spells {l : Launch} {ω : Om} {w1 : Nat} (hn : 56 ≤ oN ω) (hw1 : w1 < 13) {I : Mem} : CTi l ω yX1_spells cX1_spells 3 (some .boolean) 7 [.ref (oA ω 26), .ref (oK ω w1)] (f_X1_spells w1 I) I := by
  refine ct_i (by decide) (Nat.le_of_ble_eq_true rfl) ?_
  intro κ hlau hret C
  refine e_lv [0, 1] (lv1 := [(0, .ref (oA ω 26)), (1, .ref (oK ω w1))]) rfl ?_
  unfold f_X1_spells
  refine e_aload_n C dX1_spells_0 rfl 0 rfl (q := 1) rfl ?_
  refine e_getf C (k := 26) (j := 2) (T := TX1) (N := 7) (v := .int (I 26 2)) dX1_spells_1 (ltL hn (Nat.le_of_ble_eq_true rfl)) rfl rfl (by decide) in_X1 w_146 rfl (q := 4) rfl ?_
  refine e_aload_n C dX1_spells_4 rfl 0 rfl (q := 5) rfl ?_
  refine e_getf C (k := 26) (j := 3) (T := TX1) (N := 7) (v := .int (I 26 3)) dX1_spells_5 (ltL hn (Nat.le_of_ble_eq_true rfl)) rfl rfl (by decide) in_X1 w_147 rfl (q := 8) rfl ?_
  refine e_isub C dX1_spells_8 (q := 9) rfl ?_
  refine e_aload_n C dX1_spells_9 rfl 1 rfl (q := 10) rfl ?_
  refine e_callWi C (l := l) (j := w1) (av := []) (st := [.int ((I 26 2) - (I 26 3))]) hlau (x_J0_length_8abf5 (l := l) (ω := ω) (i := w1) hn hw1 (I := I)) dX1_spells_10 w_280 w_206 w_207 w_61 w_208 md_J0_length_8abf5 (by decide) (by decide) rfl hw1 rfl (Nat.le_of_ble_eq_true rfl) (q := 13) rfl (fun v2 J1 => ?_)
  refine e_icmpeq C (tgt := 18) (q := 16) dX1_spells_13 rfl rfl ?_ ?_
  · refine e_iconst C dX1_spells_18 ic_0 (q := 19) rfl ?_
    refine e_istore_n C (lv1 := [(2, .int (0 : Int32)), (0, .ref (oA ω 26)), (1, .ref (oK ω w1))]) dX1_spells_19 rfl (Nat.le_of_ble_eq_true rfl) rfl (q := 20) rfl ?_
    exact xb_X1_spells_b20 C hlau hret hn hw1 FU (0 : Int32) _
  · refine e_iconst C dX1_spells_16 ic_0 (q := 17) rfl ?_
    exact e_ireturn C dX1_spells_17 hret rfl
set_option maxHeartbeats 4000000 in
set_option maxRecDepth 100000 in
theorem xb_X1_nextWord_b39 {l : Launch} {κ : Kx} {ω : Om}  (C : CX κ ω cX1_nextWord 1 8 yX1_nextWord.cls) (hlau : κ.2.1 = l) (hret : κ.2.2.2.2.2.2.2.2.1.sig.returnType = (some .int)) (hn : 56 ≤ oN ω)  : ∀  (I : Mem), EE κ ω 1 (Gi κ ω) (f_X1_nextWord_b39  I) I 39 [(0, .ref (oA ω 26))] [] := by
  intro  I
  unfold f_X1_nextWord_b39
  refine e_aload_n C dX1_nextWord_39 rfl 0 rfl (q := 40) rfl ?_
  refine e_ldcS C (i := 1) (by decide) rfl rfl dX1_nextWord_40 (q := 42) rfl ?_
  refine e_callVi C (l := l) (k := 26) (av := [.ref (oK ω 1)]) (st := []) hlau (x_X1_spells (l := l) (ω := ω) (w1 := 1) hn (by decide) (I := I)) dX1_nextWord_42 w_276 w_278 w_2 w_58 w_279 md_X1_spells (by decide) (by decide) rfl (ltL hn (Nat.le_of_ble_eq_true rfl)) rfl rfl (Nat.le_of_ble_eq_true rfl) (q := 45) rfl (fun v2 J1 => ?_)
  refine e_ifeq C (tgt := 53) (q := 48) dX1_nextWord_45 rfl rfl ?_ ?_
  · refine e_aload_n C dX1_nextWord_53 rfl 0 rfl (q := 54) rfl ?_
    refine e_ldcS C (i := 2) (by decide) rfl rfl dX1_nextWord_54 (q := 56) rfl ?_
    refine e_callVi C (l := l) (k := 26) (av := [.ref (oK ω 2)]) (st := []) hlau (x_X1_spells (l := l) (ω := ω) (w1 := 2) hn (by decide) (I := J1)) dX1_nextWord_56 w_276 w_278 w_2 w_58 w_279 md_X1_spells (by decide) (by decide) rfl (ltL hn (Nat.le_of_ble_eq_true rfl)) rfl rfl (Nat.le_of_ble_eq_true rfl) (q := 59) rfl (fun v4 J3 => ?_)
    refine e_ifeq C (tgt := 67) (q := 62) dX1_nextWord_59 rfl rfl ?_ ?_
    · refine e_aload_n C dX1_nextWord_67 rfl 0 rfl (q := 68) rfl ?_
      refine e_ldcS C (i := 3) (by decide) rfl rfl dX1_nextWord_68 (q := 70) rfl ?_
      refine e_callVi C (l := l) (k := 26) (av := [.ref (oK ω 3)]) (st := []) hlau (x_X1_spells (l := l) (ω := ω) (w1 := 3) hn (by decide) (I := J3)) dX1_nextWord_70 w_276 w_278 w_2 w_58 w_279 md_X1_spells (by decide) (by decide) rfl (ltL hn (Nat.le_of_ble_eq_true rfl)) rfl rfl (Nat.le_of_ble_eq_true rfl) (q := 73) rfl (fun v6 J5 => ?_)
      refine e_ifeq C (tgt := 81) (q := 76) dX1_nextWord_73 rfl rfl ?_ ?_
      · refine e_aload_n C dX1_nextWord_81 rfl 0 rfl (q := 82) rfl ?_
        refine e_ldcS C (i := 4) (by decide) rfl rfl dX1_nextWord_82 (q := 84) rfl ?_
        refine e_callVi C (l := l) (k := 26) (av := [.ref (oK ω 4)]) (st := []) hlau (x_X1_spells (l := l) (ω := ω) (w1 := 4) hn (by decide) (I := J5)) dX1_nextWord_84 w_276 w_278 w_2 w_58 w_279 md_X1_spells (by decide) (by decide) rfl (ltL hn (Nat.le_of_ble_eq_true rfl)) rfl rfl (Nat.le_of_ble_eq_true rfl) (q := 87) rfl (fun v8 J7 => ?_)
        refine e_ifeq C (tgt := 95) (q := 90) dX1_nextWord_87 rfl rfl ?_ ?_
        · refine e_aload_n C dX1_nextWord_95 rfl 0 rfl (q := 96) rfl ?_
          refine e_ldcS C (i := 5) (by decide) rfl rfl dX1_nextWord_96 (q := 98) rfl ?_
          refine e_callVi C (l := l) (k := 26) (av := [.ref (oK ω 5)]) (st := []) hlau (x_X1_spells (l := l) (ω := ω) (w1 := 5) hn (by decide) (I := J7)) dX1_nextWord_98 w_276 w_278 w_2 w_58 w_279 md_X1_spells (by decide) (by decide) rfl (ltL hn (Nat.le_of_ble_eq_true rfl)) rfl rfl (Nat.le_of_ble_eq_true rfl) (q := 101) rfl (fun v10 J9 => ?_)
          refine e_ifeq C (tgt := 109) (q := 104) dX1_nextWord_101 rfl rfl ?_ ?_
          · refine e_aload_n C dX1_nextWord_109 rfl 0 rfl (q := 110) rfl ?_
            refine e_ldcS C (i := 6) (by decide) rfl rfl dX1_nextWord_110 (q := 112) rfl ?_
            refine e_callVi C (l := l) (k := 26) (av := [.ref (oK ω 6)]) (st := []) hlau (x_X1_spells (l := l) (ω := ω) (w1 := 6) hn (by decide) (I := J9)) dX1_nextWord_112 w_276 w_278 w_2 w_58 w_279 md_X1_spells (by decide) (by decide) rfl (ltL hn (Nat.le_of_ble_eq_true rfl)) rfl rfl (Nat.le_of_ble_eq_true rfl) (q := 115) rfl (fun v12 J11 => ?_)
            refine e_ifeq C (tgt := 123) (q := 118) dX1_nextWord_115 rfl rfl ?_ ?_
            · refine e_aload_n C dX1_nextWord_123 rfl 0 rfl (q := 124) rfl ?_
              refine e_ldcS C (i := 7) (by decide) rfl rfl dX1_nextWord_124 (q := 126) rfl ?_
              refine e_callVi C (l := l) (k := 26) (av := [.ref (oK ω 7)]) (st := []) hlau (x_X1_spells (l := l) (ω := ω) (w1 := 7) hn (by decide) (I := J11)) dX1_nextWord_126 w_276 w_278 w_2 w_58 w_279 md_X1_spells (by decide) (by decide) rfl (ltL hn (Nat.le_of_ble_eq_true rfl)) rfl rfl (Nat.le_of_ble_eq_true rfl) (q := 129) rfl (fun v14 J13 => ?_)
              refine e_ifeq C (tgt := 137) (q := 132) dX1_nextWord_129 rfl rfl ?_ ?_
              · refine e_aload_n C dX1_nextWord_137 rfl 0 rfl (q := 138) rfl ?_
                refine e_ldcS C (i := 8) (by decide) rfl rfl dX1_nextWord_138 (q := 140) rfl ?_
                refine e_callVi C (l := l) (k := 26) (av := [.ref (oK ω 8)]) (st := []) hlau (x_X1_spells (l := l) (ω := ω) (w1 := 8) hn (by decide) (I := J13)) dX1_nextWord_140 w_276 w_278 w_2 w_58 w_279 md_X1_spells (by decide) (by decide) rfl (ltL hn (Nat.le_of_ble_eq_true rfl)) rfl rfl (Nat.le_of_ble_eq_true rfl) (q := 143) rfl (fun v16 J15 => ?_)
                refine e_ifeq C (tgt := 151) (q := 146) dX1_nextWord_143 rfl rfl ?_ ?_
                · refine e_aload_n C dX1_nextWord_151 rfl 0 rfl (q := 152) rfl ?_
                  refine e_ldcS C (i := 9) (by decide) rfl rfl dX1_nextWord_152 (q := 154) rfl ?_
                  refine e_callVi C (l := l) (k := 26) (av := [.ref (oK ω 9)]) (st := []) hlau (x_X1_spells (l := l) (ω := ω) (w1 := 9) hn (by decide) (I := J15)) dX1_nextWord_154 w_276 w_278 w_2 w_58 w_279 md_X1_spells (by decide) (by decide) rfl (ltL hn (Nat.le_of_ble_eq_true rfl)) rfl rfl (Nat.le_of_ble_eq_true rfl) (q := 157) rfl (fun v18 J17 => ?_)
                  refine e_ifeq C (tgt := 165) (q := 160) dX1_nextWord_157 rfl rfl ?_ ?_
                  · refine e_aload_n C dX1_nextWord_165 rfl 0 rfl (q := 166) rfl ?_
                    refine e_ldcS C (i := 10) (by decide) rfl rfl dX1_nextWord_166 (q := 168) rfl ?_
                    refine e_callVi C (l := l) (k := 26) (av := [.ref (oK ω 10)]) (st := []) hlau (x_X1_spells (l := l) (ω := ω) (w1 := 10) hn (by decide) (I := J17)) dX1_nextWord_168 w_276 w_278 w_2 w_58 w_279 md_X1_spells (by decide) (by decide) rfl (ltL hn (Nat.le_of_ble_eq_true rfl)) rfl rfl (Nat.le_of_ble_eq_true rfl) (q := 171) rfl (fun v20 J19 => ?_)
                    refine e_ifeq C (tgt := 179) (q := 174) dX1_nextWord_171 rfl rfl ?_ ?_
                    · refine e_aload_n C dX1_nextWord_179 rfl 0 rfl (q := 180) rfl ?_
                      refine e_ldcS C (i := 11) (by decide) rfl rfl dX1_nextWord_180 (q := 182) rfl ?_
                      refine e_callVi C (l := l) (k := 26) (av := [.ref (oK ω 11)]) (st := []) hlau (x_X1_spells (l := l) (ω := ω) (w1 := 11) hn (by decide) (I := J19)) dX1_nextWord_182 w_276 w_278 w_2 w_58 w_279 md_X1_spells (by decide) (by decide) rfl (ltL hn (Nat.le_of_ble_eq_true rfl)) rfl rfl (Nat.le_of_ble_eq_true rfl) (q := 185) rfl (fun v22 J21 => ?_)
                      refine e_ifeq C (tgt := 193) (q := 188) dX1_nextWord_185 rfl rfl ?_ ?_
                      · refine e_aload_n C dX1_nextWord_193 rfl 0 rfl (q := 194) rfl ?_
                        refine e_ldcS C (i := 12) (by decide) rfl rfl dX1_nextWord_194 (q := 196) rfl ?_
                        refine e_callVi C (l := l) (k := 26) (av := [.ref (oK ω 12)]) (st := []) hlau (x_X1_spells (l := l) (ω := ω) (w1 := 12) hn (by decide) (I := J21)) dX1_nextWord_196 w_276 w_278 w_2 w_58 w_279 md_X1_spells (by decide) (by decide) rfl (ltL hn (Nat.le_of_ble_eq_true rfl)) rfl rfl (Nat.le_of_ble_eq_true rfl) (q := 199) rfl (fun v24 J23 => ?_)
                        refine e_ifeq C (tgt := 207) (q := 202) dX1_nextWord_199 rfl rfl ?_ ?_
                        · refine e_bipush C dX1_nextWord_207 b8_m2 (q := 209) rfl ?_
                          exact e_ireturn C dX1_nextWord_209 hret rfl
                        · refine e_bipush C dX1_nextWord_202 b8_m14 (q := 204) rfl ?_
                          refine e_goto C (tgt := 209) dX1_nextWord_204 rfl ?_
                          exact e_ireturn C dX1_nextWord_209 hret rfl
                      · refine e_bipush C dX1_nextWord_188 b8_m13 (q := 190) rfl ?_
                        refine e_goto C (tgt := 209) dX1_nextWord_190 rfl ?_
                        exact e_ireturn C dX1_nextWord_209 hret rfl
                    · refine e_bipush C dX1_nextWord_174 b8_m12 (q := 176) rfl ?_
                      refine e_goto C (tgt := 209) dX1_nextWord_176 rfl ?_
                      exact e_ireturn C dX1_nextWord_209 hret rfl
                  · refine e_bipush C dX1_nextWord_160 b8_m11 (q := 162) rfl ?_
                    refine e_goto C (tgt := 209) dX1_nextWord_162 rfl ?_
                    exact e_ireturn C dX1_nextWord_209 hret rfl
                · refine e_bipush C dX1_nextWord_146 b8_m10 (q := 148) rfl ?_
                  refine e_goto C (tgt := 209) dX1_nextWord_148 rfl ?_
                  exact e_ireturn C dX1_nextWord_209 hret rfl
              · refine e_bipush C dX1_nextWord_132 b8_m9 (q := 134) rfl ?_
                refine e_goto C (tgt := 209) dX1_nextWord_134 rfl ?_
                exact e_ireturn C dX1_nextWord_209 hret rfl
            · refine e_bipush C dX1_nextWord_118 b8_m8 (q := 120) rfl ?_
              refine e_goto C (tgt := 209) dX1_nextWord_120 rfl ?_
              exact e_ireturn C dX1_nextWord_209 hret rfl
          · refine e_bipush C dX1_nextWord_104 b8_m7 (q := 106) rfl ?_
            refine e_goto C (tgt := 209) dX1_nextWord_106 rfl ?_
            exact e_ireturn C dX1_nextWord_209 hret rfl
        · refine e_bipush C dX1_nextWord_90 b8_m6 (q := 92) rfl ?_
          refine e_goto C (tgt := 209) dX1_nextWord_92 rfl ?_
          exact e_ireturn C dX1_nextWord_209 hret rfl
      · refine e_bipush C dX1_nextWord_76 b8_m5 (q := 78) rfl ?_
        refine e_goto C (tgt := 209) dX1_nextWord_78 rfl ?_
        exact e_ireturn C dX1_nextWord_209 hret rfl
    · refine e_bipush C dX1_nextWord_62 b8_m4 (q := 64) rfl ?_
      refine e_goto C (tgt := 209) dX1_nextWord_64 rfl ?_
      exact e_ireturn C dX1_nextWord_209 hret rfl
  · refine e_bipush C dX1_nextWord_48 b8_m3 (q := 50) rfl ?_
    refine e_goto C (tgt := 209) dX1_nextWord_50 rfl ?_
    exact e_ireturn C dX1_nextWord_209 hret rfl
set_option maxHeartbeats 4000000 in
set_option maxRecDepth 100000 in
theorem xb_X1_nextWord_b0 {l : Launch} {κ : Kx} {ω : Om}  (C : CX κ ω cX1_nextWord 1 8 yX1_nextWord.cls) (hlau : κ.2.1 = l) (hret : κ.2.2.2.2.2.2.2.2.1.sig.returnType = (some .int)) (hn : 56 ≤ oN ω)  : ∀ (n : Nat)  (I : Mem), EE κ ω 1 (Gi κ ω) (f_X1_nextWord_b0 n  I) I 0 [(0, .ref (oA ω 26))] [] := by
  intro n
  induction n with
  | zero => intro  I; exact e_none
  | succ n ih =>
    intro  I
    rw [f_X1_nextWord_b0]
    refine e_aload_n C dX1_nextWord_0 rfl 0 rfl (q := 1) rfl ?_
    refine e_getf C (k := 26) (j := 2) (T := TX1) (N := 7) (v := .int (I 26 2)) dX1_nextWord_1 (ltL hn (Nat.le_of_ble_eq_true rfl)) rfl rfl (by decide) in_X1 w_146 rfl (q := 4) rfl ?_
    refine e_aload_n C dX1_nextWord_4 rfl 0 rfl (q := 5) rfl ?_
    refine e_getf C (k := 26) (j := 1) (T := TX1) (N := 7) (v := .int (I 26 1)) dX1_nextWord_5 (ltL hn (Nat.le_of_ble_eq_true rfl)) rfl rfl (by decide) in_X1 w_145 rfl (q := 8) rfl ?_
    refine e_icmpge C (tgt := 39) (q := 11) dX1_nextWord_8 rfl rfl ?_ ?_
    · exact xb_X1_nextWord_b39 C hlau hret hn _
    · refine e_aload_n C dX1_nextWord_11 rfl 0 rfl (q := 12) rfl ?_
      refine e_bytes C hn dX1_nextWord_12 in_X1 w_144 (q := 15) rfl ?_
      refine e_aload_n C dX1_nextWord_15 rfl 0 rfl (q := 16) rfl ?_
      refine e_getf C (k := 26) (j := 2) (T := TX1) (N := 7) (v := .int (I 26 2)) dX1_nextWord_16 (ltL hn (Nat.le_of_ble_eq_true rfl)) rfl rfl (by decide) in_X1 w_146 rfl (q := 19) rfl ?_
      refine e_iald C (k := 27) (n := 160) dX1_nextWord_19 (ltL hn (Nat.le_of_ble_eq_true rfl)) rfl (q := 20) rfl ?_
      refine e_callSi C (l := l) (av := [.int (I 27 (I 26 2).toNatClampNeg)]) (st := []) hlau (x_X1_isLetter (l := l) (ω := ω) (a0 := I 27 (I 26 2).toNatClampNeg) hn (I := I)) dX1_nextWord_20 w_268 w_269 w_58 w_270 md_X1_isLetter (by decide) (by decide) rfl (Nat.le_of_ble_eq_true rfl) (q := 23) rfl (fun v26 J25 => ?_)
      refine e_ifeq C (tgt := 39) (q := 26) dX1_nextWord_23 rfl rfl ?_ ?_
      · exact xb_X1_nextWord_b39 C hlau hret hn _
      · refine e_aload_n C dX1_nextWord_26 rfl 0 rfl (q := 27) rfl ?_
        refine e_dup C dX1_nextWord_27 rfl (q := 28) rfl ?_
        refine e_getf C (k := 26) (j := 2) (T := TX1) (N := 7) (v := .int (J25 26 2)) dX1_nextWord_28 (ltL hn (Nat.le_of_ble_eq_true rfl)) rfl rfl (by decide) in_X1 w_146 rfl (q := 31) rfl ?_
        refine e_iconst C dX1_nextWord_31 ic_1 (q := 32) rfl ?_
        refine e_iadd C dX1_nextWord_32 (q := 33) rfl ?_
        refine e_putf C (k := 26) (j := 2) (T := TX1) (N := 7) dX1_nextWord_33 (ltL hn (Nat.le_of_ble_eq_true rfl)) rfl rfl (by decide) in_X1 w_146 tyX1_ok nmX1 rfl rfl rfl (show 2 < 7 by decide) (set_Rd_2_ _) (q := 36) rfl ?_
        refine e_nmM (fun J27 => ?_)
        refine e_goto C (tgt := 0) dX1_nextWord_36 rfl ?_
        exact ih _
set_option maxHeartbeats 4000000 in
set_option maxRecDepth 100000 in
theorem x_X1_nextWord {l : Launch} {ω : Om}  (hn : 56 ≤ oN ω)  {I : Mem} : CTi l ω yX1_nextWord cX1_nextWord 1 (some .int) 8 [.ref (oA ω 26)] (f_X1_nextWord  I) I := by
  refine ct_i (by decide) (Nat.le_of_ble_eq_true rfl) ?_
  intro κ hlau hret C
  refine e_lv [0] (lv1 := [(0, .ref (oA ω 26))]) rfl ?_
  unfold f_X1_nextWord
  exact xb_X1_nextWord_b0 C hlau hret hn FU _
set_option maxHeartbeats 4000000 in
set_option maxRecDepth 100000 in
theorem x_X1_isDigit {l : Launch} {ω : Om} {a0 : Int32} (hn : 56 ≤ oN ω)  {I : Mem} : CTi l ω yX1_isDigit cX1_isDigit 1 (some .boolean) 1 [.int a0] (f_X1_isDigit a0 I) I := by
  refine ct_i (by decide) (Nat.le_of_ble_eq_true rfl) ?_
  intro κ hlau hret C
  refine e_lv [0] (lv1 := [(0, .int a0)]) rfl ?_
  unfold f_X1_isDigit
  refine e_iload_n C dX1_isDigit_0 rfl 0 rfl (q := 1) rfl ?_
  refine e_bipush C dX1_isDigit_1 b8_48 (q := 3) rfl ?_
  refine e_icmplt C (tgt := 16) (q := 6) dX1_isDigit_3 rfl rfl ?_ ?_
  · refine e_iconst C dX1_isDigit_16 ic_0 (q := 17) rfl ?_
    exact e_ireturn C dX1_isDigit_17 hret rfl
  · refine e_iload_n C dX1_isDigit_6 rfl 0 rfl (q := 7) rfl ?_
    refine e_bipush C dX1_isDigit_7 b8_57 (q := 9) rfl ?_
    refine e_icmpgt C (tgt := 16) (q := 12) dX1_isDigit_9 rfl rfl ?_ ?_
    · refine e_iconst C dX1_isDigit_16 ic_0 (q := 17) rfl ?_
      exact e_ireturn C dX1_isDigit_17 hret rfl
    · refine e_iconst C dX1_isDigit_12 ic_1 (q := 13) rfl ?_
      refine e_goto C (tgt := 17) dX1_isDigit_13 rfl ?_
      exact e_ireturn C dX1_isDigit_17 hret rfl
set_option maxHeartbeats 4000000 in
set_option maxRecDepth 100000 in
theorem xb_X1_nextNumber_b63 {l : Launch} {κ : Kx} {ω : Om}  (C : CX κ ω cX1_nextNumber 2 2 yX1_nextNumber.cls) (hlau : κ.2.1 = l) (hret : κ.2.2.2.2.2.2.2.2.1.sig.returnType = (some .int)) (hn : 56 ≤ oN ω)  {K2 : Int32 → Mem → Option (Int32 × Mem)} (hK2 : ∀ (x1 : Int32) (J : Mem), EE κ ω 2 (Gi κ ω) (K2 x1 J) J 2 [(1, .int x1), (0, .ref (oA ω 26))] []) : ∀ (s0 : Int32) (I : Mem), EE κ ω 2 (Gi κ ω) (f_X1_nextNumber_b63 K2 s0 I) I 63 [(0, .ref (oA ω 26))] [.int s0] := by
  intro s0 I
  unfold f_X1_nextNumber_b63
  refine e_istore_n C (lv1 := [(1, .int s0), (0, .ref (oA ω 26))]) dX1_nextNumber_63 rfl (Nat.le_of_ble_eq_true rfl) rfl (q := 64) rfl ?_
  refine e_aload_n C dX1_nextNumber_64 rfl 1 rfl (q := 65) rfl ?_
  refine e_dup C dX1_nextNumber_65 rfl (q := 66) rfl ?_
  refine e_getf C (k := 26) (j := 2) (T := TX1) (N := 7) (v := .int (I 26 2)) dX1_nextNumber_66 (ltL hn (Nat.le_of_ble_eq_true rfl)) rfl rfl (by decide) in_X1 w_146 rfl (q := 69) rfl ?_
  refine e_iconst C dX1_nextNumber_69 ic_1 (q := 70) rfl ?_
  refine e_iadd C dX1_nextNumber_70 (q := 71) rfl ?_
  refine e_putf C (k := 26) (j := 2) (T := TX1) (N := 7) dX1_nextNumber_71 (ltL hn (Nat.le_of_ble_eq_true rfl)) rfl rfl (by decide) in_X1 w_146 tyX1_ok nmX1 rfl rfl rfl (show 2 < 7 by decide) (set_Rd_2_ _) (q := 74) rfl ?_
  refine e_nmM (fun J3 => ?_)
  refine e_goto C (tgt := 2) dX1_nextNumber_74 rfl ?_
  exact hK2 s0 _
set_option maxHeartbeats 4000000 in
set_option maxRecDepth 100000 in
theorem xb_X1_nextNumber_b2 {l : Launch} {κ : Kx} {ω : Om}  (C : CX κ ω cX1_nextNumber 2 2 yX1_nextNumber.cls) (hlau : κ.2.1 = l) (hret : κ.2.2.2.2.2.2.2.2.1.sig.returnType = (some .int)) (hn : 56 ≤ oN ω)  : ∀ (n : Nat) (x1 : Int32) (I : Mem), EE κ ω 2 (Gi κ ω) (f_X1_nextNumber_b2 n x1 I) I 2 [(1, .int x1), (0, .ref (oA ω 26))] [] := by
  intro n
  induction n with
  | zero => intro x1 I; exact e_none
  | succ n ih =>
    intro x1 I
    rw [f_X1_nextNumber_b2]
    refine e_aload_n C dX1_nextNumber_2 rfl 1 rfl (q := 3) rfl ?_
    refine e_getf C (k := 26) (j := 2) (T := TX1) (N := 7) (v := .int (I 26 2)) dX1_nextNumber_3 (ltL hn (Nat.le_of_ble_eq_true rfl)) rfl rfl (by decide) in_X1 w_146 rfl (q := 6) rfl ?_
    refine e_aload_n C dX1_nextNumber_6 rfl 1 rfl (q := 7) rfl ?_
    refine e_getf C (k := 26) (j := 1) (T := TX1) (N := 7) (v := .int (I 26 1)) dX1_nextNumber_7 (ltL hn (Nat.le_of_ble_eq_true rfl)) rfl rfl (by decide) in_X1 w_145 rfl (q := 10) rfl ?_
    refine e_icmpge C (tgt := 77) (q := 13) dX1_nextNumber_10 rfl rfl ?_ ?_
    · refine e_iload_n C dX1_nextNumber_77 rfl 0 rfl (q := 78) rfl ?_
      exact e_ireturn C dX1_nextNumber_78 hret rfl
    · refine e_aload_n C dX1_nextNumber_13 rfl 1 rfl (q := 14) rfl ?_
      refine e_bytes C hn dX1_nextNumber_14 in_X1 w_144 (q := 17) rfl ?_
      refine e_aload_n C dX1_nextNumber_17 rfl 1 rfl (q := 18) rfl ?_
      refine e_getf C (k := 26) (j := 2) (T := TX1) (N := 7) (v := .int (I 26 2)) dX1_nextNumber_18 (ltL hn (Nat.le_of_ble_eq_true rfl)) rfl rfl (by decide) in_X1 w_146 rfl (q := 21) rfl ?_
      refine e_iald C (k := 27) (n := 160) dX1_nextNumber_21 (ltL hn (Nat.le_of_ble_eq_true rfl)) rfl (q := 22) rfl ?_
      refine e_callSi C (l := l) (av := [.int (I 27 (I 26 2).toNatClampNeg)]) (st := []) hlau (x_X1_isDigit (l := l) (ω := ω) (a0 := I 27 (I 26 2).toNatClampNeg) hn (I := I)) dX1_nextNumber_22 w_293 w_294 w_58 w_295 md_X1_isDigit (by decide) (by decide) rfl (Nat.le_of_ble_eq_true rfl) (q := 25) rfl (fun v2 J1 => ?_)
      refine e_ifeq C (tgt := 77) (q := 28) dX1_nextNumber_25 rfl rfl ?_ ?_
      · refine e_iload_n C dX1_nextNumber_77 rfl 0 rfl (q := 78) rfl ?_
        exact e_ireturn C dX1_nextNumber_78 hret rfl
      · refine e_aload_n C dX1_nextNumber_28 rfl 1 rfl (q := 29) rfl ?_
        refine e_getf C (k := 26) (j := 2) (T := TX1) (N := 7) (v := .int (J1 26 2)) dX1_nextNumber_29 (ltL hn (Nat.le_of_ble_eq_true rfl)) rfl rfl (by decide) in_X1 w_146 rfl (q := 32) rfl ?_
        refine e_aload_n C dX1_nextNumber_32 rfl 1 rfl (q := 33) rfl ?_
        refine e_getf C (k := 26) (j := 3) (T := TX1) (N := 7) (v := .int (J1 26 3)) dX1_nextNumber_33 (ltL hn (Nat.le_of_ble_eq_true rfl)) rfl rfl (by decide) in_X1 w_147 rfl (q := 36) rfl ?_
        refine e_isub C dX1_nextNumber_36 (q := 37) rfl ?_
        refine e_iconst C dX1_nextNumber_37 ic_4 (q := 38) rfl ?_
        refine e_icmpge C (tgt := 61) (q := 41) dX1_nextNumber_38 rfl rfl ?_ ?_
        · refine e_bipush C dX1_nextNumber_61 b8_m2 (q := 63) rfl ?_
          exact e_lv [1] (lv1 := [(0, .ref (oA ω 26))]) rfl (xb_X1_nextNumber_b63 C hlau hret hn ih (-2 : Int32) _)
        · refine e_iload_n C dX1_nextNumber_41 rfl 0 rfl (q := 42) rfl ?_
          refine e_bipush C dX1_nextNumber_42 b8_10 (q := 44) rfl ?_
          refine e_imul C dX1_nextNumber_44 (q := 45) rfl ?_
          refine e_aload_n C dX1_nextNumber_45 rfl 1 rfl (q := 46) rfl ?_
          refine e_bytes C hn dX1_nextNumber_46 in_X1 w_144 (q := 49) rfl ?_
          refine e_aload_n C dX1_nextNumber_49 rfl 1 rfl (q := 50) rfl ?_
          refine e_getf C (k := 26) (j := 2) (T := TX1) (N := 7) (v := .int (J1 26 2)) dX1_nextNumber_50 (ltL hn (Nat.le_of_ble_eq_true rfl)) rfl rfl (by decide) in_X1 w_146 rfl (q := 53) rfl ?_
          refine e_iald C (k := 27) (n := 160) dX1_nextNumber_53 (ltL hn (Nat.le_of_ble_eq_true rfl)) rfl (q := 54) rfl ?_
          refine e_iadd C dX1_nextNumber_54 (q := 55) rfl ?_
          refine e_bipush C dX1_nextNumber_55 b8_48 (q := 57) rfl ?_
          refine e_isub C dX1_nextNumber_57 (q := 58) rfl ?_
          refine e_goto C (tgt := 63) dX1_nextNumber_58 rfl ?_
          exact e_lv [1] (lv1 := [(0, .ref (oA ω 26))]) rfl (xb_X1_nextNumber_b63 C hlau hret hn ih (((x1 * (10 : Int32)) + (J1 27 (J1 26 2).toNatClampNeg)) - (48 : Int32)) _)
set_option maxHeartbeats 4000000 in
set_option maxRecDepth 100000 in
theorem x_X1_nextNumber {l : Launch} {ω : Om}  (hn : 56 ≤ oN ω)  {I : Mem} : CTi l ω yX1_nextNumber cX1_nextNumber 2 (some .int) 2 [.ref (oA ω 26)] (f_X1_nextNumber  I) I := by
  refine ct_i (by decide) (Nat.le_of_ble_eq_true rfl) ?_
  intro κ hlau hret C
  refine e_lv [0] (lv1 := [(0, .ref (oA ω 26))]) rfl ?_
  unfold f_X1_nextNumber
  refine e_iconst C dX1_nextNumber_0 ic_0 (q := 1) rfl ?_
  refine e_istore_n C (lv1 := [(1, .int (0 : Int32)), (0, .ref (oA ω 26))]) dX1_nextNumber_1 rfl (Nat.le_of_ble_eq_true rfl) rfl (q := 2) rfl ?_
  exact xb_X1_nextNumber_b2 C hlau hret hn FU (0 : Int32) _
set_option maxHeartbeats 4000000 in
set_option maxRecDepth 100000 in
theorem x_X5_ofSign {l : Launch} {ω : Om} {a0 : Int32} (hn : 56 ≤ oN ω)  {I : Mem} : CTi l ω yX5_ofSign cX5_ofSign 1 (some .int) 1 [.int a0] (f_X5_ofSign a0 I) I := by
  refine ct_i (by decide) (Nat.le_of_ble_eq_true rfl) ?_
  intro κ hlau hret C
  refine e_lv [0] (lv1 := [(0, .int a0)]) rfl ?_
  unfold f_X5_ofSign
  refine e_iload_n C dX5_ofSign_0 rfl 0 rfl (q := 1) rfl ?_
  refine e_if (fun h1 => ?_) (fun h1 => ?_)
  · refine e_tabIn C (v := 40) (off := 103) (tgt := 104) dX5_ofSign_1 (by rw [h1]; rfl) (by decide) rfl rfl ?_
    refine e_bipush C dX5_ofSign_104 b8_m15 (q := 106) rfl ?_
    exact e_ireturn C dX5_ofSign_106 hret rfl
  · refine e_if (fun h2 => ?_) (fun h2 => ?_)
    · refine e_tabIn C (v := 41) (off := 106) (tgt := 107) dX5_ofSign_1 (by rw [h2]; rfl) (by decide) rfl rfl ?_
      refine e_bipush C dX5_ofSign_107 b8_m16 (q := 109) rfl ?_
      exact e_ireturn C dX5_ofSign_109 hret rfl
    · refine e_if (fun h3 => ?_) (fun h3 => ?_)
      · refine e_tabIn C (v := 42) (off := 118) (tgt := 119) dX5_ofSign_1 (by rw [h3]; rfl) (by decide) rfl rfl ?_
        refine e_bipush C dX5_ofSign_119 b8_m20 (q := 121) rfl ?_
        exact e_ireturn C dX5_ofSign_121 hret rfl
      · refine e_if (fun h4 => ?_) (fun h4 => ?_)
        · refine e_tabIn C (v := 43) (off := 112) (tgt := 113) dX5_ofSign_1 (by rw [h4]; rfl) (by decide) rfl rfl ?_
          refine e_bipush C dX5_ofSign_113 b8_m18 (q := 115) rfl ?_
          exact e_ireturn C dX5_ofSign_115 hret rfl
        · refine e_if (fun h5 => ?_) (fun h5 => ?_)
          · refine e_tabIn C (v := 44) (off := 127) (tgt := 128) dX5_ofSign_1 (by rw [h5]; rfl) (by decide) rfl rfl ?_
            refine e_bipush C dX5_ofSign_128 b8_m2 (q := 130) rfl ?_
            exact e_ireturn C dX5_ofSign_130 hret rfl
          · refine e_if (fun h6 => ?_) (fun h6 => ?_)
            · refine e_tabIn C (v := 45) (off := 115) (tgt := 116) dX5_ofSign_1 (by rw [h6]; rfl) (by decide) rfl rfl ?_
              refine e_bipush C dX5_ofSign_116 b8_m19 (q := 118) rfl ?_
              exact e_ireturn C dX5_ofSign_118 hret rfl
            · refine e_if (fun h7 => ?_) (fun h7 => ?_)
              · refine e_tabIn C (v := 46) (off := 127) (tgt := 128) dX5_ofSign_1 (by rw [h7]; rfl) (by decide) rfl rfl ?_
                refine e_bipush C dX5_ofSign_128 b8_m2 (q := 130) rfl ?_
                exact e_ireturn C dX5_ofSign_130 hret rfl
              · refine e_if (fun h8 => ?_) (fun h8 => ?_)
                · refine e_tabIn C (v := 47) (off := 127) (tgt := 128) dX5_ofSign_1 (by rw [h8]; rfl) (by decide) rfl rfl ?_
                  refine e_bipush C dX5_ofSign_128 b8_m2 (q := 130) rfl ?_
                  exact e_ireturn C dX5_ofSign_130 hret rfl
                · refine e_if (fun h9 => ?_) (fun h9 => ?_)
                  · refine e_tabIn C (v := 48) (off := 127) (tgt := 128) dX5_ofSign_1 (by rw [h9]; rfl) (by decide) rfl rfl ?_
                    refine e_bipush C dX5_ofSign_128 b8_m2 (q := 130) rfl ?_
                    exact e_ireturn C dX5_ofSign_130 hret rfl
                  · refine e_if (fun h10 => ?_) (fun h10 => ?_)
                    · refine e_tabIn C (v := 49) (off := 127) (tgt := 128) dX5_ofSign_1 (by rw [h10]; rfl) (by decide) rfl rfl ?_
                      refine e_bipush C dX5_ofSign_128 b8_m2 (q := 130) rfl ?_
                      exact e_ireturn C dX5_ofSign_130 hret rfl
                    · refine e_if (fun h11 => ?_) (fun h11 => ?_)
                      · refine e_tabIn C (v := 50) (off := 127) (tgt := 128) dX5_ofSign_1 (by rw [h11]; rfl) (by decide) rfl rfl ?_
                        refine e_bipush C dX5_ofSign_128 b8_m2 (q := 130) rfl ?_
                        exact e_ireturn C dX5_ofSign_130 hret rfl
                      · refine e_if (fun h12 => ?_) (fun h12 => ?_)
                        · refine e_tabIn C (v := 51) (off := 127) (tgt := 128) dX5_ofSign_1 (by rw [h12]; rfl) (by decide) rfl rfl ?_
                          refine e_bipush C dX5_ofSign_128 b8_m2 (q := 130) rfl ?_
                          exact e_ireturn C dX5_ofSign_130 hret rfl
                        · refine e_if (fun h13 => ?_) (fun h13 => ?_)
                          · refine e_tabIn C (v := 52) (off := 127) (tgt := 128) dX5_ofSign_1 (by rw [h13]; rfl) (by decide) rfl rfl ?_
                            refine e_bipush C dX5_ofSign_128 b8_m2 (q := 130) rfl ?_
                            exact e_ireturn C dX5_ofSign_130 hret rfl
                          · refine e_if (fun h14 => ?_) (fun h14 => ?_)
                            · refine e_tabIn C (v := 53) (off := 127) (tgt := 128) dX5_ofSign_1 (by rw [h14]; rfl) (by decide) rfl rfl ?_
                              refine e_bipush C dX5_ofSign_128 b8_m2 (q := 130) rfl ?_
                              exact e_ireturn C dX5_ofSign_130 hret rfl
                            · refine e_if (fun h15 => ?_) (fun h15 => ?_)
                              · refine e_tabIn C (v := 54) (off := 127) (tgt := 128) dX5_ofSign_1 (by rw [h15]; rfl) (by decide) rfl rfl ?_
                                refine e_bipush C dX5_ofSign_128 b8_m2 (q := 130) rfl ?_
                                exact e_ireturn C dX5_ofSign_130 hret rfl
                              · refine e_if (fun h16 => ?_) (fun h16 => ?_)
                                · refine e_tabIn C (v := 55) (off := 127) (tgt := 128) dX5_ofSign_1 (by rw [h16]; rfl) (by decide) rfl rfl ?_
                                  refine e_bipush C dX5_ofSign_128 b8_m2 (q := 130) rfl ?_
                                  exact e_ireturn C dX5_ofSign_130 hret rfl
                                · refine e_if (fun h17 => ?_) (fun h17 => ?_)
                                  · refine e_tabIn C (v := 56) (off := 127) (tgt := 128) dX5_ofSign_1 (by rw [h17]; rfl) (by decide) rfl rfl ?_
                                    refine e_bipush C dX5_ofSign_128 b8_m2 (q := 130) rfl ?_
                                    exact e_ireturn C dX5_ofSign_130 hret rfl
                                  · refine e_if (fun h18 => ?_) (fun h18 => ?_)
                                    · refine e_tabIn C (v := 57) (off := 127) (tgt := 128) dX5_ofSign_1 (by rw [h18]; rfl) (by decide) rfl rfl ?_
                                      refine e_bipush C dX5_ofSign_128 b8_m2 (q := 130) rfl ?_
                                      exact e_ireturn C dX5_ofSign_130 hret rfl
                                    · refine e_if (fun h19 => ?_) (fun h19 => ?_)
                                      · refine e_tabIn C (v := 58) (off := 127) (tgt := 128) dX5_ofSign_1 (by rw [h19]; rfl) (by decide) rfl rfl ?_
                                        refine e_bipush C dX5_ofSign_128 b8_m2 (q := 130) rfl ?_
                                        exact e_ireturn C dX5_ofSign_130 hret rfl
                                      · refine e_if (fun h20 => ?_) (fun h20 => ?_)
                                        · refine e_tabIn C (v := 59) (off := 109) (tgt := 110) dX5_ofSign_1 (by rw [h20]; rfl) (by decide) rfl rfl ?_
                                          refine e_bipush C dX5_ofSign_110 b8_m17 (q := 112) rfl ?_
                                          exact e_ireturn C dX5_ofSign_112 hret rfl
                                        · refine e_if (fun h21 => ?_) (fun h21 => ?_)
                                          · refine e_tabIn C (v := 60) (off := 121) (tgt := 122) dX5_ofSign_1 (by rw [h21]; rfl) (by decide) rfl rfl ?_
                                            refine e_bipush C dX5_ofSign_122 b8_m21 (q := 124) rfl ?_
                                            exact e_ireturn C dX5_ofSign_124 hret rfl
                                          · refine e_if (fun h22 => ?_) (fun h22 => ?_)
                                            · refine e_tabIn C (v := 61) (off := 124) (tgt := 125) dX5_ofSign_1 (by rw [h22]; rfl) (by decide) rfl rfl ?_
                                              refine e_bipush C dX5_ofSign_125 b8_m22 (q := 127) rfl ?_
                                              exact e_ireturn C dX5_ofSign_127 hret rfl
                                            · refine e_tabOut C (tgt := 128) dX5_ofSign_1 (by have g0 := i32_ne h1; have g1 := i32_ne h2; have g2 := i32_ne h3; have g3 := i32_ne h4; have g4 := i32_ne h5; have g5 := i32_ne h6; have g6 := i32_ne h7; have g7 := i32_ne h8; have g8 := i32_ne h9; have g9 := i32_ne h10; have g10 := i32_ne h11; have g11 := i32_ne h12; have g12 := i32_ne h13; have g13 := i32_ne h14; have g14 := i32_ne h15; have g15 := i32_ne h16; have g16 := i32_ne h17; have g17 := i32_ne h18; have g18 := i32_ne h19; have g19 := i32_ne h20; have g20 := i32_ne h21; have g21 := i32_ne h22; have f0 : ((40 : Int32)).toInt = 40 := rfl; have f1 : ((41 : Int32)).toInt = 41 := rfl; have f2 : ((42 : Int32)).toInt = 42 := rfl; have f3 : ((43 : Int32)).toInt = 43 := rfl; have f4 : ((44 : Int32)).toInt = 44 := rfl; have f5 : ((45 : Int32)).toInt = 45 := rfl; have f6 : ((46 : Int32)).toInt = 46 := rfl; have f7 : ((47 : Int32)).toInt = 47 := rfl; have f8 : ((48 : Int32)).toInt = 48 := rfl; have f9 : ((49 : Int32)).toInt = 49 := rfl; have f10 : ((50 : Int32)).toInt = 50 := rfl; have f11 : ((51 : Int32)).toInt = 51 := rfl; have f12 : ((52 : Int32)).toInt = 52 := rfl; have f13 : ((53 : Int32)).toInt = 53 := rfl; have f14 : ((54 : Int32)).toInt = 54 := rfl; have f15 : ((55 : Int32)).toInt = 55 := rfl; have f16 : ((56 : Int32)).toInt = 56 := rfl; have f17 : ((57 : Int32)).toInt = 57 := rfl; have f18 : ((58 : Int32)).toInt = 58 := rfl; have f19 : ((59 : Int32)).toInt = 59 := rfl; have f20 : ((60 : Int32)).toInt = 60 := rfl; have f21 : ((61 : Int32)).toInt = 61 := rfl; omega) rfl ?_
                                              refine e_bipush C dX5_ofSign_128 b8_m2 (q := 130) rfl ?_
                                              exact e_ireturn C dX5_ofSign_130 hret rfl
set_option maxHeartbeats 4000000 in
set_option maxRecDepth 100000 in
theorem xb_X1_next_b52 {l : Launch} {κ : Kx} {ω : Om}  (C : CX κ ω cX1_next 1 9 yX1_next.cls) (hlau : κ.2.1 = l) (hret : κ.2.2.2.2.2.2.2.2.1.sig.returnType = none) (hn : 56 ≤ oN ω)  : ∀  (I : Mem), EE κ ω 1 (Gv κ ω) (f_X1_next_b52  I) I 52 [(0, .ref (oA ω 26))] [] := by
  intro  I
  unfold f_X1_next_b52
  refine e_aload_n C dX1_next_52 rfl 0 rfl (q := 53) rfl ?_
  refine e_aload_n C dX1_next_53 rfl 0 rfl (q := 54) rfl ?_
  refine e_getf C (k := 26) (j := 2) (T := TX1) (N := 7) (v := .int (I 26 2)) dX1_next_54 (ltL hn (Nat.le_of_ble_eq_true rfl)) rfl rfl (by decide) in_X1 w_146 rfl (q := 57) rfl ?_
  refine e_putf C (k := 26) (j := 3) (T := TX1) (N := 7) dX1_next_57 (ltL hn (Nat.le_of_ble_eq_true rfl)) rfl rfl (by decide) in_X1 w_147 tyX1_ok nmX1 rfl rfl rfl (show 3 < 7 by decide) (set_Rd_3_ _) (q := 60) rfl ?_
  refine e_nmM (fun J1 => ?_)
  refine e_aload_n C dX1_next_60 rfl 0 rfl (q := 61) rfl ?_
  refine e_getf C (k := 26) (j := 2) (T := TX1) (N := 7) (v := .int (J1 26 2)) dX1_next_61 (ltL hn (Nat.le_of_ble_eq_true rfl)) rfl rfl (by decide) in_X1 w_146 rfl (q := 64) rfl ?_
  refine e_aload_n C dX1_next_64 rfl 0 rfl (q := 65) rfl ?_
  refine e_getf C (k := 26) (j := 1) (T := TX1) (N := 7) (v := .int (J1 26 1)) dX1_next_65 (ltL hn (Nat.le_of_ble_eq_true rfl)) rfl rfl (by decide) in_X1 w_145 rfl (q := 68) rfl ?_
  refine e_icmplt C (tgt := 79) (q := 71) dX1_next_68 rfl rfl ?_ ?_
  · refine e_aload_n C dX1_next_79 rfl 0 rfl (q := 80) rfl ?_
    refine e_bytes C hn dX1_next_80 in_X1 w_144 (q := 83) rfl ?_
    refine e_aload_n C dX1_next_83 rfl 0 rfl (q := 84) rfl ?_
    refine e_getf C (k := 26) (j := 2) (T := TX1) (N := 7) (v := .int (J1 26 2)) dX1_next_84 (ltL hn (Nat.le_of_ble_eq_true rfl)) rfl rfl (by decide) in_X1 w_146 rfl (q := 87) rfl ?_
    refine e_iald C (k := 27) (n := 160) dX1_next_87 (ltL hn (Nat.le_of_ble_eq_true rfl)) rfl (q := 88) rfl ?_
    refine e_callSi C (l := l) (av := [.int (J1 27 (J1 26 2).toNatClampNeg)]) (st := []) hlau (x_X1_isLetter (l := l) (ω := ω) (a0 := J1 27 (J1 26 2).toNatClampNeg) hn (I := J1)) dX1_next_88 w_268 w_269 w_58 w_270 md_X1_isLetter (by decide) (by decide) rfl (Nat.le_of_ble_eq_true rfl) (q := 91) rfl (fun v3 J2 => ?_)
    refine e_ifeq C (tgt := 105) (q := 94) dX1_next_91 rfl rfl ?_ ?_
    · refine e_aload_n C dX1_next_105 rfl 0 rfl (q := 106) rfl ?_
      refine e_bytes C hn dX1_next_106 in_X1 w_144 (q := 109) rfl ?_
      refine e_aload_n C dX1_next_109 rfl 0 rfl (q := 110) rfl ?_
      refine e_getf C (k := 26) (j := 2) (T := TX1) (N := 7) (v := .int (J2 26 2)) dX1_next_110 (ltL hn (Nat.le_of_ble_eq_true rfl)) rfl rfl (by decide) in_X1 w_146 rfl (q := 113) rfl ?_
      refine e_iald C (k := 27) (n := 160) dX1_next_113 (ltL hn (Nat.le_of_ble_eq_true rfl)) rfl (q := 114) rfl ?_
      refine e_callSi C (l := l) (av := [.int (J2 27 (J2 26 2).toNatClampNeg)]) (st := []) hlau (x_X1_isDigit (l := l) (ω := ω) (a0 := J2 27 (J2 26 2).toNatClampNeg) hn (I := J2)) dX1_next_114 w_293 w_294 w_58 w_295 md_X1_isDigit (by decide) (by decide) rfl (Nat.le_of_ble_eq_true rfl) (q := 117) rfl (fun v5 J4 => ?_)
      refine e_ifeq C (tgt := 131) (q := 120) dX1_next_117 rfl rfl ?_ ?_
      · refine e_aload_n C dX1_next_131 rfl 0 rfl (q := 132) rfl ?_
        refine e_aload_n C dX1_next_132 rfl 0 rfl (q := 133) rfl ?_
        refine e_bytes C hn dX1_next_133 in_X1 w_144 (q := 136) rfl ?_
        refine e_aload_n C dX1_next_136 rfl 0 rfl (q := 137) rfl ?_
        refine e_getf C (k := 26) (j := 2) (T := TX1) (N := 7) (v := .int (J4 26 2)) dX1_next_137 (ltL hn (Nat.le_of_ble_eq_true rfl)) rfl rfl (by decide) in_X1 w_146 rfl (q := 140) rfl ?_
        refine e_iald C (k := 27) (n := 160) dX1_next_140 (ltL hn (Nat.le_of_ble_eq_true rfl)) rfl (q := 141) rfl ?_
        refine e_callSi C (l := l) (av := [.int (J4 27 (J4 26 2).toNatClampNeg)]) (st := [.ref (oA ω 26)]) hlau (x_X5_ofSign (l := l) (ω := ω) (a0 := J4 27 (J4 26 2).toNatClampNeg) hn (I := J4)) dX1_next_141 w_300 w_301 w_66 w_302 md_X5_ofSign (by decide) (by decide) rfl (Nat.le_of_ble_eq_true rfl) (q := 144) rfl (fun v7 J6 => ?_)
        refine e_putf C (k := 26) (j := 4) (T := TX1) (N := 7) dX1_next_144 (ltL hn (Nat.le_of_ble_eq_true rfl)) rfl rfl (by decide) in_X1 w_148 tyX1_ok nmX1 rfl rfl rfl (show 4 < 7 by decide) (set_Rd_4_ _) (q := 147) rfl ?_
        refine e_nmM (fun J8 => ?_)
        refine e_aload_n C dX1_next_147 rfl 0 rfl (q := 148) rfl ?_
        refine e_dup C dX1_next_148 rfl (q := 149) rfl ?_
        refine e_getf C (k := 26) (j := 2) (T := TX1) (N := 7) (v := .int (J8 26 2)) dX1_next_149 (ltL hn (Nat.le_of_ble_eq_true rfl)) rfl rfl (by decide) in_X1 w_146 rfl (q := 152) rfl ?_
        refine e_iconst C dX1_next_152 ic_1 (q := 153) rfl ?_
        refine e_iadd C dX1_next_153 (q := 154) rfl ?_
        refine e_putf C (k := 26) (j := 2) (T := TX1) (N := 7) dX1_next_154 (ltL hn (Nat.le_of_ble_eq_true rfl)) rfl rfl (by decide) in_X1 w_146 tyX1_ok nmX1 rfl rfl rfl (show 2 < 7 by decide) (set_Rd_2_ _) (q := 157) rfl ?_
        refine e_nmM (fun J9 => ?_)
        exact e_vreturn C dX1_next_157 hret
      · refine e_aload_n C dX1_next_120 rfl 0 rfl (q := 121) rfl ?_
        refine e_aload_n C dX1_next_121 rfl 0 rfl (q := 122) rfl ?_
        refine e_callVi C (l := l) (k := 26) (av := []) (st := [.ref (oA ω 26)]) hlau (x_X1_nextNumber (l := l) (ω := ω) hn (I := J4)) dX1_next_122 w_296 w_298 w_3 w_58 w_299 md_X1_nextNumber (by decide) (by decide) rfl (ltL hn (Nat.le_of_ble_eq_true rfl)) rfl rfl (Nat.le_of_ble_eq_true rfl) (q := 125) rfl (fun v11 J10 => ?_)
        refine e_putf C (k := 26) (j := 4) (T := TX1) (N := 7) dX1_next_125 (ltL hn (Nat.le_of_ble_eq_true rfl)) rfl rfl (by decide) in_X1 w_148 tyX1_ok nmX1 rfl rfl rfl (show 4 < 7 by decide) (set_Rd_4_ _) (q := 128) rfl ?_
        refine e_nmM (fun J12 => ?_)
        refine e_goto C (tgt := 157) dX1_next_128 rfl ?_
        exact e_vreturn C dX1_next_157 hret
    · refine e_aload_n C dX1_next_94 rfl 0 rfl (q := 95) rfl ?_
      refine e_aload_n C dX1_next_95 rfl 0 rfl (q := 96) rfl ?_
      refine e_callVi C (l := l) (k := 26) (av := []) (st := [.ref (oA ω 26)]) hlau (x_X1_nextWord (l := l) (ω := ω) hn (I := J2)) dX1_next_96 w_271 w_273 w_1 w_58 w_274 md_X1_nextWord (by decide) (by decide) rfl (ltL hn (Nat.le_of_ble_eq_true rfl)) rfl rfl (Nat.le_of_ble_eq_true rfl) (q := 99) rfl (fun v14 J13 => ?_)
      refine e_putf C (k := 26) (j := 4) (T := TX1) (N := 7) dX1_next_99 (ltL hn (Nat.le_of_ble_eq_true rfl)) rfl rfl (by decide) in_X1 w_148 tyX1_ok nmX1 rfl rfl rfl (show 4 < 7 by decide) (set_Rd_4_ _) (q := 102) rfl ?_
      refine e_nmM (fun J15 => ?_)
      refine e_goto C (tgt := 157) dX1_next_102 rfl ?_
      exact e_vreturn C dX1_next_157 hret
  · refine e_aload_n C dX1_next_71 rfl 0 rfl (q := 72) rfl ?_
    refine e_iconst C dX1_next_72 ic_m1 (q := 73) rfl ?_
    refine e_putf C (k := 26) (j := 4) (T := TX1) (N := 7) dX1_next_73 (ltL hn (Nat.le_of_ble_eq_true rfl)) rfl rfl (by decide) in_X1 w_148 tyX1_ok nmX1 rfl rfl rfl (show 4 < 7 by decide) (set_Rd_4_ _) (q := 76) rfl ?_
    refine e_nmM (fun J16 => ?_)
    refine e_goto C (tgt := 157) dX1_next_76 rfl ?_
    exact e_vreturn C dX1_next_157 hret
set_option maxHeartbeats 4000000 in
set_option maxRecDepth 100000 in
theorem xb_X1_next_b39 {l : Launch} {κ : Kx} {ω : Om}  (C : CX κ ω cX1_next 1 9 yX1_next.cls) (hlau : κ.2.1 = l) (hret : κ.2.2.2.2.2.2.2.2.1.sig.returnType = none) (hn : 56 ≤ oN ω)  {K0 : Mem → Option (Unit × Mem)} (hK0 : ∀  (J : Mem), EE κ ω 1 (Gv κ ω) (K0  J) J 0 [(0, .ref (oA ω 26))] []) : ∀  (I : Mem), EE κ ω 1 (Gv κ ω) (f_X1_next_b39 K0  I) I 39 [(0, .ref (oA ω 26))] [] := by
  intro  I
  unfold f_X1_next_b39
  refine e_aload_n C dX1_next_39 rfl 0 rfl (q := 40) rfl ?_
  refine e_dup C dX1_next_40 rfl (q := 41) rfl ?_
  refine e_getf C (k := 26) (j := 2) (T := TX1) (N := 7) (v := .int (I 26 2)) dX1_next_41 (ltL hn (Nat.le_of_ble_eq_true rfl)) rfl rfl (by decide) in_X1 w_146 rfl (q := 44) rfl ?_
  refine e_iconst C dX1_next_44 ic_1 (q := 45) rfl ?_
  refine e_iadd C dX1_next_45 (q := 46) rfl ?_
  refine e_putf C (k := 26) (j := 2) (T := TX1) (N := 7) dX1_next_46 (ltL hn (Nat.le_of_ble_eq_true rfl)) rfl rfl (by decide) in_X1 w_146 tyX1_ok nmX1 rfl rfl rfl (show 2 < 7 by decide) (set_Rd_2_ _) (q := 49) rfl ?_
  refine e_nmM (fun J17 => ?_)
  refine e_goto C (tgt := 0) dX1_next_49 rfl ?_
  exact hK0 _
set_option maxHeartbeats 4000000 in
set_option maxRecDepth 100000 in
theorem xb_X1_next_b0 {l : Launch} {κ : Kx} {ω : Om}  (C : CX κ ω cX1_next 1 9 yX1_next.cls) (hlau : κ.2.1 = l) (hret : κ.2.2.2.2.2.2.2.2.1.sig.returnType = none) (hn : 56 ≤ oN ω)  : ∀ (n : Nat)  (I : Mem), EE κ ω 1 (Gv κ ω) (f_X1_next_b0 n  I) I 0 [(0, .ref (oA ω 26))] [] := by
  intro n
  induction n with
  | zero => intro  I; exact e_none
  | succ n ih =>
    intro  I
    rw [f_X1_next_b0]
    refine e_aload_n C dX1_next_0 rfl 0 rfl (q := 1) rfl ?_
    refine e_getf C (k := 26) (j := 2) (T := TX1) (N := 7) (v := .int (I 26 2)) dX1_next_1 (ltL hn (Nat.le_of_ble_eq_true rfl)) rfl rfl (by decide) in_X1 w_146 rfl (q := 4) rfl ?_
    refine e_aload_n C dX1_next_4 rfl 0 rfl (q := 5) rfl ?_
    refine e_getf C (k := 26) (j := 1) (T := TX1) (N := 7) (v := .int (I 26 1)) dX1_next_5 (ltL hn (Nat.le_of_ble_eq_true rfl)) rfl rfl (by decide) in_X1 w_145 rfl (q := 8) rfl ?_
    refine e_icmpge C (tgt := 52) (q := 11) dX1_next_8 rfl rfl ?_ ?_
    · exact xb_X1_next_b52 C hlau hret hn _
    · refine e_aload_n C dX1_next_11 rfl 0 rfl (q := 12) rfl ?_
      refine e_bytes C hn dX1_next_12 in_X1 w_144 (q := 15) rfl ?_
      refine e_aload_n C dX1_next_15 rfl 0 rfl (q := 16) rfl ?_
      refine e_getf C (k := 26) (j := 2) (T := TX1) (N := 7) (v := .int (I 26 2)) dX1_next_16 (ltL hn (Nat.le_of_ble_eq_true rfl)) rfl rfl (by decide) in_X1 w_146 rfl (q := 19) rfl ?_
      refine e_iald C (k := 27) (n := 160) dX1_next_19 (ltL hn (Nat.le_of_ble_eq_true rfl)) rfl (q := 20) rfl ?_
      refine e_bipush C dX1_next_20 b8_32 (q := 22) rfl ?_
      refine e_icmpeq C (tgt := 39) (q := 25) dX1_next_22 rfl rfl ?_ ?_
      · exact xb_X1_next_b39 C hlau hret hn ih _
      · refine e_aload_n C dX1_next_25 rfl 0 rfl (q := 26) rfl ?_
        refine e_bytes C hn dX1_next_26 in_X1 w_144 (q := 29) rfl ?_
        refine e_aload_n C dX1_next_29 rfl 0 rfl (q := 30) rfl ?_
        refine e_getf C (k := 26) (j := 2) (T := TX1) (N := 7) (v := .int (I 26 2)) dX1_next_30 (ltL hn (Nat.le_of_ble_eq_true rfl)) rfl rfl (by decide) in_X1 w_146 rfl (q := 33) rfl ?_
        refine e_iald C (k := 27) (n := 160) dX1_next_33 (ltL hn (Nat.le_of_ble_eq_true rfl)) rfl (q := 34) rfl ?_
        refine e_bipush C dX1_next_34 b8_10 (q := 36) rfl ?_
        refine e_icmpne C (tgt := 52) (q := 39) dX1_next_36 rfl rfl ?_ ?_
        · exact xb_X1_next_b52 C hlau hret hn _
        · exact xb_X1_next_b39 C hlau hret hn ih _
set_option maxHeartbeats 4000000 in
set_option maxRecDepth 100000 in
theorem x_X1_next {l : Launch} {ω : Om}  (hn : 56 ≤ oN ω)  {I : Mem} : CTv l ω yX1_next cX1_next 1 none 9 [.ref (oA ω 26)] (f_X1_next  I) I := by
  refine ct_v (by decide) (Nat.le_of_ble_eq_true rfl) ?_
  intro κ hlau hret C
  refine e_lv [0] (lv1 := [(0, .ref (oA ω 26))]) rfl ?_
  unfold f_X1_next
  exact xb_X1_next_b0 C hlau hret hn FU _
set_option maxHeartbeats 4000000 in
set_option maxRecDepth 100000 in
theorem xb_X1_refuse_b16 {l : Launch} {κ : Kx} {ω : Om}  (C : CX κ ω cX1_refuse 1 1 yX1_refuse.cls) (hlau : κ.2.1 = l) (hret : κ.2.2.2.2.2.2.2.2.1.sig.returnType = none) (hn : 56 ≤ oN ω)  : ∀  (I : Mem), EE κ ω 1 (Gv κ ω) (f_X1_refuse_b16  I) I 16 [(0, .ref (oA ω 26))] [] := by
  intro  I
  unfold f_X1_refuse_b16
  refine e_aload_n C dX1_refuse_16 rfl 0 rfl (q := 17) rfl ?_
  refine e_bipush C dX1_refuse_17 b8_m2 (q := 19) rfl ?_
  refine e_putf C (k := 26) (j := 4) (T := TX1) (N := 7) dX1_refuse_19 (ltL hn (Nat.le_of_ble_eq_true rfl)) rfl rfl (by decide) in_X1 w_148 tyX1_ok nmX1 rfl rfl rfl (show 4 < 7 by decide) (set_Rd_4_ _) (q := 22) rfl ?_
  refine e_nmM (fun J1 => ?_)
  exact e_vreturn C dX1_refuse_22 hret
set_option maxHeartbeats 4000000 in
set_option maxRecDepth 100000 in
theorem x_X1_refuse {l : Launch} {ω : Om}  (hn : 56 ≤ oN ω)  {I : Mem} : CTv l ω yX1_refuse cX1_refuse 1 none 1 [.ref (oA ω 26)] (f_X1_refuse  I) I := by
  refine ct_v (by decide) (Nat.le_of_ble_eq_true rfl) ?_
  intro κ hlau hret C
  refine e_lv [0] (lv1 := [(0, .ref (oA ω 26))]) rfl ?_
  unfold f_X1_refuse
  refine e_aload_n C dX1_refuse_0 rfl 0 rfl (q := 1) rfl ?_
  refine e_getf C (k := 26) (j := 5) (T := TX1) (N := 7) (v := .int (I 26 5)) dX1_refuse_1 (ltL hn (Nat.le_of_ble_eq_true rfl)) rfl rfl (by decide) in_X1 w_149 rfl (q := 4) rfl ?_
  refine e_iconst C dX1_refuse_4 ic_m1 (q := 5) rfl ?_
  refine e_icmpne C (tgt := 16) (q := 8) dX1_refuse_5 rfl rfl ?_ ?_
  · exact xb_X1_refuse_b16 C hlau hret hn _
  · refine e_aload_n C dX1_refuse_8 rfl 0 rfl (q := 9) rfl ?_
    refine e_aload_n C dX1_refuse_9 rfl 0 rfl (q := 10) rfl ?_
    refine e_getf C (k := 26) (j := 3) (T := TX1) (N := 7) (v := .int (I 26 3)) dX1_refuse_10 (ltL hn (Nat.le_of_ble_eq_true rfl)) rfl rfl (by decide) in_X1 w_147 rfl (q := 13) rfl ?_
    refine e_putf C (k := 26) (j := 5) (T := TX1) (N := 7) dX1_refuse_13 (ltL hn (Nat.le_of_ble_eq_true rfl)) rfl rfl (by decide) in_X1 w_149 tyX1_ok nmX1 rfl rfl rfl (show 5 < 7 by decide) (set_Rd_5_ _) (q := 16) rfl ?_
    refine e_nmM (fun J2 => ?_)
    exact xb_X1_refuse_b16 C hlau hret hn _
set_option maxHeartbeats 4000000 in
set_option maxRecDepth 100000 in
theorem x_X1_expect {l : Launch} {ω : Om} {a1 : Int32} (hn : 56 ≤ oN ω)  {I : Mem} : CTv l ω yX1_expect cX1_expect 2 none 10 [.ref (oA ω 26), .int a1] (f_X1_expect a1 I) I := by
  refine ct_v (by decide) (Nat.le_of_ble_eq_true rfl) ?_
  intro κ hlau hret C
  refine e_lv [0, 1] (lv1 := [(0, .ref (oA ω 26)), (1, .int a1)]) rfl ?_
  unfold f_X1_expect
  refine e_aload_n C dX1_expect_0 rfl 0 rfl (q := 1) rfl ?_
  refine e_getf C (k := 26) (j := 4) (T := TX1) (N := 7) (v := .int (I 26 4)) dX1_expect_1 (ltL hn (Nat.le_of_ble_eq_true rfl)) rfl rfl (by decide) in_X1 w_148 rfl (q := 4) rfl ?_
  refine e_iload_n C dX1_expect_4 rfl 1 rfl (q := 5) rfl ?_
  refine e_icmpne C (tgt := 15) (q := 8) dX1_expect_5 rfl rfl ?_ ?_
  · refine e_aload_n C dX1_expect_15 rfl 0 rfl (q := 16) rfl ?_
    refine e_callVv C (l := l) (k := 26) (av := []) (st := []) hlau (x_X1_refuse (l := l) (ω := ω) hn (I := I)) dX1_expect_16 w_307 w_309 w_5 w_58 w_310 md_X1_refuse (by decide) (by decide) rfl (ltL hn (Nat.le_of_ble_eq_true rfl)) rfl rfl (Nat.le_of_ble_eq_true rfl) (q := 19) rfl (fun _ J1 => ?_)
    exact e_vreturn C dX1_expect_19 hret
  · refine e_aload_n C dX1_expect_8 rfl 0 rfl (q := 9) rfl ?_
    refine e_callVv C (l := l) (k := 26) (av := []) (st := []) hlau (x_X1_next (l := l) (ω := ω) hn (I := I)) dX1_expect_9 w_264 w_266 w_0 w_58 w_267 md_X1_next (by decide) (by decide) rfl (ltL hn (Nat.le_of_ble_eq_true rfl)) rfl rfl (Nat.le_of_ble_eq_true rfl) (q := 12) rfl (fun _ J2 => ?_)
    refine e_goto C (tgt := 19) dX1_expect_12 rfl ?_
    exact e_vreturn C dX1_expect_19 hret
set_option maxHeartbeats 4000000 in
set_option maxRecDepth 100000 in
theorem x_X4_write {l : Launch} {ω : Om} {τ : Nat} {a1 : Int32} (hn : 56 ≤ oN ω) (hτ : τ < 6) {I : Mem} : CTv l ω yX4_write cX4_write 2 none 1 [.ref (oA ω (30 + 3 * τ)), .int a1] (f_X4_write τ a1 I) I := by
  refine ct_v (by decide) (Nat.le_of_ble_eq_true rfl) ?_
  intro κ hlau hret C
  refine e_lv [0, 1] (lv1 := [(0, .ref (oA ω (30 + 3 * τ))), (1, .int a1)]) rfl ?_
  unfold f_X4_write
  refine e_aload_n C dX4_write_0 rfl 0 rfl (q := 1) rfl ?_
  refine e_getf C (k := (30 + 3 * τ)) (j := 3) (T := TX4) (N := 4) (v := .int (I (30 + 3 * τ) 3)) dX4_write_1 (ltTx hn hτ) (cOb_Tx (τ := τ) hτ _) rfl (by decide) in_X4 w_176 rfl (q := 4) rfl ?_
  refine e_aload_n C dX4_write_4 rfl 0 rfl (q := 5) rfl ?_
  refine e_getf C (k := (30 + 3 * τ)) (j := 1) (T := TX4) (N := 4) (v := .ref (oA ω (30 + 3 * τ + 1))) dX4_write_5 (ltTx hn hτ) (cOb_Tx (τ := τ) hτ _) rfl (by decide) in_X4 w_174 rfl (q := 8) rfl ?_
  refine e_alen C (k := (30 + 3 * τ + 1)) (n := 160) (v := (160 : Int32)) dX4_write_8 (ltTxj hn hτ 1 (by decide)) ((cAr_Tx1 hτ) _) (by decide) (q := 9) rfl ?_
  refine e_icmpge C (tgt := 32) (q := 12) dX4_write_9 rfl rfl ?_ ?_
  · exact e_vreturn C dX4_write_32 hret
  · refine e_aload_n C dX4_write_12 rfl 0 rfl (q := 13) rfl ?_
    refine e_getf C (k := (30 + 3 * τ)) (j := 1) (T := TX4) (N := 4) (v := .ref (oA ω (30 + 3 * τ + 1))) dX4_write_13 (ltTx hn hτ) (cOb_Tx (τ := τ) hτ _) rfl (by decide) in_X4 w_174 rfl (q := 16) rfl ?_
    refine e_aload_n C dX4_write_16 rfl 0 rfl (q := 17) rfl ?_
    refine e_getf C (k := (30 + 3 * τ)) (j := 3) (T := TX4) (N := 4) (v := .int (I (30 + 3 * τ) 3)) dX4_write_17 (ltTx hn hτ) (cOb_Tx (τ := τ) hτ _) rfl (by decide) in_X4 w_176 rfl (q := 20) rfl ?_
    refine e_iload_n C dX4_write_20 rfl 1 rfl (q := 21) rfl ?_
    refine e_iast C (k := (30 + 3 * τ + 1)) (n := 160) dX4_write_21 (ltTxj hn hτ 1 (by decide)) (cAr_Tx1 hτ) (q := 22) rfl ?_
    refine e_nmM (fun J1 => ?_)
    refine e_aload_n C dX4_write_22 rfl 0 rfl (q := 23) rfl ?_
    refine e_dup C dX4_write_23 rfl (q := 24) rfl ?_
    refine e_getf C (k := (30 + 3 * τ)) (j := 3) (T := TX4) (N := 4) (v := .int (J1 (30 + 3 * τ) 3)) dX4_write_24 (ltTx hn hτ) (cOb_Tx (τ := τ) hτ _) rfl (by decide) in_X4 w_176 rfl (q := 27) rfl ?_
    refine e_iconst C dX4_write_27 ic_1 (q := 28) rfl ?_
    refine e_iadd C dX4_write_28 (q := 29) rfl ?_
    refine e_putf C (k := (30 + 3 * τ)) (j := 3) (T := TX4) (N := 4) dX4_write_29 (ltTx hn hτ) (cOb_Tx (τ := τ) hτ _) rfl (by decide) in_X4 w_176 tyX4_ok nmX4 rfl rfl rfl (show 3 < 4 by decide) (set_Tx_3_ (τ := τ) hτ _) (q := 32) rfl ?_
    refine e_nmM (fun J2 => ?_)
    exact e_vreturn C dX4_write_32 hret
set_option maxHeartbeats 4000000 in
set_option maxRecDepth 100000 in
theorem x_X5_isName {l : Launch} {ω : Om} {a0 : Int32} (hn : 56 ≤ oN ω)  {I : Mem} : CTi l ω yX5_isName cX5_isName 1 (some .boolean) 1 [.int a0] (f_X5_isName a0 I) I := by
  refine ct_i (by decide) (Nat.le_of_ble_eq_true rfl) ?_
  intro κ hlau hret C
  refine e_lv [0] (lv1 := [(0, .int a0)]) rfl ?_
  unfold f_X5_isName
  refine e_iload_n C dX5_isName_0 rfl 0 rfl (q := 1) rfl ?_
  refine e_bipush C dX5_isName_1 b8_m9 (q := 3) rfl ?_
  refine e_icmpgt C (tgt := 16) (q := 6) dX5_isName_3 rfl rfl ?_ ?_
  · refine e_iconst C dX5_isName_16 ic_0 (q := 17) rfl ?_
    exact e_ireturn C dX5_isName_17 hret rfl
  · refine e_iload_n C dX5_isName_6 rfl 0 rfl (q := 7) rfl ?_
    refine e_bipush C dX5_isName_7 b8_m14 (q := 9) rfl ?_
    refine e_icmplt C (tgt := 16) (q := 12) dX5_isName_9 rfl rfl ?_ ?_
    · refine e_iconst C dX5_isName_16 ic_0 (q := 17) rfl ?_
      exact e_ireturn C dX5_isName_17 hret rfl
    · refine e_iconst C dX5_isName_12 ic_1 (q := 13) rfl ?_
      refine e_goto C (tgt := 17) dX5_isName_13 rfl ?_
      exact e_ireturn C dX5_isName_17 hret rfl
set_option maxHeartbeats 4000000 in
set_option maxRecDepth 100000 in
theorem x_X4_endPart {l : Launch} {ω : Om} {τ : Nat} {a1 : Int32} (hn : 56 ≤ oN ω) (hτ : τ < 6) {I : Mem} : CTv l ω yX4_endPart cX4_endPart 2 none 1 [.ref (oA ω (30 + 3 * τ)), .int a1] (f_X4_endPart τ a1 I) I := by
  refine ct_v (by decide) (Nat.le_of_ble_eq_true rfl) ?_
  intro κ hlau hret C
  refine e_lv [0, 1] (lv1 := [(0, .ref (oA ω (30 + 3 * τ))), (1, .int a1)]) rfl ?_
  unfold f_X4_endPart
  refine e_aload_n C dX4_endPart_0 rfl 0 rfl (q := 1) rfl ?_
  refine e_getf C (k := (30 + 3 * τ)) (j := 2) (T := TX4) (N := 4) (v := .ref (oA ω (30 + 3 * τ + 2))) dX4_endPart_1 (ltTx hn hτ) (cOb_Tx (τ := τ) hτ _) rfl (by decide) in_X4 w_175 rfl (q := 4) rfl ?_
  refine e_iload_n C dX4_endPart_4 rfl 1 rfl (q := 5) rfl ?_
  refine e_aload_n C dX4_endPart_5 rfl 0 rfl (q := 6) rfl ?_
  refine e_getf C (k := (30 + 3 * τ)) (j := 3) (T := TX4) (N := 4) (v := .int (I (30 + 3 * τ) 3)) dX4_endPart_6 (ltTx hn hτ) (cOb_Tx (τ := τ) hτ _) rfl (by decide) in_X4 w_176 rfl (q := 9) rfl ?_
  refine e_iast C (k := (30 + 3 * τ + 2)) (n := 3) dX4_endPart_9 (ltTxj hn hτ 2 (by decide)) (cAr_Tx2 hτ) (q := 10) rfl ?_
  refine e_nmM (fun J1 => ?_)
  exact e_vreturn C dX4_endPart_10 hret
set_option maxHeartbeats 4000000 in
set_option maxRecDepth 100000 in
theorem x_X2_become {l : Launch} {ω : Om} {ρ : Nat} {r1 : Nat} (hn : 56 ≤ oN ω) (hρ : ρ < 3) (hr1 : r1 < 3) {I : Mem} : CTv l ω yX2_become cX2_become 2 none 1 [.ref (oA ω (2 + 8 * ρ)), .ref (oA ω (2 + 8 * r1))] (f_X2_become ρ r1 I) I := by
  refine ct_v (by decide) (Nat.le_of_ble_eq_true rfl) ?_
  intro κ hlau hret C
  refine e_lv [0, 1] (lv1 := [(0, .ref (oA ω (2 + 8 * ρ))), (1, .ref (oA ω (2 + 8 * r1)))]) rfl ?_
  unfold f_X2_become
  refine e_aload_n C dX2_become_0 rfl 1 rfl (q := 1) rfl ?_
  refine e_getf C (k := (2 + 8 * r1)) (j := 1) (T := TX2) (N := 11) (v := .ref (oA ω (2 + 8 * r1 + 1))) dX2_become_1 (ltRg hn hr1) (cOb_Rg (ρ := r1) hr1 _) rfl (by decide) in_X2 w_89 rfl (q := 4) rfl ?_
  refine e_iconst C dX2_become_4 ic_0 (q := 5) rfl ?_
  refine e_aload_n C dX2_become_5 rfl 0 rfl (q := 6) rfl ?_
  refine e_getf C (k := (2 + 8 * ρ)) (j := 1) (T := TX2) (N := 11) (v := .ref (oA ω (2 + 8 * ρ + 1))) dX2_become_6 (ltRg hn hρ) (cOb_Rg (ρ := ρ) hρ _) rfl (by decide) in_X2 w_89 rfl (q := 9) rfl ?_
  refine e_iconst C dX2_become_9 ic_0 (q := 10) rfl ?_
  refine e_bipush C dX2_become_10 b8_6 (q := 12) rfl ?_
  refine e_acopy C (k0 := (2 + 8 * r1 + 1)) (k1 := (2 + 8 * ρ + 1)) (n0 := 6) (n1 := 6) dX2_become_12 ⟨(ltRgj hn hr1 1 (by decide)), (cAr_Rg hr1 1 (by decide))⟩ ⟨(ltRgj hn hρ 1 (by decide)), (cAr_Rg hρ 1 (by decide))⟩ w_528 w_530 w_529 w_69 (Nat.le_of_ble_eq_true rfl) (Nat.le_of_ble_eq_true rfl) (q := 15) rfl ?_
  refine e_nmM (fun J1 => ?_)
  refine e_aload_n C dX2_become_15 rfl 1 rfl (q := 16) rfl ?_
  refine e_getf C (k := (2 + 8 * r1)) (j := 2) (T := TX2) (N := 11) (v := .ref (oA ω (2 + 8 * r1 + 2))) dX2_become_16 (ltRg hn hr1) (cOb_Rg (ρ := r1) hr1 _) rfl (by decide) in_X2 w_91 rfl (q := 19) rfl ?_
  refine e_iconst C dX2_become_19 ic_0 (q := 20) rfl ?_
  refine e_aload_n C dX2_become_20 rfl 0 rfl (q := 21) rfl ?_
  refine e_getf C (k := (2 + 8 * ρ)) (j := 2) (T := TX2) (N := 11) (v := .ref (oA ω (2 + 8 * ρ + 2))) dX2_become_21 (ltRg hn hρ) (cOb_Rg (ρ := ρ) hρ _) rfl (by decide) in_X2 w_91 rfl (q := 24) rfl ?_
  refine e_iconst C dX2_become_24 ic_0 (q := 25) rfl ?_
  refine e_bipush C dX2_become_25 b8_6 (q := 27) rfl ?_
  refine e_acopy C (k0 := (2 + 8 * r1 + 2)) (k1 := (2 + 8 * ρ + 2)) (n0 := 6) (n1 := 6) dX2_become_27 ⟨(ltRgj hn hr1 2 (by decide)), (cAr_Rg hr1 2 (by decide))⟩ ⟨(ltRgj hn hρ 2 (by decide)), (cAr_Rg hρ 2 (by decide))⟩ w_528 w_530 w_529 w_69 (Nat.le_of_ble_eq_true rfl) (Nat.le_of_ble_eq_true rfl) (q := 30) rfl ?_
  refine e_nmM (fun J2 => ?_)
  refine e_aload_n C dX2_become_30 rfl 1 rfl (q := 31) rfl ?_
  refine e_getf C (k := (2 + 8 * r1)) (j := 3) (T := TX2) (N := 11) (v := .ref (oA ω (2 + 8 * r1 + 3))) dX2_become_31 (ltRg hn hr1) (cOb_Rg (ρ := r1) hr1 _) rfl (by decide) in_X2 w_94 rfl (q := 34) rfl ?_
  refine e_iconst C dX2_become_34 ic_0 (q := 35) rfl ?_
  refine e_aload_n C dX2_become_35 rfl 0 rfl (q := 36) rfl ?_
  refine e_getf C (k := (2 + 8 * ρ)) (j := 3) (T := TX2) (N := 11) (v := .ref (oA ω (2 + 8 * ρ + 3))) dX2_become_36 (ltRg hn hρ) (cOb_Rg (ρ := ρ) hρ _) rfl (by decide) in_X2 w_94 rfl (q := 39) rfl ?_
  refine e_iconst C dX2_become_39 ic_0 (q := 40) rfl ?_
  refine e_bipush C dX2_become_40 b8_6 (q := 42) rfl ?_
  refine e_acopy C (k0 := (2 + 8 * r1 + 3)) (k1 := (2 + 8 * ρ + 3)) (n0 := 6) (n1 := 6) dX2_become_42 ⟨(ltRgj hn hr1 3 (by decide)), (cAr_Rg hr1 3 (by decide))⟩ ⟨(ltRgj hn hρ 3 (by decide)), (cAr_Rg hρ 3 (by decide))⟩ w_528 w_530 w_529 w_69 (Nat.le_of_ble_eq_true rfl) (Nat.le_of_ble_eq_true rfl) (q := 45) rfl ?_
  refine e_nmM (fun J3 => ?_)
  refine e_aload_n C dX2_become_45 rfl 1 rfl (q := 46) rfl ?_
  refine e_getf C (k := (2 + 8 * r1)) (j := 4) (T := TX2) (N := 11) (v := .ref (oA ω (2 + 8 * r1 + 4))) dX2_become_46 (ltRg hn hr1) (cOb_Rg (ρ := r1) hr1 _) rfl (by decide) in_X2 w_96 rfl (q := 49) rfl ?_
  refine e_iconst C dX2_become_49 ic_0 (q := 50) rfl ?_
  refine e_aload_n C dX2_become_50 rfl 0 rfl (q := 51) rfl ?_
  refine e_getf C (k := (2 + 8 * ρ)) (j := 4) (T := TX2) (N := 11) (v := .ref (oA ω (2 + 8 * ρ + 4))) dX2_become_51 (ltRg hn hρ) (cOb_Rg (ρ := ρ) hρ _) rfl (by decide) in_X2 w_96 rfl (q := 54) rfl ?_
  refine e_iconst C dX2_become_54 ic_0 (q := 55) rfl ?_
  refine e_bipush C dX2_become_55 b8_6 (q := 57) rfl ?_
  refine e_acopy C (k0 := (2 + 8 * r1 + 4)) (k1 := (2 + 8 * ρ + 4)) (n0 := 6) (n1 := 6) dX2_become_57 ⟨(ltRgj hn hr1 4 (by decide)), (cAr_Rg hr1 4 (by decide))⟩ ⟨(ltRgj hn hρ 4 (by decide)), (cAr_Rg hρ 4 (by decide))⟩ w_528 w_530 w_529 w_69 (Nat.le_of_ble_eq_true rfl) (Nat.le_of_ble_eq_true rfl) (q := 60) rfl ?_
  refine e_nmM (fun J4 => ?_)
  refine e_aload_n C dX2_become_60 rfl 1 rfl (q := 61) rfl ?_
  refine e_getf C (k := (2 + 8 * r1)) (j := 5) (T := TX2) (N := 11) (v := .ref (oA ω (2 + 8 * r1 + 5))) dX2_become_61 (ltRg hn hr1) (cOb_Rg (ρ := r1) hr1 _) rfl (by decide) in_X2 w_99 rfl (q := 64) rfl ?_
  refine e_iconst C dX2_become_64 ic_0 (q := 65) rfl ?_
  refine e_aload_n C dX2_become_65 rfl 0 rfl (q := 66) rfl ?_
  refine e_getf C (k := (2 + 8 * ρ)) (j := 5) (T := TX2) (N := 11) (v := .ref (oA ω (2 + 8 * ρ + 5))) dX2_become_66 (ltRg hn hρ) (cOb_Rg (ρ := ρ) hρ _) rfl (by decide) in_X2 w_99 rfl (q := 69) rfl ?_
  refine e_iconst C dX2_become_69 ic_0 (q := 70) rfl ?_
  refine e_bipush C dX2_become_70 b8_6 (q := 72) rfl ?_
  refine e_acopy C (k0 := (2 + 8 * r1 + 5)) (k1 := (2 + 8 * ρ + 5)) (n0 := 6) (n1 := 6) dX2_become_72 ⟨(ltRgj hn hr1 5 (by decide)), (cAr_Rg hr1 5 (by decide))⟩ ⟨(ltRgj hn hρ 5 (by decide)), (cAr_Rg hρ 5 (by decide))⟩ w_528 w_530 w_529 w_69 (Nat.le_of_ble_eq_true rfl) (Nat.le_of_ble_eq_true rfl) (q := 75) rfl ?_
  refine e_nmM (fun J5 => ?_)
  refine e_aload_n C dX2_become_75 rfl 1 rfl (q := 76) rfl ?_
  refine e_getf C (k := (2 + 8 * r1)) (j := 6) (T := TX2) (N := 11) (v := .ref (oA ω (2 + 8 * r1 + 6))) dX2_become_76 (ltRg hn hr1) (cOb_Rg (ρ := r1) hr1 _) rfl (by decide) in_X2 w_102 rfl (q := 79) rfl ?_
  refine e_iconst C dX2_become_79 ic_0 (q := 80) rfl ?_
  refine e_aload_n C dX2_become_80 rfl 0 rfl (q := 81) rfl ?_
  refine e_getf C (k := (2 + 8 * ρ)) (j := 6) (T := TX2) (N := 11) (v := .ref (oA ω (2 + 8 * ρ + 6))) dX2_become_81 (ltRg hn hρ) (cOb_Rg (ρ := ρ) hρ _) rfl (by decide) in_X2 w_102 rfl (q := 84) rfl ?_
  refine e_iconst C dX2_become_84 ic_0 (q := 85) rfl ?_
  refine e_bipush C dX2_become_85 b8_6 (q := 87) rfl ?_
  refine e_acopy C (k0 := (2 + 8 * r1 + 6)) (k1 := (2 + 8 * ρ + 6)) (n0 := 6) (n1 := 6) dX2_become_87 ⟨(ltRgj hn hr1 6 (by decide)), (cAr_Rg hr1 6 (by decide))⟩ ⟨(ltRgj hn hρ 6 (by decide)), (cAr_Rg hρ 6 (by decide))⟩ w_528 w_530 w_529 w_69 (Nat.le_of_ble_eq_true rfl) (Nat.le_of_ble_eq_true rfl) (q := 90) rfl ?_
  refine e_nmM (fun J6 => ?_)
  refine e_aload_n C dX2_become_90 rfl 1 rfl (q := 91) rfl ?_
  refine e_getf C (k := (2 + 8 * r1)) (j := 7) (T := TX2) (N := 11) (v := .ref (oA ω (2 + 8 * r1 + 7))) dX2_become_91 (ltRg hn hr1) (cOb_Rg (ρ := r1) hr1 _) rfl (by decide) in_X2 w_105 rfl (q := 94) rfl ?_
  refine e_iconst C dX2_become_94 ic_0 (q := 95) rfl ?_
  refine e_aload_n C dX2_become_95 rfl 0 rfl (q := 96) rfl ?_
  refine e_getf C (k := (2 + 8 * ρ)) (j := 7) (T := TX2) (N := 11) (v := .ref (oA ω (2 + 8 * ρ + 7))) dX2_become_96 (ltRg hn hρ) (cOb_Rg (ρ := ρ) hρ _) rfl (by decide) in_X2 w_105 rfl (q := 99) rfl ?_
  refine e_iconst C dX2_become_99 ic_0 (q := 100) rfl ?_
  refine e_bipush C dX2_become_100 b8_36 (q := 102) rfl ?_
  refine e_acopy C (k0 := (2 + 8 * r1 + 7)) (k1 := (2 + 8 * ρ + 7)) (n0 := 36) (n1 := 36) dX2_become_102 ⟨(ltRgj hn hr1 7 (by decide)), (cAr_Rg7 hr1)⟩ ⟨(ltRgj hn hρ 7 (by decide)), (cAr_Rg7 hρ)⟩ w_528 w_530 w_529 w_69 (Nat.le_of_ble_eq_true rfl) (Nat.le_of_ble_eq_true rfl) (q := 105) rfl ?_
  refine e_nmM (fun J7 => ?_)
  refine e_aload_n C dX2_become_105 rfl 0 rfl (q := 106) rfl ?_
  refine e_aload_n C dX2_become_106 rfl 1 rfl (q := 107) rfl ?_
  refine e_getf C (k := (2 + 8 * r1)) (j := 8) (T := TX2) (N := 11) (v := .int (J7 (2 + 8 * r1) 8)) dX2_become_107 (ltRg hn hr1) (cOb_Rg (ρ := r1) hr1 _) rfl (by decide) in_X2 w_108 rfl (q := 110) rfl ?_
  refine e_putf C (k := (2 + 8 * ρ)) (j := 8) (T := TX2) (N := 11) dX2_become_110 (ltRg hn hρ) (cOb_Rg (ρ := ρ) hρ _) rfl (by decide) in_X2 w_108 tyX2_ok nmX2 rfl rfl rfl (show 8 < 11 by decide) (set_Rg_8_ (ρ := ρ) hρ _) (q := 113) rfl ?_
  refine e_nmM (fun J8 => ?_)
  refine e_aload_n C dX2_become_113 rfl 0 rfl (q := 114) rfl ?_
  refine e_aload_n C dX2_become_114 rfl 1 rfl (q := 115) rfl ?_
  refine e_getf C (k := (2 + 8 * r1)) (j := 9) (T := TX2) (N := 11) (v := .int (J8 (2 + 8 * r1) 9)) dX2_become_115 (ltRg hn hr1) (cOb_Rg (ρ := r1) hr1 _) rfl (by decide) in_X2 w_110 rfl (q := 118) rfl ?_
  refine e_putf C (k := (2 + 8 * ρ)) (j := 9) (T := TX2) (N := 11) dX2_become_118 (ltRg hn hρ) (cOb_Rg (ρ := ρ) hρ _) rfl (by decide) in_X2 w_110 tyX2_ok nmX2 rfl rfl rfl (show 9 < 11 by decide) (set_Rg_9_ (ρ := ρ) hρ _) (q := 121) rfl ?_
  refine e_nmM (fun J9 => ?_)
  refine e_aload_n C dX2_become_121 rfl 0 rfl (q := 122) rfl ?_
  refine e_aload_n C dX2_become_122 rfl 1 rfl (q := 123) rfl ?_
  refine e_getf C (k := (2 + 8 * r1)) (j := 10) (T := TX2) (N := 11) (v := .int (J9 (2 + 8 * r1) 10)) dX2_become_123 (ltRg hn hr1) (cOb_Rg (ρ := r1) hr1 _) rfl (by decide) in_X2 w_113 rfl (q := 126) rfl ?_
  refine e_putf C (k := (2 + 8 * ρ)) (j := 10) (T := TX2) (N := 11) dX2_become_126 (ltRg hn hρ) (cOb_Rg (ρ := ρ) hρ _) rfl (by decide) in_X2 w_113 tyX2_ok nmX2 rfl rfl rfl (show 10 < 11 by decide) (set_Rg_10_ (ρ := ρ) hρ _) (q := 129) rfl ?_
  refine e_nmM (fun J10 => ?_)
  exact e_vreturn C dX2_become_129 hret
set_option maxHeartbeats 4000000 in
set_option maxRecDepth 100000 in
theorem x_X2_add {l : Launch} {ω : Om} {ρ : Nat} {a1 : Int32} {a2 : Int32} {a3 : Int32} (hn : 56 ≤ oN ω) (hρ : ρ < 3) {I : Mem} : CTv l ω yX2_add cX2_add 5 none 1 [.ref (oA ω (2 + 8 * ρ)), .int a1, .int a2, .int a3] (f_X2_add ρ a1 a2 a3 I) I := by
  refine ct_v (by decide) (Nat.le_of_ble_eq_true rfl) ?_
  intro κ hlau hret C
  refine e_lv [0, 1, 2, 3] (lv1 := [(0, .ref (oA ω (2 + 8 * ρ))), (1, .int a1), (2, .int a2), (3, .int a3)]) rfl ?_
  unfold f_X2_add
  refine e_aload_n C dX2_add_0 rfl 0 rfl (q := 1) rfl ?_
  refine e_getf C (k := (2 + 8 * ρ)) (j := 8) (T := TX2) (N := 11) (v := .int (I (2 + 8 * ρ) 8)) dX2_add_1 (ltRg hn hρ) (cOb_Rg (ρ := ρ) hρ _) rfl (by decide) in_X2 w_108 rfl (q := 4) rfl ?_
  refine e_nmi (fun v1 => ?_)
  refine e_istore C (lv1 := [(4, .int v1), (0, .ref (oA ω (2 + 8 * ρ))), (1, .int a1), (2, .int a2), (3, .int a3)]) dX2_add_4 (Nat.le_of_ble_eq_true rfl) rfl (q := 6) rfl ?_
  refine e_aload_n C dX2_add_6 rfl 1 rfl (q := 7) rfl ?_
  refine e_getf C (k := (2 + 8 * ρ)) (j := 1) (T := TX2) (N := 11) (v := .ref (oA ω (2 + 8 * ρ + 1))) dX2_add_7 (ltRg hn hρ) (cOb_Rg (ρ := ρ) hρ _) rfl (by decide) in_X2 w_89 rfl (q := 10) rfl ?_
  refine e_iload C dX2_add_10 0 rfl (q := 12) rfl ?_
  refine e_iload_n C dX2_add_12 rfl 2 rfl (q := 13) rfl ?_
  refine e_bipush C dX2_add_13 b8_10 (q := 15) rfl ?_
  refine e_idiv C dX2_add_15 (by decide) (q := 16) rfl ?_
  refine e_iast C (k := (2 + 8 * ρ + 1)) (n := 6) dX2_add_16 (ltRgj hn hρ 1 (by decide)) (cAr_Rg hρ 1 (by decide)) (q := 17) rfl ?_
  refine e_nmM (fun J2 => ?_)
  refine e_aload_n C dX2_add_17 rfl 1 rfl (q := 18) rfl ?_
  refine e_getf C (k := (2 + 8 * ρ)) (j := 2) (T := TX2) (N := 11) (v := .ref (oA ω (2 + 8 * ρ + 2))) dX2_add_18 (ltRg hn hρ) (cOb_Rg (ρ := ρ) hρ _) rfl (by decide) in_X2 w_91 rfl (q := 21) rfl ?_
  refine e_iload C dX2_add_21 0 rfl (q := 23) rfl ?_
  refine e_iload_n C dX2_add_23 rfl 2 rfl (q := 24) rfl ?_
  refine e_bipush C dX2_add_24 b8_10 (q := 26) rfl ?_
  refine e_irem C dX2_add_26 (by decide) (q := 27) rfl ?_
  refine e_iast C (k := (2 + 8 * ρ + 2)) (n := 6) dX2_add_27 (ltRgj hn hρ 2 (by decide)) (cAr_Rg hρ 2 (by decide)) (q := 28) rfl ?_
  refine e_nmM (fun J3 => ?_)
  refine e_aload_n C dX2_add_28 rfl 1 rfl (q := 29) rfl ?_
  refine e_getf C (k := (2 + 8 * ρ)) (j := 3) (T := TX2) (N := 11) (v := .ref (oA ω (2 + 8 * ρ + 3))) dX2_add_29 (ltRg hn hρ) (cOb_Rg (ρ := ρ) hρ _) rfl (by decide) in_X2 w_94 rfl (q := 32) rfl ?_
  refine e_iload C dX2_add_32 0 rfl (q := 34) rfl ?_
  refine e_iload_n C dX2_add_34 rfl 3 rfl (q := 35) rfl ?_
  refine e_iast C (k := (2 + 8 * ρ + 3)) (n := 6) dX2_add_35 (ltRgj hn hρ 3 (by decide)) (cAr_Rg hρ 3 (by decide)) (q := 36) rfl ?_
  refine e_nmM (fun J4 => ?_)
  refine e_aload_n C dX2_add_36 rfl 1 rfl (q := 37) rfl ?_
  refine e_getf C (k := (2 + 8 * ρ)) (j := 4) (T := TX2) (N := 11) (v := .ref (oA ω (2 + 8 * ρ + 4))) dX2_add_37 (ltRg hn hρ) (cOb_Rg (ρ := ρ) hρ _) rfl (by decide) in_X2 w_96 rfl (q := 40) rfl ?_
  refine e_iload C dX2_add_40 0 rfl (q := 42) rfl ?_
  refine e_iload_n C dX2_add_42 rfl 4 rfl (q := 43) rfl ?_
  refine e_bipush C dX2_add_43 b8_100 (q := 45) rfl ?_
  refine e_idiv C dX2_add_45 (by decide) (q := 46) rfl ?_
  refine e_iast C (k := (2 + 8 * ρ + 4)) (n := 6) dX2_add_46 (ltRgj hn hρ 4 (by decide)) (cAr_Rg hρ 4 (by decide)) (q := 47) rfl ?_
  refine e_nmM (fun J5 => ?_)
  refine e_aload_n C dX2_add_47 rfl 1 rfl (q := 48) rfl ?_
  refine e_getf C (k := (2 + 8 * ρ)) (j := 5) (T := TX2) (N := 11) (v := .ref (oA ω (2 + 8 * ρ + 5))) dX2_add_48 (ltRg hn hρ) (cOb_Rg (ρ := ρ) hρ _) rfl (by decide) in_X2 w_99 rfl (q := 51) rfl ?_
  refine e_iload C dX2_add_51 0 rfl (q := 53) rfl ?_
  refine e_iload_n C dX2_add_53 rfl 4 rfl (q := 54) rfl ?_
  refine e_bipush C dX2_add_54 b8_100 (q := 56) rfl ?_
  refine e_irem C dX2_add_56 (by decide) (q := 57) rfl ?_
  refine e_iast C (k := (2 + 8 * ρ + 5)) (n := 6) dX2_add_57 (ltRgj hn hρ 5 (by decide)) (cAr_Rg hρ 5 (by decide)) (q := 58) rfl ?_
  refine e_nmM (fun J6 => ?_)
  refine e_aload_n C dX2_add_58 rfl 1 rfl (q := 59) rfl ?_
  refine e_dup C dX2_add_59 rfl (q := 60) rfl ?_
  refine e_getf C (k := (2 + 8 * ρ)) (j := 8) (T := TX2) (N := 11) (v := .int (J6 (2 + 8 * ρ) 8)) dX2_add_60 (ltRg hn hρ) (cOb_Rg (ρ := ρ) hρ _) rfl (by decide) in_X2 w_108 rfl (q := 63) rfl ?_
  refine e_iconst C dX2_add_63 ic_1 (q := 64) rfl ?_
  refine e_iadd C dX2_add_64 (q := 65) rfl ?_
  refine e_putf C (k := (2 + 8 * ρ)) (j := 8) (T := TX2) (N := 11) dX2_add_65 (ltRg hn hρ) (cOb_Rg (ρ := ρ) hρ _) rfl (by decide) in_X2 w_108 tyX2_ok nmX2 rfl rfl rfl (show 8 < 11 by decide) (set_Rg_8_ (ρ := ρ) hρ _) (q := 68) rfl ?_
  refine e_nmM (fun J7 => ?_)
  exact e_vreturn C dX2_add_68 hret
set_option maxHeartbeats 4000000 in
set_option maxRecDepth 100000 in
theorem x_X2_rowOf {l : Launch} {ω : Om} {ρ : Nat} {a1 : Int32} (hn : 56 ≤ oN ω) (hρ : ρ < 3) {I : Mem} : CTq l ω yX2_rowOf cX2_rowOf 2 (some (.array .int)) 1 [.ref (oA ω (2 + 8 * ρ)), .int a1] (f_X2_rowOf ρ a1 I) I := by
  refine ct_q (by decide) (Nat.le_of_ble_eq_true rfl) ?_
  intro κ hlau hret C
  refine e_lv [0, 1] (lv1 := [(0, .ref (oA ω (2 + 8 * ρ))), (1, .int a1)]) rfl ?_
  unfold f_X2_rowOf
  refine e_iload_n C dX2_rowOf_0 rfl 1 rfl (q := 1) rfl ?_
  refine e_if (fun h1 => ?_) (fun h1 => ?_)
  · refine e_tabIn C (v := 0) (off := 31) (tgt := 32) dX2_rowOf_1 (by rw [h1]; rfl) (by decide) rfl rfl ?_
    refine e_aload_n C dX2_rowOf_32 rfl 0 rfl (q := 33) rfl ?_
    refine e_getf C (k := (2 + 8 * ρ)) (j := 3) (T := TX2) (N := 11) (v := .ref (oA ω (2 + 8 * ρ + 3))) dX2_rowOf_33 (ltRg hn hρ) (cOb_Rg (ρ := ρ) hρ _) rfl (by decide) in_X2 w_94 rfl (q := 36) rfl ?_
    exact e_areturn C (v := some (2 + 8 * ρ + 3)) dX2_rowOf_36 hret rfl
  · refine e_if (fun h2 => ?_) (fun h2 => ?_)
    · refine e_tabIn C (v := 1) (off := 36) (tgt := 37) dX2_rowOf_1 (by rw [h2]; rfl) (by decide) rfl rfl ?_
      refine e_aload_n C dX2_rowOf_37 rfl 0 rfl (q := 38) rfl ?_
      refine e_getf C (k := (2 + 8 * ρ)) (j := 4) (T := TX2) (N := 11) (v := .ref (oA ω (2 + 8 * ρ + 4))) dX2_rowOf_38 (ltRg hn hρ) (cOb_Rg (ρ := ρ) hρ _) rfl (by decide) in_X2 w_96 rfl (q := 41) rfl ?_
      exact e_areturn C (v := some (2 + 8 * ρ + 4)) dX2_rowOf_41 hret rfl
    · refine e_if (fun h3 => ?_) (fun h3 => ?_)
      · refine e_tabIn C (v := 2) (off := 41) (tgt := 42) dX2_rowOf_1 (by rw [h3]; rfl) (by decide) rfl rfl ?_
        refine e_aload_n C dX2_rowOf_42 rfl 0 rfl (q := 43) rfl ?_
        refine e_getf C (k := (2 + 8 * ρ)) (j := 5) (T := TX2) (N := 11) (v := .ref (oA ω (2 + 8 * ρ + 5))) dX2_rowOf_43 (ltRg hn hρ) (cOb_Rg (ρ := ρ) hρ _) rfl (by decide) in_X2 w_99 rfl (q := 46) rfl ?_
        exact e_areturn C (v := some (2 + 8 * ρ + 5)) dX2_rowOf_46 hret rfl
      · refine e_if (fun h4 => ?_) (fun h4 => ?_)
        · refine e_tabIn C (v := 3) (off := 46) (tgt := 47) dX2_rowOf_1 (by rw [h4]; rfl) (by decide) rfl rfl ?_
          refine e_aload_n C dX2_rowOf_47 rfl 0 rfl (q := 48) rfl ?_
          refine e_getf C (k := (2 + 8 * ρ)) (j := 6) (T := TX2) (N := 11) (v := .ref (oA ω (2 + 8 * ρ + 6))) dX2_rowOf_48 (ltRg hn hρ) (cOb_Rg (ρ := ρ) hρ _) rfl (by decide) in_X2 w_102 rfl (q := 51) rfl ?_
          exact e_areturn C (v := some (2 + 8 * ρ + 6)) dX2_rowOf_51 hret rfl
        · refine e_tabOut C (tgt := 52) dX2_rowOf_1 (by have g0 := i32_ne h1; have g1 := i32_ne h2; have g2 := i32_ne h3; have g3 := i32_ne h4; have f0 : ((0 : Int32)).toInt = 0 := rfl; have f1 : ((1 : Int32)).toInt = 1 := rfl; have f2 : ((2 : Int32)).toInt = 2 := rfl; have f3 : ((3 : Int32)).toInt = 3 := rfl; omega) rfl ?_
          refine e_null C dX2_rowOf_52 (q := 53) rfl ?_
          exact e_areturn C (v := none) dX2_rowOf_53 hret rfl
set_option maxHeartbeats 4000000 in
set_option maxRecDepth 100000 in
theorem xb_X2_leaveOnly_b35 {l : Launch} {κ : Kx} {ω : Om} {ρ : Nat} {a1 : Int32} {a2 : Int32} (C : CX κ ω cX2_leaveOnly 4 1 yX2_leaveOnly.cls) (hlau : κ.2.1 = l) (hret : κ.2.2.2.2.2.2.2.2.1.sig.returnType = none) (hn : 56 ≤ oN ω) (hρ : ρ < 3) {K2 : Int32 → Mem → Option (Unit × Mem)} (hK2 : ∀ (x3 : Int32) (J : Mem), EE κ ω 4 (Gv κ ω) (K2 x3 J) J 2 [(3, .int x3), (0, .ref (oA ω (2 + 8 * ρ))), (1, .int a1), (2, .int a2)] []) : ∀ (x3 : Int32) (s0 : Int32) (s1 : Int32) (I : Mem), EE κ ω 4 (Gv κ ω) (f_X2_leaveOnly_b35 ρ a1 a2 K2 x3 s0 s1 I) I 35 [(3, .int x3), (0, .ref (oA ω (2 + 8 * ρ))), (1, .int a1), (2, .int a2)] [.int s0, .int s1, .ref (oA ω (2 + 8 * ρ + 4))] := by
  intro x3 s0 s1 I
  unfold f_X2_leaveOnly_b35
  refine e_iast C (k := (2 + 8 * ρ + 4)) (n := 6) dX2_leaveOnly_35 (ltRgj hn hρ 4 (by decide)) (cAr_Rg hρ 4 (by decide)) (q := 36) rfl ?_
  refine e_nmM (fun J1 => ?_)
  refine e_iinc C (v := x3 + (1 : Int32)) (lv1 := [(3, .int (x3 + (1 : Int32))), (0, .ref (oA ω (2 + 8 * ρ))), (1, .int a1), (2, .int a2)]) dX2_leaveOnly_36 0 rfl (Nat.le_of_ble_eq_true rfl) (by rw [ic_1]) rfl (q := 39) rfl ?_
  refine e_goto C (tgt := 2) dX2_leaveOnly_39 rfl ?_
  exact hK2 (x3 + (1 : Int32)) _
set_option maxHeartbeats 4000000 in
set_option maxRecDepth 100000 in
theorem xb_X2_leaveOnly_b25 {l : Launch} {κ : Kx} {ω : Om} {ρ : Nat} {a1 : Int32} {a2 : Int32} (C : CX κ ω cX2_leaveOnly 4 1 yX2_leaveOnly.cls) (hlau : κ.2.1 = l) (hret : κ.2.2.2.2.2.2.2.2.1.sig.returnType = none) (hn : 56 ≤ oN ω) (hρ : ρ < 3) {K2 : Int32 → Mem → Option (Unit × Mem)} (hK2 : ∀ (x3 : Int32) (J : Mem), EE κ ω 4 (Gv κ ω) (K2 x3 J) J 2 [(3, .int x3), (0, .ref (oA ω (2 + 8 * ρ))), (1, .int a1), (2, .int a2)] []) : ∀ (x3 : Int32) (s0 : Int32) (I : Mem), EE κ ω 4 (Gv κ ω) (f_X2_leaveOnly_b25 ρ a1 a2 K2 x3 s0 I) I 25 [(3, .int x3), (0, .ref (oA ω (2 + 8 * ρ))), (1, .int a1), (2, .int a2)] [.int s0, .ref (oA ω (2 + 8 * ρ + 4))] := by
  intro x3 s0 I
  unfold f_X2_leaveOnly_b25
  refine e_aload_n C dX2_leaveOnly_25 rfl 1 rfl (q := 26) rfl ?_
  refine e_getf C (k := (2 + 8 * ρ)) (j := 4) (T := TX2) (N := 11) (v := .ref (oA ω (2 + 8 * ρ + 4))) dX2_leaveOnly_26 (ltRg hn hρ) (cOb_Rg (ρ := ρ) hρ _) rfl (by decide) in_X2 w_96 rfl (q := 29) rfl ?_
  refine e_iload_n C dX2_leaveOnly_29 rfl 0 rfl (q := 30) rfl ?_
  refine e_iald C (k := (2 + 8 * ρ + 4)) (n := 6) dX2_leaveOnly_30 (ltRgj hn hρ 4 (by decide)) ((cAr_Rg hρ 4 (by decide)) _) (q := 31) rfl ?_
  refine e_goto C (tgt := 35) dX2_leaveOnly_31 rfl ?_
  exact xb_X2_leaveOnly_b35 C hlau hret hn hρ hK2 x3 (I (2 + 8 * ρ + 4) (x3).toNatClampNeg) s0 _
set_option maxHeartbeats 4000000 in
set_option maxRecDepth 100000 in
theorem xb_X2_leaveOnly_b2 {l : Launch} {κ : Kx} {ω : Om} {ρ : Nat} {a1 : Int32} {a2 : Int32} (C : CX κ ω cX2_leaveOnly 4 1 yX2_leaveOnly.cls) (hlau : κ.2.1 = l) (hret : κ.2.2.2.2.2.2.2.2.1.sig.returnType = none) (hn : 56 ≤ oN ω) (hρ : ρ < 3) : ∀ (n : Nat) (x3 : Int32) (I : Mem), EE κ ω 4 (Gv κ ω) (f_X2_leaveOnly_b2 ρ a1 a2 n x3 I) I 2 [(3, .int x3), (0, .ref (oA ω (2 + 8 * ρ))), (1, .int a1), (2, .int a2)] [] := by
  intro n
  induction n with
  | zero => intro x3 I; exact e_none
  | succ n ih =>
    intro x3 I
    rw [f_X2_leaveOnly_b2]
    refine e_iload_n C dX2_leaveOnly_2 rfl 0 rfl (q := 3) rfl ?_
    refine e_aload_n C dX2_leaveOnly_3 rfl 1 rfl (q := 4) rfl ?_
    refine e_getf C (k := (2 + 8 * ρ)) (j := 8) (T := TX2) (N := 11) (v := .int (I (2 + 8 * ρ) 8)) dX2_leaveOnly_4 (ltRg hn hρ) (cOb_Rg (ρ := ρ) hρ _) rfl (by decide) in_X2 w_108 rfl (q := 7) rfl ?_
    refine e_icmpge C (tgt := 42) (q := 10) dX2_leaveOnly_7 rfl rfl ?_ ?_
    · exact e_vreturn C dX2_leaveOnly_42 hret
    · refine e_aload_n C dX2_leaveOnly_10 rfl 1 rfl (q := 11) rfl ?_
      refine e_getf C (k := (2 + 8 * ρ)) (j := 4) (T := TX2) (N := 11) (v := .ref (oA ω (2 + 8 * ρ + 4))) dX2_leaveOnly_11 (ltRg hn hρ) (cOb_Rg (ρ := ρ) hρ _) rfl (by decide) in_X2 w_96 rfl (q := 14) rfl ?_
      refine e_iload_n C dX2_leaveOnly_14 rfl 0 rfl (q := 15) rfl ?_
      refine e_iload_n C dX2_leaveOnly_15 rfl 0 rfl (q := 16) rfl ?_
      refine e_iload_n C dX2_leaveOnly_16 rfl 2 rfl (q := 17) rfl ?_
      refine e_icmpeq C (tgt := 25) (q := 20) dX2_leaveOnly_17 rfl rfl ?_ ?_
      · exact xb_X2_leaveOnly_b25 C hlau hret hn hρ ih x3 x3 _
      · refine e_iload_n C dX2_leaveOnly_20 rfl 0 rfl (q := 21) rfl ?_
        refine e_iload_n C dX2_leaveOnly_21 rfl 3 rfl (q := 22) rfl ?_
        refine e_icmpne C (tgt := 34) (q := 25) dX2_leaveOnly_22 rfl rfl ?_ ?_
        · refine e_iconst C dX2_leaveOnly_34 ic_0 (q := 35) rfl ?_
          exact xb_X2_leaveOnly_b35 C hlau hret hn hρ ih x3 (0 : Int32) x3 _
        · exact xb_X2_leaveOnly_b25 C hlau hret hn hρ ih x3 x3 _
set_option maxHeartbeats 4000000 in
set_option maxRecDepth 100000 in
theorem x_X2_leaveOnly {l : Launch} {ω : Om} {ρ : Nat} {a1 : Int32} {a2 : Int32} (hn : 56 ≤ oN ω) (hρ : ρ < 3) {I : Mem} : CTv l ω yX2_leaveOnly cX2_leaveOnly 4 none 1 [.ref (oA ω (2 + 8 * ρ)), .int a1, .int a2] (f_X2_leaveOnly ρ a1 a2 I) I := by
  refine ct_v (by decide) (Nat.le_of_ble_eq_true rfl) ?_
  intro κ hlau hret C
  refine e_lv [0, 1, 2] (lv1 := [(0, .ref (oA ω (2 + 8 * ρ))), (1, .int a1), (2, .int a2)]) rfl ?_
  unfold f_X2_leaveOnly
  refine e_iconst C dX2_leaveOnly_0 ic_0 (q := 1) rfl ?_
  refine e_istore_n C (lv1 := [(3, .int (0 : Int32)), (0, .ref (oA ω (2 + 8 * ρ))), (1, .int a1), (2, .int a2)]) dX2_leaveOnly_1 rfl (Nat.le_of_ble_eq_true rfl) rfl (q := 2) rfl ?_
  exact xb_X2_leaveOnly_b2 C hlau hret hn hρ FU (0 : Int32) _
set_option maxHeartbeats 4000000 in
set_option maxRecDepth 100000 in
theorem xb_X2_upBits_b4 {l : Launch} {κ : Kx} {ω : Om} {ρ : Nat} (C : CX κ ω cX2_upBits 3 1 yX2_upBits.cls) (hlau : κ.2.1 = l) (hret : κ.2.2.2.2.2.2.2.2.1.sig.returnType = (some .int)) (hn : 56 ≤ oN ω) (hρ : ρ < 3) : ∀ (n : Nat) (x2 : Int32) (x1 : Int32) (I : Mem), EE κ ω 3 (Gi κ ω) (f_X2_upBits_b4 ρ n x2 x1 I) I 4 [(2, .int x2), (1, .int x1), (0, .ref (oA ω (2 + 8 * ρ)))] [] := by
  intro n
  induction n with
  | zero => intro x2 x1 I; exact e_none
  | succ n ih =>
    intro x2 x1 I
    rw [f_X2_upBits_b4]
    refine e_iload_n C dX2_upBits_4 rfl 0 rfl (q := 5) rfl ?_
    refine e_aload_n C dX2_upBits_5 rfl 2 rfl (q := 6) rfl ?_
    refine e_getf C (k := (2 + 8 * ρ)) (j := 8) (T := TX2) (N := 11) (v := .int (I (2 + 8 * ρ) 8)) dX2_upBits_6 (ltRg hn hρ) (cOb_Rg (ρ := ρ) hρ _) rfl (by decide) in_X2 w_108 rfl (q := 9) rfl ?_
    refine e_icmpge C (tgt := 33) (q := 12) dX2_upBits_9 rfl rfl ?_ ?_
    · refine e_iload_n C dX2_upBits_33 rfl 1 rfl (q := 34) rfl ?_
      exact e_ireturn C dX2_upBits_34 hret rfl
    · refine e_aload_n C dX2_upBits_12 rfl 2 rfl (q := 13) rfl ?_
      refine e_getf C (k := (2 + 8 * ρ)) (j := 4) (T := TX2) (N := 11) (v := .ref (oA ω (2 + 8 * ρ + 4))) dX2_upBits_13 (ltRg hn hρ) (cOb_Rg (ρ := ρ) hρ _) rfl (by decide) in_X2 w_96 rfl (q := 16) rfl ?_
      refine e_iload_n C dX2_upBits_16 rfl 0 rfl (q := 17) rfl ?_
      refine e_iald C (k := (2 + 8 * ρ + 4)) (n := 6) dX2_upBits_17 (ltRgj hn hρ 4 (by decide)) ((cAr_Rg hρ 4 (by decide)) _) (q := 18) rfl ?_
      refine e_ifle C (tgt := 27) (q := 21) dX2_upBits_18 rfl rfl ?_ ?_
      · refine e_iinc C (v := x2 + (1 : Int32)) (lv1 := [(2, .int (x2 + (1 : Int32))), (1, .int x1), (0, .ref (oA ω (2 + 8 * ρ)))]) dX2_upBits_27 0 rfl (Nat.le_of_ble_eq_true rfl) (by rw [ic_1]) rfl (q := 30) rfl ?_
        refine e_goto C (tgt := 4) dX2_upBits_30 rfl ?_
        exact ih (x2 + (1 : Int32)) x1 _
      · refine e_iload_n C dX2_upBits_21 rfl 1 rfl (q := 22) rfl ?_
        refine e_iconst C dX2_upBits_22 ic_1 (q := 23) rfl ?_
        refine e_iload_n C dX2_upBits_23 rfl 0 rfl (q := 24) rfl ?_
        refine e_ishl C dX2_upBits_24 (q := 25) rfl ?_
        refine e_ior C dX2_upBits_25 (q := 26) rfl ?_
        refine e_nmi (fun v1 => ?_)
        refine e_istore_n C (lv1 := [(1, .int v1), (2, .int x2), (0, .ref (oA ω (2 + 8 * ρ)))]) dX2_upBits_26 rfl (Nat.le_of_ble_eq_true rfl) rfl (q := 27) rfl ?_
        refine e_iinc C (v := x2 + (1 : Int32)) (lv1 := [(2, .int (x2 + (1 : Int32))), (1, .int v1), (0, .ref (oA ω (2 + 8 * ρ)))]) dX2_upBits_27 1 rfl (Nat.le_of_ble_eq_true rfl) (by rw [ic_1]) rfl (q := 30) rfl ?_
        refine e_goto C (tgt := 4) dX2_upBits_30 rfl ?_
        exact ih (x2 + (1 : Int32)) v1 _
set_option maxHeartbeats 4000000 in
set_option maxRecDepth 100000 in
theorem x_X2_upBits {l : Launch} {ω : Om} {ρ : Nat} (hn : 56 ≤ oN ω) (hρ : ρ < 3) {I : Mem} : CTi l ω yX2_upBits cX2_upBits 3 (some .int) 1 [.ref (oA ω (2 + 8 * ρ))] (f_X2_upBits ρ I) I := by
  refine ct_i (by decide) (Nat.le_of_ble_eq_true rfl) ?_
  intro κ hlau hret C
  refine e_lv [0] (lv1 := [(0, .ref (oA ω (2 + 8 * ρ)))]) rfl ?_
  unfold f_X2_upBits
  refine e_iconst C dX2_upBits_0 ic_0 (q := 1) rfl ?_
  refine e_istore_n C (lv1 := [(1, .int (0 : Int32)), (0, .ref (oA ω (2 + 8 * ρ)))]) dX2_upBits_1 rfl (Nat.le_of_ble_eq_true rfl) rfl (q := 2) rfl ?_
  refine e_iconst C dX2_upBits_2 ic_0 (q := 3) rfl ?_
  refine e_istore_n C (lv1 := [(2, .int (0 : Int32)), (1, .int (0 : Int32)), (0, .ref (oA ω (2 + 8 * ρ)))]) dX2_upBits_3 rfl (Nat.le_of_ble_eq_true rfl) rfl (q := 4) rfl ?_
  exact xb_X2_upBits_b4 C hlau hret hn hρ FU (0 : Int32) (0 : Int32) _
set_option maxHeartbeats 4000000 in
set_option maxRecDepth 100000 in
theorem xb_X2_upCount_b4 {l : Launch} {κ : Kx} {ω : Om} {ρ : Nat} (C : CX κ ω cX2_upCount 3 1 yX2_upCount.cls) (hlau : κ.2.1 = l) (hret : κ.2.2.2.2.2.2.2.2.1.sig.returnType = (some .int)) (hn : 56 ≤ oN ω) (hρ : ρ < 3) : ∀ (n : Nat) (x2 : Int32) (x1 : Int32) (I : Mem), EE κ ω 3 (Gi κ ω) (f_X2_upCount_b4 ρ n x2 x1 I) I 4 [(2, .int x2), (1, .int x1), (0, .ref (oA ω (2 + 8 * ρ)))] [] := by
  intro n
  induction n with
  | zero => intro x2 x1 I; exact e_none
  | succ n ih =>
    intro x2 x1 I
    rw [f_X2_upCount_b4]
    refine e_iload_n C dX2_upCount_4 rfl 0 rfl (q := 5) rfl ?_
    refine e_aload_n C dX2_upCount_5 rfl 2 rfl (q := 6) rfl ?_
    refine e_getf C (k := (2 + 8 * ρ)) (j := 8) (T := TX2) (N := 11) (v := .int (I (2 + 8 * ρ) 8)) dX2_upCount_6 (ltRg hn hρ) (cOb_Rg (ρ := ρ) hρ _) rfl (by decide) in_X2 w_108 rfl (q := 9) rfl ?_
    refine e_icmpge C (tgt := 30) (q := 12) dX2_upCount_9 rfl rfl ?_ ?_
    · refine e_iload_n C dX2_upCount_30 rfl 1 rfl (q := 31) rfl ?_
      exact e_ireturn C dX2_upCount_31 hret rfl
    · refine e_aload_n C dX2_upCount_12 rfl 2 rfl (q := 13) rfl ?_
      refine e_getf C (k := (2 + 8 * ρ)) (j := 4) (T := TX2) (N := 11) (v := .ref (oA ω (2 + 8 * ρ + 4))) dX2_upCount_13 (ltRg hn hρ) (cOb_Rg (ρ := ρ) hρ _) rfl (by decide) in_X2 w_96 rfl (q := 16) rfl ?_
      refine e_iload_n C dX2_upCount_16 rfl 0 rfl (q := 17) rfl ?_
      refine e_iald C (k := (2 + 8 * ρ + 4)) (n := 6) dX2_upCount_17 (ltRgj hn hρ 4 (by decide)) ((cAr_Rg hρ 4 (by decide)) _) (q := 18) rfl ?_
      refine e_ifle C (tgt := 24) (q := 21) dX2_upCount_18 rfl rfl ?_ ?_
      · refine e_iinc C (v := x2 + (1 : Int32)) (lv1 := [(2, .int (x2 + (1 : Int32))), (1, .int x1), (0, .ref (oA ω (2 + 8 * ρ)))]) dX2_upCount_24 0 rfl (Nat.le_of_ble_eq_true rfl) (by rw [ic_1]) rfl (q := 27) rfl ?_
        refine e_goto C (tgt := 4) dX2_upCount_27 rfl ?_
        exact ih (x2 + (1 : Int32)) x1 _
      · refine e_iinc C (v := x1 + (1 : Int32)) (lv1 := [(1, .int (x1 + (1 : Int32))), (2, .int x2), (0, .ref (oA ω (2 + 8 * ρ)))]) dX2_upCount_21 1 rfl (Nat.le_of_ble_eq_true rfl) (by rw [ic_1]) rfl (q := 24) rfl ?_
        refine e_iinc C (v := x2 + (1 : Int32)) (lv1 := [(2, .int (x2 + (1 : Int32))), (1, .int (x1 + (1 : Int32))), (0, .ref (oA ω (2 + 8 * ρ)))]) dX2_upCount_24 1 rfl (Nat.le_of_ble_eq_true rfl) (by rw [ic_1]) rfl (q := 27) rfl ?_
        refine e_goto C (tgt := 4) dX2_upCount_27 rfl ?_
        exact ih (x2 + (1 : Int32)) (x1 + (1 : Int32)) _
set_option maxHeartbeats 4000000 in
set_option maxRecDepth 100000 in
theorem x_X2_upCount {l : Launch} {ω : Om} {ρ : Nat} (hn : 56 ≤ oN ω) (hρ : ρ < 3) {I : Mem} : CTi l ω yX2_upCount cX2_upCount 3 (some .int) 1 [.ref (oA ω (2 + 8 * ρ))] (f_X2_upCount ρ I) I := by
  refine ct_i (by decide) (Nat.le_of_ble_eq_true rfl) ?_
  intro κ hlau hret C
  refine e_lv [0] (lv1 := [(0, .ref (oA ω (2 + 8 * ρ)))]) rfl ?_
  unfold f_X2_upCount
  refine e_iconst C dX2_upCount_0 ic_0 (q := 1) rfl ?_
  refine e_istore_n C (lv1 := [(1, .int (0 : Int32)), (0, .ref (oA ω (2 + 8 * ρ)))]) dX2_upCount_1 rfl (Nat.le_of_ble_eq_true rfl) rfl (q := 2) rfl ?_
  refine e_iconst C dX2_upCount_2 ic_0 (q := 3) rfl ?_
  refine e_istore_n C (lv1 := [(2, .int (0 : Int32)), (1, .int (0 : Int32)), (0, .ref (oA ω (2 + 8 * ρ)))]) dX2_upCount_3 rfl (Nat.le_of_ble_eq_true rfl) rfl (q := 4) rfl ?_
  exact xb_X2_upCount_b4 C hlau hret hn hρ FU (0 : Int32) (0 : Int32) _
set_option maxHeartbeats 4000000 in
set_option maxRecDepth 100000 in
theorem xb_X2_feltSum_b4 {l : Launch} {κ : Kx} {ω : Om} {ρ : Nat} (C : CX κ ω cX2_feltSum 3 1 yX2_feltSum.cls) (hlau : κ.2.1 = l) (hret : κ.2.2.2.2.2.2.2.2.1.sig.returnType = (some .int)) (hn : 56 ≤ oN ω) (hρ : ρ < 3) : ∀ (n : Nat) (x2 : Int32) (x1 : Int32) (I : Mem), EE κ ω 3 (Gi κ ω) (f_X2_feltSum_b4 ρ n x2 x1 I) I 4 [(2, .int x2), (1, .int x1), (0, .ref (oA ω (2 + 8 * ρ)))] [] := by
  intro n
  induction n with
  | zero => intro x2 x1 I; exact e_none
  | succ n ih =>
    intro x2 x1 I
    rw [f_X2_feltSum_b4]
    refine e_iload_n C dX2_feltSum_4 rfl 0 rfl (q := 5) rfl ?_
    refine e_aload_n C dX2_feltSum_5 rfl 2 rfl (q := 6) rfl ?_
    refine e_getf C (k := (2 + 8 * ρ)) (j := 8) (T := TX2) (N := 11) (v := .int (I (2 + 8 * ρ) 8)) dX2_feltSum_6 (ltRg hn hρ) (cOb_Rg (ρ := ρ) hρ _) rfl (by decide) in_X2 w_108 rfl (q := 9) rfl ?_
    refine e_icmpge C (tgt := 27) (q := 12) dX2_feltSum_9 rfl rfl ?_ ?_
    · refine e_iload_n C dX2_feltSum_27 rfl 1 rfl (q := 28) rfl ?_
      exact e_ireturn C dX2_feltSum_28 hret rfl
    · refine e_iload_n C dX2_feltSum_12 rfl 1 rfl (q := 13) rfl ?_
      refine e_aload_n C dX2_feltSum_13 rfl 2 rfl (q := 14) rfl ?_
      refine e_getf C (k := (2 + 8 * ρ)) (j := 4) (T := TX2) (N := 11) (v := .ref (oA ω (2 + 8 * ρ + 4))) dX2_feltSum_14 (ltRg hn hρ) (cOb_Rg (ρ := ρ) hρ _) rfl (by decide) in_X2 w_96 rfl (q := 17) rfl ?_
      refine e_iload_n C dX2_feltSum_17 rfl 0 rfl (q := 18) rfl ?_
      refine e_iald C (k := (2 + 8 * ρ + 4)) (n := 6) dX2_feltSum_18 (ltRgj hn hρ 4 (by decide)) ((cAr_Rg hρ 4 (by decide)) _) (q := 19) rfl ?_
      refine e_iadd C dX2_feltSum_19 (q := 20) rfl ?_
      refine e_nmi (fun v1 => ?_)
      refine e_istore_n C (lv1 := [(1, .int v1), (2, .int x2), (0, .ref (oA ω (2 + 8 * ρ)))]) dX2_feltSum_20 rfl (Nat.le_of_ble_eq_true rfl) rfl (q := 21) rfl ?_
      refine e_iinc C (v := x2 + (1 : Int32)) (lv1 := [(2, .int (x2 + (1 : Int32))), (1, .int v1), (0, .ref (oA ω (2 + 8 * ρ)))]) dX2_feltSum_21 1 rfl (Nat.le_of_ble_eq_true rfl) (by rw [ic_1]) rfl (q := 24) rfl ?_
      refine e_goto C (tgt := 4) dX2_feltSum_24 rfl ?_
      exact ih (x2 + (1 : Int32)) v1 _
set_option maxHeartbeats 4000000 in
set_option maxRecDepth 100000 in
theorem x_X2_feltSum {l : Launch} {ω : Om} {ρ : Nat} (hn : 56 ≤ oN ω) (hρ : ρ < 3) {I : Mem} : CTi l ω yX2_feltSum cX2_feltSum 3 (some .int) 1 [.ref (oA ω (2 + 8 * ρ))] (f_X2_feltSum ρ I) I := by
  refine ct_i (by decide) (Nat.le_of_ble_eq_true rfl) ?_
  intro κ hlau hret C
  refine e_lv [0] (lv1 := [(0, .ref (oA ω (2 + 8 * ρ)))]) rfl ?_
  unfold f_X2_feltSum
  refine e_iconst C dX2_feltSum_0 ic_0 (q := 1) rfl ?_
  refine e_istore_n C (lv1 := [(1, .int (0 : Int32)), (0, .ref (oA ω (2 + 8 * ρ)))]) dX2_feltSum_1 rfl (Nat.le_of_ble_eq_true rfl) rfl (q := 2) rfl ?_
  refine e_iconst C dX2_feltSum_2 ic_0 (q := 3) rfl ?_
  refine e_istore_n C (lv1 := [(2, .int (0 : Int32)), (1, .int (0 : Int32)), (0, .ref (oA ω (2 + 8 * ρ)))]) dX2_feltSum_3 rfl (Nat.le_of_ble_eq_true rfl) rfl (q := 4) rfl ?_
  exact xb_X2_feltSum_b4 C hlau hret hn hρ FU (0 : Int32) (0 : Int32) _
set_option maxHeartbeats 4000000 in
set_option maxRecDepth 100000 in
theorem xb_X2_tallySum_b14 {l : Launch} {κ : Kx} {ω : Om} {ρ : Nat} (C : CX κ ω cX2_tallySum 4 1 yX2_tallySum.cls) (hlau : κ.2.1 = l) (hret : κ.2.2.2.2.2.2.2.2.1.sig.returnType = (some .int)) (hn : 56 ≤ oN ω) (hρ : ρ < 3) {K4 : Int32 → Int32 → Mem → Option (Int32 × Mem)} (hK4 : ∀ (x2 : Int32) (x1 : Int32) (J : Mem), EE κ ω 4 (Gi κ ω) (K4 x2 x1 J) J 4 [(2, .int x2), (1, .int x1), (0, .ref (oA ω (2 + 8 * ρ)))] []) : ∀ (n : Nat) (x3 : Int32) (x2 : Int32) (x1 : Int32) (I : Mem), EE κ ω 4 (Gi κ ω) (f_X2_tallySum_b14 ρ K4 n x3 x2 x1 I) I 14 [(3, .int x3), (2, .int x2), (1, .int x1), (0, .ref (oA ω (2 + 8 * ρ)))] [] := by
  intro n
  induction n with
  | zero => intro x3 x2 x1 I; exact e_none
  | succ n ih =>
    intro x3 x2 x1 I
    rw [f_X2_tallySum_b14]
    refine e_iload_n C dX2_tallySum_14 rfl 0 rfl (q := 15) rfl ?_
    refine e_aload_n C dX2_tallySum_15 rfl 3 rfl (q := 16) rfl ?_
    refine e_getf C (k := (2 + 8 * ρ)) (j := 8) (T := TX2) (N := 11) (v := .int (I (2 + 8 * ρ) 8)) dX2_tallySum_16 (ltRg hn hρ) (cOb_Rg (ρ := ρ) hρ _) rfl (by decide) in_X2 w_108 rfl (q := 19) rfl ?_
    refine e_icmpge C (tgt := 42) (q := 22) dX2_tallySum_19 rfl rfl ?_ ?_
    · refine e_iinc C (v := x2 + (1 : Int32)) (lv1 := [(2, .int (x2 + (1 : Int32))), (3, .int x3), (1, .int x1), (0, .ref (oA ω (2 + 8 * ρ)))]) dX2_tallySum_42 1 rfl (Nat.le_of_ble_eq_true rfl) (by rw [ic_1]) rfl (q := 45) rfl ?_
      refine e_goto C (tgt := 4) dX2_tallySum_45 rfl ?_
      exact e_lv [0, 2, 3] (lv1 := [(2, .int (x2 + (1 : Int32))), (1, .int x1), (0, .ref (oA ω (2 + 8 * ρ)))]) rfl (hK4 (x2 + (1 : Int32)) x1 _)
    · refine e_iload_n C dX2_tallySum_22 rfl 2 rfl (q := 23) rfl ?_
      refine e_aload_n C dX2_tallySum_23 rfl 3 rfl (q := 24) rfl ?_
      refine e_getf C (k := (2 + 8 * ρ)) (j := 7) (T := TX2) (N := 11) (v := .ref (oA ω (2 + 8 * ρ + 7))) dX2_tallySum_24 (ltRg hn hρ) (cOb_Rg (ρ := ρ) hρ _) rfl (by decide) in_X2 w_105 rfl (q := 27) rfl ?_
      refine e_iload_n C dX2_tallySum_27 rfl 1 rfl (q := 28) rfl ?_
      refine e_bipush C dX2_tallySum_28 b8_6 (q := 30) rfl ?_
      refine e_imul C dX2_tallySum_30 (q := 31) rfl ?_
      refine e_iload_n C dX2_tallySum_31 rfl 0 rfl (q := 32) rfl ?_
      refine e_iadd C dX2_tallySum_32 (q := 33) rfl ?_
      refine e_iald C (k := (2 + 8 * ρ + 7)) (n := 36) dX2_tallySum_33 (ltRgj hn hρ 7 (by decide)) ((cAr_Rg7 hρ) _) (q := 34) rfl ?_
      refine e_iadd C dX2_tallySum_34 (q := 35) rfl ?_
      refine e_nmi (fun v1 => ?_)
      refine e_istore_n C (lv1 := [(1, .int v1), (3, .int x3), (2, .int x2), (0, .ref (oA ω (2 + 8 * ρ)))]) dX2_tallySum_35 rfl (Nat.le_of_ble_eq_true rfl) rfl (q := 36) rfl ?_
      refine e_iinc C (v := x3 + (1 : Int32)) (lv1 := [(3, .int (x3 + (1 : Int32))), (1, .int v1), (2, .int x2), (0, .ref (oA ω (2 + 8 * ρ)))]) dX2_tallySum_36 1 rfl (Nat.le_of_ble_eq_true rfl) (by rw [ic_1]) rfl (q := 39) rfl ?_
      refine e_goto C (tgt := 14) dX2_tallySum_39 rfl ?_
      exact e_lv [0, 2, 1, 3] (lv1 := [(3, .int (x3 + (1 : Int32))), (2, .int x2), (1, .int v1), (0, .ref (oA ω (2 + 8 * ρ)))]) rfl (ih (x3 + (1 : Int32)) x2 v1 _)
set_option maxHeartbeats 4000000 in
set_option maxRecDepth 100000 in
theorem xb_X2_tallySum_b4 {l : Launch} {κ : Kx} {ω : Om} {ρ : Nat} (C : CX κ ω cX2_tallySum 4 1 yX2_tallySum.cls) (hlau : κ.2.1 = l) (hret : κ.2.2.2.2.2.2.2.2.1.sig.returnType = (some .int)) (hn : 56 ≤ oN ω) (hρ : ρ < 3) : ∀ (n : Nat) (x2 : Int32) (x1 : Int32) (I : Mem), EE κ ω 4 (Gi κ ω) (f_X2_tallySum_b4 ρ n x2 x1 I) I 4 [(2, .int x2), (1, .int x1), (0, .ref (oA ω (2 + 8 * ρ)))] [] := by
  intro n
  induction n with
  | zero => intro x2 x1 I; exact e_none
  | succ n ih =>
    intro x2 x1 I
    rw [f_X2_tallySum_b4]
    refine e_iload_n C dX2_tallySum_4 rfl 0 rfl (q := 5) rfl ?_
    refine e_aload_n C dX2_tallySum_5 rfl 2 rfl (q := 6) rfl ?_
    refine e_getf C (k := (2 + 8 * ρ)) (j := 8) (T := TX2) (N := 11) (v := .int (I (2 + 8 * ρ) 8)) dX2_tallySum_6 (ltRg hn hρ) (cOb_Rg (ρ := ρ) hρ _) rfl (by decide) in_X2 w_108 rfl (q := 9) rfl ?_
    refine e_icmpge C (tgt := 48) (q := 12) dX2_tallySum_9 rfl rfl ?_ ?_
    · refine e_iload_n C dX2_tallySum_48 rfl 1 rfl (q := 49) rfl ?_
      exact e_ireturn C dX2_tallySum_49 hret rfl
    · refine e_iconst C dX2_tallySum_12 ic_0 (q := 13) rfl ?_
      refine e_istore_n C (lv1 := [(3, .int (0 : Int32)), (2, .int x2), (1, .int x1), (0, .ref (oA ω (2 + 8 * ρ)))]) dX2_tallySum_13 rfl (Nat.le_of_ble_eq_true rfl) rfl (q := 14) rfl ?_
      exact xb_X2_tallySum_b14 C hlau hret hn hρ ih FU (0 : Int32) x2 x1 _
set_option maxHeartbeats 4000000 in
set_option maxRecDepth 100000 in
theorem x_X2_tallySum {l : Launch} {ω : Om} {ρ : Nat} (hn : 56 ≤ oN ω) (hρ : ρ < 3) {I : Mem} : CTi l ω yX2_tallySum cX2_tallySum 4 (some .int) 1 [.ref (oA ω (2 + 8 * ρ))] (f_X2_tallySum ρ I) I := by
  refine ct_i (by decide) (Nat.le_of_ble_eq_true rfl) ?_
  intro κ hlau hret C
  refine e_lv [0] (lv1 := [(0, .ref (oA ω (2 + 8 * ρ)))]) rfl ?_
  unfold f_X2_tallySum
  refine e_iconst C dX2_tallySum_0 ic_0 (q := 1) rfl ?_
  refine e_istore_n C (lv1 := [(1, .int (0 : Int32)), (0, .ref (oA ω (2 + 8 * ρ)))]) dX2_tallySum_1 rfl (Nat.le_of_ble_eq_true rfl) rfl (q := 2) rfl ?_
  refine e_iconst C dX2_tallySum_2 ic_0 (q := 3) rfl ?_
  refine e_istore_n C (lv1 := [(2, .int (0 : Int32)), (1, .int (0 : Int32)), (0, .ref (oA ω (2 + 8 * ρ)))]) dX2_tallySum_3 rfl (Nat.le_of_ble_eq_true rfl) rfl (q := 4) rfl ?_
  exact xb_X2_tallySum_b4 C hlau hret hn hρ FU (0 : Int32) (0 : Int32) _
set_option maxHeartbeats 4000000 in
set_option maxRecDepth 100000 in
theorem xb_X2_mostFelt_b6 {l : Launch} {κ : Kx} {ω : Om} {ρ : Nat} (C : CX κ ω cX2_mostFelt 4 1 yX2_mostFelt.cls) (hlau : κ.2.1 = l) (hret : κ.2.2.2.2.2.2.2.2.1.sig.returnType = (some .int)) (hn : 56 ≤ oN ω) (hρ : ρ < 3) : ∀ (n : Nat) (x3 : Int32) (x2 : Int32) (x1 : Int32) (I : Mem), EE κ ω 4 (Gi κ ω) (f_X2_mostFelt_b6 ρ n x3 x2 x1 I) I 6 [(3, .int x3), (2, .int x2), (1, .int x1), (0, .ref (oA ω (2 + 8 * ρ)))] [] := by
  intro n
  induction n with
  | zero => intro x3 x2 x1 I; exact e_none
  | succ n ih =>
    intro x3 x2 x1 I
    rw [f_X2_mostFelt_b6]
    refine e_iload_n C dX2_mostFelt_6 rfl 0 rfl (q := 7) rfl ?_
    refine e_aload_n C dX2_mostFelt_7 rfl 3 rfl (q := 8) rfl ?_
    refine e_getf C (k := (2 + 8 * ρ)) (j := 8) (T := TX2) (N := 11) (v := .int (I (2 + 8 * ρ) 8)) dX2_mostFelt_8 (ltRg hn hρ) (cOb_Rg (ρ := ρ) hρ _) rfl (by decide) in_X2 w_108 rfl (q := 11) rfl ?_
    refine e_icmpge C (tgt := 39) (q := 14) dX2_mostFelt_11 rfl rfl ?_ ?_
    · refine e_iload_n C dX2_mostFelt_39 rfl 2 rfl (q := 40) rfl ?_
      exact e_ireturn C dX2_mostFelt_40 hret rfl
    · refine e_aload_n C dX2_mostFelt_14 rfl 3 rfl (q := 15) rfl ?_
      refine e_getf C (k := (2 + 8 * ρ)) (j := 4) (T := TX2) (N := 11) (v := .ref (oA ω (2 + 8 * ρ + 4))) dX2_mostFelt_15 (ltRg hn hρ) (cOb_Rg (ρ := ρ) hρ _) rfl (by decide) in_X2 w_96 rfl (q := 18) rfl ?_
      refine e_iload_n C dX2_mostFelt_18 rfl 0 rfl (q := 19) rfl ?_
      refine e_iald C (k := (2 + 8 * ρ + 4)) (n := 6) dX2_mostFelt_19 (ltRgj hn hρ 4 (by decide)) ((cAr_Rg hρ 4 (by decide)) _) (q := 20) rfl ?_
      refine e_iload_n C dX2_mostFelt_20 rfl 1 rfl (q := 21) rfl ?_
      refine e_icmple C (tgt := 33) (q := 24) dX2_mostFelt_21 rfl rfl ?_ ?_
      · refine e_iinc C (v := x3 + (1 : Int32)) (lv1 := [(3, .int (x3 + (1 : Int32))), (2, .int x2), (1, .int x1), (0, .ref (oA ω (2 + 8 * ρ)))]) dX2_mostFelt_33 0 rfl (Nat.le_of_ble_eq_true rfl) (by rw [ic_1]) rfl (q := 36) rfl ?_
        refine e_goto C (tgt := 6) dX2_mostFelt_36 rfl ?_
        exact ih (x3 + (1 : Int32)) x2 x1 _
      · refine e_aload_n C dX2_mostFelt_24 rfl 3 rfl (q := 25) rfl ?_
        refine e_getf C (k := (2 + 8 * ρ)) (j := 4) (T := TX2) (N := 11) (v := .ref (oA ω (2 + 8 * ρ + 4))) dX2_mostFelt_25 (ltRg hn hρ) (cOb_Rg (ρ := ρ) hρ _) rfl (by decide) in_X2 w_96 rfl (q := 28) rfl ?_
        refine e_iload_n C dX2_mostFelt_28 rfl 0 rfl (q := 29) rfl ?_
        refine e_iald C (k := (2 + 8 * ρ + 4)) (n := 6) dX2_mostFelt_29 (ltRgj hn hρ 4 (by decide)) ((cAr_Rg hρ 4 (by decide)) _) (q := 30) rfl ?_
        refine e_nmi (fun v1 => ?_)
        refine e_istore_n C (lv1 := [(2, .int v1), (3, .int x3), (1, .int x1), (0, .ref (oA ω (2 + 8 * ρ)))]) dX2_mostFelt_30 rfl (Nat.le_of_ble_eq_true rfl) rfl (q := 31) rfl ?_
        refine e_iload_n C dX2_mostFelt_31 rfl 1 rfl (q := 32) rfl ?_
        refine e_istore_n C (lv1 := [(1, .int x3), (2, .int v1), (3, .int x3), (0, .ref (oA ω (2 + 8 * ρ)))]) dX2_mostFelt_32 rfl (Nat.le_of_ble_eq_true rfl) rfl (q := 33) rfl ?_
        refine e_iinc C (v := x3 + (1 : Int32)) (lv1 := [(3, .int (x3 + (1 : Int32))), (1, .int x3), (2, .int v1), (0, .ref (oA ω (2 + 8 * ρ)))]) dX2_mostFelt_33 2 rfl (Nat.le_of_ble_eq_true rfl) (by rw [ic_1]) rfl (q := 36) rfl ?_
        refine e_goto C (tgt := 6) dX2_mostFelt_36 rfl ?_
        exact e_lv [0, 2, 1, 3] (lv1 := [(3, .int (x3 + (1 : Int32))), (2, .int v1), (1, .int x3), (0, .ref (oA ω (2 + 8 * ρ)))]) rfl (ih (x3 + (1 : Int32)) v1 x3 _)
set_option maxHeartbeats 4000000 in
set_option maxRecDepth 100000 in
theorem x_X2_mostFelt {l : Launch} {ω : Om} {ρ : Nat} (hn : 56 ≤ oN ω) (hρ : ρ < 3) {I : Mem} : CTi l ω yX2_mostFelt cX2_mostFelt 4 (some .int) 1 [.ref (oA ω (2 + 8 * ρ))] (f_X2_mostFelt ρ I) I := by
  refine ct_i (by decide) (Nat.le_of_ble_eq_true rfl) ?_
  intro κ hlau hret C
  refine e_lv [0] (lv1 := [(0, .ref (oA ω (2 + 8 * ρ)))]) rfl ?_
  unfold f_X2_mostFelt
  refine e_iconst C dX2_mostFelt_0 ic_m1 (q := 1) rfl ?_
  refine e_istore_n C (lv1 := [(1, .int (-1 : Int32)), (0, .ref (oA ω (2 + 8 * ρ)))]) dX2_mostFelt_1 rfl (Nat.le_of_ble_eq_true rfl) rfl (q := 2) rfl ?_
  refine e_iconst C dX2_mostFelt_2 ic_0 (q := 3) rfl ?_
  refine e_istore_n C (lv1 := [(2, .int (0 : Int32)), (1, .int (-1 : Int32)), (0, .ref (oA ω (2 + 8 * ρ)))]) dX2_mostFelt_3 rfl (Nat.le_of_ble_eq_true rfl) rfl (q := 4) rfl ?_
  refine e_iconst C dX2_mostFelt_4 ic_0 (q := 5) rfl ?_
  refine e_istore_n C (lv1 := [(3, .int (0 : Int32)), (2, .int (0 : Int32)), (1, .int (-1 : Int32)), (0, .ref (oA ω (2 + 8 * ρ)))]) dX2_mostFelt_5 rfl (Nat.le_of_ble_eq_true rfl) rfl (q := 6) rfl ?_
  exact xb_X2_mostFelt_b6 C hlau hret hn hρ FU (0 : Int32) (0 : Int32) (-1 : Int32) _
set_option maxHeartbeats 4000000 in
set_option maxRecDepth 100000 in
theorem x_X2_far {l : Launch} {ω : Om} {ρ : Nat} {a1 : Int32} {a2 : Int32} (hn : 56 ≤ oN ω) (hρ : ρ < 3) {I : Mem} : CTi l ω yX2_far cX2_far 3 (some .int) 1 [.ref (oA ω (2 + 8 * ρ)), .int a1, .int a2] (f_X2_far ρ a1 a2 I) I := by
  refine ct_i (by decide) (Nat.le_of_ble_eq_true rfl) ?_
  intro κ hlau hret C
  refine e_lv [0, 1, 2] (lv1 := [(0, .ref (oA ω (2 + 8 * ρ))), (1, .int a1), (2, .int a2)]) rfl ?_
  unfold f_X2_far
  refine e_aload_n C dX2_far_0 rfl 0 rfl (q := 1) rfl ?_
  refine e_getf C (k := (2 + 8 * ρ)) (j := 3) (T := TX2) (N := 11) (v := .ref (oA ω (2 + 8 * ρ + 3))) dX2_far_1 (ltRg hn hρ) (cOb_Rg (ρ := ρ) hρ _) rfl (by decide) in_X2 w_94 rfl (q := 4) rfl ?_
  refine e_iload_n C dX2_far_4 rfl 1 rfl (q := 5) rfl ?_
  refine e_iald C (k := (2 + 8 * ρ + 3)) (n := 6) dX2_far_5 (ltRgj hn hρ 3 (by decide)) ((cAr_Rg hρ 3 (by decide)) _) (q := 6) rfl ?_
  refine e_bipush C dX2_far_6 b8_8 (q := 8) rfl ?_
  refine e_irem C dX2_far_8 (by decide) (q := 9) rfl ?_
  refine e_aload_n C dX2_far_9 rfl 0 rfl (q := 10) rfl ?_
  refine e_getf C (k := (2 + 8 * ρ)) (j := 3) (T := TX2) (N := 11) (v := .ref (oA ω (2 + 8 * ρ + 3))) dX2_far_10 (ltRg hn hρ) (cOb_Rg (ρ := ρ) hρ _) rfl (by decide) in_X2 w_94 rfl (q := 13) rfl ?_
  refine e_iload_n C dX2_far_13 rfl 2 rfl (q := 14) rfl ?_
  refine e_iald C (k := (2 + 8 * ρ + 3)) (n := 6) dX2_far_14 (ltRgj hn hρ 3 (by decide)) ((cAr_Rg hρ 3 (by decide)) _) (q := 15) rfl ?_
  refine e_bipush C dX2_far_15 b8_8 (q := 17) rfl ?_
  refine e_irem C dX2_far_17 (by decide) (q := 18) rfl ?_
  refine e_isub C dX2_far_18 (q := 19) rfl ?_
  refine e_mabs C dX2_far_19 w_464 w_465 w_65 w_466 (Nat.le_of_ble_eq_true rfl) (Nat.le_of_ble_eq_true rfl) (q := 22) rfl ?_
  refine e_aload_n C dX2_far_22 rfl 0 rfl (q := 23) rfl ?_
  refine e_getf C (k := (2 + 8 * ρ)) (j := 3) (T := TX2) (N := 11) (v := .ref (oA ω (2 + 8 * ρ + 3))) dX2_far_23 (ltRg hn hρ) (cOb_Rg (ρ := ρ) hρ _) rfl (by decide) in_X2 w_94 rfl (q := 26) rfl ?_
  refine e_iload_n C dX2_far_26 rfl 1 rfl (q := 27) rfl ?_
  refine e_iald C (k := (2 + 8 * ρ + 3)) (n := 6) dX2_far_27 (ltRgj hn hρ 3 (by decide)) ((cAr_Rg hρ 3 (by decide)) _) (q := 28) rfl ?_
  refine e_bipush C dX2_far_28 b8_8 (q := 30) rfl ?_
  refine e_idiv C dX2_far_30 (by decide) (q := 31) rfl ?_
  refine e_aload_n C dX2_far_31 rfl 0 rfl (q := 32) rfl ?_
  refine e_getf C (k := (2 + 8 * ρ)) (j := 3) (T := TX2) (N := 11) (v := .ref (oA ω (2 + 8 * ρ + 3))) dX2_far_32 (ltRg hn hρ) (cOb_Rg (ρ := ρ) hρ _) rfl (by decide) in_X2 w_94 rfl (q := 35) rfl ?_
  refine e_iload_n C dX2_far_35 rfl 2 rfl (q := 36) rfl ?_
  refine e_iald C (k := (2 + 8 * ρ + 3)) (n := 6) dX2_far_36 (ltRgj hn hρ 3 (by decide)) ((cAr_Rg hρ 3 (by decide)) _) (q := 37) rfl ?_
  refine e_bipush C dX2_far_37 b8_8 (q := 39) rfl ?_
  refine e_idiv C dX2_far_39 (by decide) (q := 40) rfl ?_
  refine e_isub C dX2_far_40 (q := 41) rfl ?_
  refine e_mabs C dX2_far_41 w_464 w_465 w_65 w_466 (Nat.le_of_ble_eq_true rfl) (Nat.le_of_ble_eq_true rfl) (q := 44) rfl ?_
  refine e_iadd C dX2_far_44 (q := 45) rfl ?_
  exact e_ireturn C dX2_far_45 hret rfl
set_option maxHeartbeats 4000000 in
set_option maxRecDepth 100000 in
theorem xb_X2_nearest_b8 {l : Launch} {κ : Kx} {ω : Om} {ρ : Nat} {a1 : Int32} (C : CX κ ω cX2_nearest 5 2 yX2_nearest.cls) (hlau : κ.2.1 = l) (hret : κ.2.2.2.2.2.2.2.2.1.sig.returnType = (some .int)) (hn : 56 ≤ oN ω) (hρ : ρ < 3) : ∀ (n : Nat) (x4 : Int32) (x3 : Int32) (x2 : Int32) (I : Mem), EE κ ω 5 (Gi κ ω) (f_X2_nearest_b8 ρ a1 n x4 x3 x2 I) I 8 [(4, .int x4), (3, .int x3), (2, .int x2), (0, .ref (oA ω (2 + 8 * ρ))), (1, .int a1)] [] := by
  intro n
  induction n with
  | zero => intro x4 x3 x2 I; exact e_none
  | succ n ih =>
    intro x4 x3 x2 I
    rw [f_X2_nearest_b8]
    refine e_iload C dX2_nearest_8 0 rfl (q := 10) rfl ?_
    refine e_aload_n C dX2_nearest_10 rfl 3 rfl (q := 11) rfl ?_
    refine e_getf C (k := (2 + 8 * ρ)) (j := 8) (T := TX2) (N := 11) (v := .int (I (2 + 8 * ρ) 8)) dX2_nearest_11 (ltRg hn hρ) (cOb_Rg (ρ := ρ) hρ _) rfl (by decide) in_X2 w_108 rfl (q := 14) rfl ?_
    refine e_icmpge C (tgt := 61) (q := 17) dX2_nearest_14 rfl rfl ?_ ?_
    · refine e_iload_n C dX2_nearest_61 rfl 2 rfl (q := 62) rfl ?_
      exact e_ireturn C dX2_nearest_62 hret rfl
    · refine e_iload C dX2_nearest_17 0 rfl (q := 19) rfl ?_
      refine e_iload_n C dX2_nearest_19 rfl 4 rfl (q := 20) rfl ?_
      refine e_icmpeq C (tgt := 55) (q := 23) dX2_nearest_20 rfl rfl ?_ ?_
      · refine e_iinc C (v := x4 + (1 : Int32)) (lv1 := [(4, .int (x4 + (1 : Int32))), (3, .int x3), (2, .int x2), (0, .ref (oA ω (2 + 8 * ρ))), (1, .int a1)]) dX2_nearest_55 0 rfl (Nat.le_of_ble_eq_true rfl) (by rw [ic_1]) rfl (q := 58) rfl ?_
        refine e_goto C (tgt := 8) dX2_nearest_58 rfl ?_
        exact ih (x4 + (1 : Int32)) x3 x2 _
      · refine e_aload_n C dX2_nearest_23 rfl 3 rfl (q := 24) rfl ?_
        refine e_getf C (k := (2 + 8 * ρ)) (j := 4) (T := TX2) (N := 11) (v := .ref (oA ω (2 + 8 * ρ + 4))) dX2_nearest_24 (ltRg hn hρ) (cOb_Rg (ρ := ρ) hρ _) rfl (by decide) in_X2 w_96 rfl (q := 27) rfl ?_
        refine e_iload C dX2_nearest_27 0 rfl (q := 29) rfl ?_
        refine e_iald C (k := (2 + 8 * ρ + 4)) (n := 6) dX2_nearest_29 (ltRgj hn hρ 4 (by decide)) ((cAr_Rg hρ 4 (by decide)) _) (q := 30) rfl ?_
        refine e_ifle C (tgt := 55) (q := 33) dX2_nearest_30 rfl rfl ?_ ?_
        · refine e_iinc C (v := x4 + (1 : Int32)) (lv1 := [(4, .int (x4 + (1 : Int32))), (3, .int x3), (2, .int x2), (0, .ref (oA ω (2 + 8 * ρ))), (1, .int a1)]) dX2_nearest_55 0 rfl (Nat.le_of_ble_eq_true rfl) (by rw [ic_1]) rfl (q := 58) rfl ?_
          refine e_goto C (tgt := 8) dX2_nearest_58 rfl ?_
          exact ih (x4 + (1 : Int32)) x3 x2 _
        · refine e_aload_n C dX2_nearest_33 rfl 3 rfl (q := 34) rfl ?_
          refine e_iload_n C dX2_nearest_34 rfl 4 rfl (q := 35) rfl ?_
          refine e_iload C dX2_nearest_35 0 rfl (q := 37) rfl ?_
          refine e_callVi C (l := l) (k := (2 + 8 * ρ)) (av := [.int a1, .int x4]) (st := []) hlau (x_X2_far (l := l) (ω := ω) (ρ := ρ) (a1 := a1) (a2 := x4) hn hρ (I := I)) dX2_nearest_37 w_460 w_461 w_462 w_57 w_463 md_X2_far (by decide) (by decide) rfl (ltRg hn hρ) (cOb_Rg (ρ := ρ) hρ _) rfl (Nat.le_of_ble_eq_true rfl) (q := 40) rfl (fun v2 J1 => ?_)
          refine e_iload_n C dX2_nearest_40 rfl 1 rfl (q := 41) rfl ?_
          refine e_icmpge C (tgt := 55) (q := 44) dX2_nearest_41 rfl rfl ?_ ?_
          · refine e_iinc C (v := x4 + (1 : Int32)) (lv1 := [(4, .int (x4 + (1 : Int32))), (3, .int x3), (2, .int x2), (0, .ref (oA ω (2 + 8 * ρ))), (1, .int a1)]) dX2_nearest_55 0 rfl (Nat.le_of_ble_eq_true rfl) (by rw [ic_1]) rfl (q := 58) rfl ?_
            refine e_goto C (tgt := 8) dX2_nearest_58 rfl ?_
            exact ih (x4 + (1 : Int32)) x3 x2 _
          · refine e_aload_n C dX2_nearest_44 rfl 3 rfl (q := 45) rfl ?_
            refine e_iload_n C dX2_nearest_45 rfl 4 rfl (q := 46) rfl ?_
            refine e_iload C dX2_nearest_46 0 rfl (q := 48) rfl ?_
            refine e_callVi C (l := l) (k := (2 + 8 * ρ)) (av := [.int a1, .int x4]) (st := []) hlau (x_X2_far (l := l) (ω := ω) (ρ := ρ) (a1 := a1) (a2 := x4) hn hρ (I := J1)) dX2_nearest_48 w_460 w_461 w_462 w_57 w_463 md_X2_far (by decide) (by decide) rfl (ltRg hn hρ) (cOb_Rg (ρ := ρ) hρ _) rfl (Nat.le_of_ble_eq_true rfl) (q := 51) rfl (fun v4 J3 => ?_)
            refine e_istore_n C (lv1 := [(3, .int v4), (4, .int x4), (2, .int x2), (0, .ref (oA ω (2 + 8 * ρ))), (1, .int a1)]) dX2_nearest_51 rfl (Nat.le_of_ble_eq_true rfl) rfl (q := 52) rfl ?_
            refine e_iload C dX2_nearest_52 1 rfl (q := 54) rfl ?_
            refine e_istore_n C (lv1 := [(2, .int x4), (3, .int v4), (4, .int x4), (0, .ref (oA ω (2 + 8 * ρ))), (1, .int a1)]) dX2_nearest_54 rfl (Nat.le_of_ble_eq_true rfl) rfl (q := 55) rfl ?_
            refine e_iinc C (v := x4 + (1 : Int32)) (lv1 := [(4, .int (x4 + (1 : Int32))), (2, .int x4), (3, .int v4), (0, .ref (oA ω (2 + 8 * ρ))), (1, .int a1)]) dX2_nearest_55 2 rfl (Nat.le_of_ble_eq_true rfl) (by rw [ic_1]) rfl (q := 58) rfl ?_
            refine e_goto C (tgt := 8) dX2_nearest_58 rfl ?_
            exact e_lv [0, 2, 1, 3, 4] (lv1 := [(4, .int (x4 + (1 : Int32))), (3, .int v4), (2, .int x4), (0, .ref (oA ω (2 + 8 * ρ))), (1, .int a1)]) rfl (ih (x4 + (1 : Int32)) v4 x4 _)
set_option maxHeartbeats 4000000 in
set_option maxRecDepth 100000 in
theorem x_X2_nearest {l : Launch} {ω : Om} {ρ : Nat} {a1 : Int32} (hn : 56 ≤ oN ω) (hρ : ρ < 3) {I : Mem} : CTi l ω yX2_nearest cX2_nearest 5 (some .int) 2 [.ref (oA ω (2 + 8 * ρ)), .int a1] (f_X2_nearest ρ a1 I) I := by
  refine ct_i (by decide) (Nat.le_of_ble_eq_true rfl) ?_
  intro κ hlau hret C
  refine e_lv [0, 1] (lv1 := [(0, .ref (oA ω (2 + 8 * ρ))), (1, .int a1)]) rfl ?_
  unfold f_X2_nearest
  refine e_iconst C dX2_nearest_0 ic_m1 (q := 1) rfl ?_
  refine e_istore_n C (lv1 := [(2, .int (-1 : Int32)), (0, .ref (oA ω (2 + 8 * ρ))), (1, .int a1)]) dX2_nearest_1 rfl (Nat.le_of_ble_eq_true rfl) rfl (q := 2) rfl ?_
  refine e_bipush C dX2_nearest_2 b8_64 (q := 4) rfl ?_
  refine e_istore_n C (lv1 := [(3, .int (64 : Int32)), (2, .int (-1 : Int32)), (0, .ref (oA ω (2 + 8 * ρ))), (1, .int a1)]) dX2_nearest_4 rfl (Nat.le_of_ble_eq_true rfl) rfl (q := 5) rfl ?_
  refine e_iconst C dX2_nearest_5 ic_0 (q := 6) rfl ?_
  refine e_istore C (lv1 := [(4, .int (0 : Int32)), (3, .int (64 : Int32)), (2, .int (-1 : Int32)), (0, .ref (oA ω (2 + 8 * ρ))), (1, .int a1)]) dX2_nearest_6 (Nat.le_of_ble_eq_true rfl) rfl (q := 8) rfl ?_
  exact xb_X2_nearest_b8 C hlau hret hn hρ FU (0 : Int32) (64 : Int32) (-1 : Int32) _
