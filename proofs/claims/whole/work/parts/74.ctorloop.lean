/-! THE CONSTRUCTORS, their last loops: functions and walks (written by program) -/
theorem w_205 : Cond.methodLink yX6_init.cls 53 yJ0_length_8abf5 ∈ TT := TT_in (i := 205) (by decide +kernel) (by decide +kernel)
theorem w_215 : Cond.methodLink yX6_init.cls 59 yJ0_charAt_5068e ∈ TT := TT_in (i := 215) (by decide +kernel) (by decide +kernel)
theorem w_715 : Cond.methodLink yX7_init.cls 68 yX7_text ∈ TT := TT_in (i := 715) (by decide +kernel) (by decide +kernel)
theorem w_780 : Cond.fieldLink yX7_init.cls 46 (TX7 18).1 (TX7 18).2.1 (TX7 18).2.2.1 ∈ TT := TT_in (i := 780) (by decide +kernel) (by decide +kernel)
theorem b8_26 : (Int8.ofInt (26)).toInt32 = (26 : Int32) := by decide
def f_X6_init_b182   (I : Mem) : Option (Unit × Mem) := bnd (f_J0_length_8abf5 0 I) fun v4 J3 => if inb (0 : Int32) 6 = true then (bnd (f_X1_read v4 ((0 : Int32).toNatClampNeg) J3) fun v7 J6 => lt1 (wr J6 0 7 (1 : Int32)) fun J8 => some ((), J8)) else none
def f_X6_init_b148  : Nat → Int32 → Mem → Option (Unit × Mem)
  | 0, _, _ => none
  | n + 1, x2, I => bnd (f_J0_length_8abf5 0 I) fun v2 J1 => if v2 ≤ x2 then (f_X6_init_b182 J1) else if (160 : Int32) ≤ x2 then (f_X6_init_b182 J1) else bnd (f_J0_charAt_5068e 0 x2 J1) fun v10 J9 => if inb x2 160 = true then (lt1 (wr J9 27 (x2).toNatClampNeg v10) fun J11 => (f_X6_init_b148 n) (x2 + (1 : Int32)) J11) else none
set_option maxHeartbeats 4000000 in
set_option maxRecDepth 100000 in
theorem xb_X6_init_b182 {l : Launch} {κ : Kx} {ω : Om}  (C : CX κ ω cX6_init 3 72 yX6_init.cls) (hlau : κ.2.1 = l) (hret : κ.2.2.2.2.2.2.2.2.1.sig.returnType = none) (hn : 56 ≤ oN ω)  : ∀  (I : Mem), EE κ ω 3 (Gv κ ω) (f_X6_init_b182  I) I 182 [(0, .ref (oA ω 0))] [] := by
  intro  I
  unfold f_X6_init_b182
  refine e_aload_n C dX6_init_182 rfl 0 rfl (q := 183) rfl ?_
  refine e_getf C (k := 0) (j := 4) (T := TX6) (N := 10) (v := .ref (oA ω 26)) dX6_init_183 (ltL hn (Nat.le_of_ble_eq_true rfl)) rfl rfl (by decide) in_X6 w_350 rfl (q := 186) rfl ?_
  refine e_aload_n C dX6_init_186 rfl 0 rfl (q := 187) rfl ?_
  refine e_getf C (k := 0) (j := 5) (T := TX6) (N := 10) (v := .ref (oA ω 27)) dX6_init_187 (ltL hn (Nat.le_of_ble_eq_true rfl)) rfl rfl (by decide) in_X6 w_351 rfl (q := 190) rfl ?_
  refine e_ldcS C (i := 0) (by decide) rfl rfl dX6_init_190 (q := 192) rfl ?_
  refine e_callWi C (l := l) (j := 0) (av := []) (st := [.ref (oA ω 27), .ref (oA ω 26)]) hlau (x_J0_length_8abf5 (l := l) (ω := ω) (i := 0) hn (by decide) (I := I)) dX6_init_192 w_205 w_206 w_207 w_61 w_208 md_J0_length_8abf5 (by decide) (by decide) rfl (by decide) rfl (Nat.le_of_ble_eq_true rfl) (q := 195) rfl (fun v4 J3 => ?_)
  refine e_aload_n C dX6_init_195 rfl 0 rfl (q := 196) rfl ?_
  refine e_getf C (k := 0) (j := 0) (T := TX6) (N := 10) (v := .ref (oA ω 1)) dX6_init_196 (ltL hn (Nat.le_of_ble_eq_true rfl)) rfl rfl (by decide) in_X6 w_346 rfl (q := 199) rfl ?_
  refine e_iconst C dX6_init_199 ic_0 (q := 200) rfl ?_
  refine e_aldT1 C hn dX6_init_200 (q := 201) rfl (fun h5 => ?_)
  refine e_callVi C (l := l) (k := 26) (av := [.ref (oA ω 27), .int v4, .ref (oA ω (30 + 3 * (0 : Int32).toNatClampNeg))]) (st := []) hlau (x_X1_read (l := l) (ω := ω) (a2 := v4) (t3 := (0 : Int32).toNatClampNeg) hn h5 (I := J3)) dX6_init_201 w_253 w_254 w_255 w_58 w_256 md_X1_read (by decide) (by decide) rfl (ltL hn (Nat.le_of_ble_eq_true rfl)) rfl rfl (Nat.le_of_ble_eq_true rfl) (q := 204) rfl (fun v7 J6 => ?_)
  refine e_pop C dX6_init_204 rfl (q := 205) rfl ?_
  refine e_aload_n C dX6_init_205 rfl 0 rfl (q := 206) rfl ?_
  refine e_iconst C dX6_init_206 ic_1 (q := 207) rfl ?_
  refine e_putf C (k := 0) (j := 7) (T := TX6) (N := 10) dX6_init_207 (ltL hn (Nat.le_of_ble_eq_true rfl)) rfl rfl (by decide) in_X6 w_353 tyX6_ok nmX6 rfl rfl rfl (show 7 < 10 by decide) (set_Ha_7_ _) (q := 210) rfl ?_
  refine e_nmM (fun J8 => ?_)
  exact e_vreturn C dX6_init_210 hret
set_option maxHeartbeats 4000000 in
set_option maxRecDepth 100000 in
theorem xb_X6_init_b148 {l : Launch} {κ : Kx} {ω : Om}  (C : CX κ ω cX6_init 3 72 yX6_init.cls) (hlau : κ.2.1 = l) (hret : κ.2.2.2.2.2.2.2.2.1.sig.returnType = none) (hn : 56 ≤ oN ω)  : ∀ (n : Nat) (x2 : Int32) (I : Mem), EE κ ω 3 (Gv κ ω) (f_X6_init_b148 n x2 I) I 148 [(0, .ref (oA ω 0)), (2, .int x2)] [] := by
  intro n
  induction n with
  | zero => intro x2 I; exact e_none
  | succ n ih =>
    intro x2 I
    rw [f_X6_init_b148]
    refine e_iload_n C dX6_init_148 rfl 1 rfl (q := 149) rfl ?_
    refine e_ldcS C (i := 0) (by decide) rfl rfl dX6_init_149 (q := 151) rfl ?_
    refine e_callWi C (l := l) (j := 0) (av := []) (st := [.int x2]) hlau (x_J0_length_8abf5 (l := l) (ω := ω) (i := 0) hn (by decide) (I := I)) dX6_init_151 w_205 w_206 w_207 w_61 w_208 md_J0_length_8abf5 (by decide) (by decide) rfl (by decide) rfl (Nat.le_of_ble_eq_true rfl) (q := 154) rfl (fun v2 J1 => ?_)
    refine e_icmpge C (tgt := 182) (q := 157) dX6_init_154 rfl rfl ?_ ?_
    · exact e_lv [0] (lv1 := [(0, .ref (oA ω 0))]) rfl (xb_X6_init_b182 C hlau hret hn _)
    · refine e_iload_n C dX6_init_157 rfl 1 rfl (q := 158) rfl ?_
      refine e_sipush C dX6_init_158 b16_160 (q := 161) rfl ?_
      refine e_icmpge C (tgt := 182) (q := 164) dX6_init_161 rfl rfl ?_ ?_
      · exact e_lv [0] (lv1 := [(0, .ref (oA ω 0))]) rfl (xb_X6_init_b182 C hlau hret hn _)
      · refine e_aload_n C dX6_init_164 rfl 0 rfl (q := 165) rfl ?_
        refine e_getf C (k := 0) (j := 5) (T := TX6) (N := 10) (v := .ref (oA ω 27)) dX6_init_165 (ltL hn (Nat.le_of_ble_eq_true rfl)) rfl rfl (by decide) in_X6 w_351 rfl (q := 168) rfl ?_
        refine e_iload_n C dX6_init_168 rfl 1 rfl (q := 169) rfl ?_
        refine e_ldcS C (i := 0) (by decide) rfl rfl dX6_init_169 (q := 171) rfl ?_
        refine e_iload_n C dX6_init_171 rfl 1 rfl (q := 172) rfl ?_
        refine e_callWi C (l := l) (j := 0) (av := [.int x2]) (st := [.int x2, .ref (oA ω 27)]) hlau (x_J0_charAt_5068e (l := l) (ω := ω) (i := 0) (a1 := x2) hn (by decide) (I := J1)) dX6_init_172 w_215 w_216 w_217 w_61 w_218 md_J0_charAt_5068e (by decide) (by decide) rfl (by decide) rfl (Nat.le_of_ble_eq_true rfl) (q := 175) rfl (fun v10 J9 => ?_)
        refine e_iast C (k := 27) (n := 160) dX6_init_175 (ltL hn (Nat.le_of_ble_eq_true rfl)) (fun _ => rfl) (q := 176) rfl ?_
        refine e_nmM (fun J11 => ?_)
        refine e_iinc C (v := x2 + (1 : Int32)) (lv1 := [(2, .int (x2 + (1 : Int32))), (0, .ref (oA ω 0))]) dX6_init_176 1 rfl (Nat.le_of_ble_eq_true rfl) (by rw [ic_1]) rfl (q := 179) rfl ?_
        refine e_goto C (tgt := 148) dX6_init_179 rfl ?_
        exact e_lv [1, 0] (lv1 := [(0, .ref (oA ω 0)), (2, .int (x2 + (1 : Int32)))]) rfl (ih (x2 + (1 : Int32)) _)
def f_X7_init_b888  : Nat → Int32 → Mem → Option (Unit × Mem)
  | 0, _, _ => none
  | n + 1, x1, I => if (26 : Int32) ≤ x1 then (lt1 (wr I 56 7 (26 : Int32)) fun J1 => bnd (f_X7_text J1) fun v3 J2 => some ((), J2)) else if inb x1 26 = true then (if inb x1 160 = true then (lt1 (wr I 61 (x1).toNatClampNeg (I 69 (x1).toNatClampNeg)) fun J4 => (f_X7_init_b888 n) (x1 + (1 : Int32)) J4) else none) else none
set_option maxHeartbeats 4000000 in
set_option maxRecDepth 100000 in
theorem xb_X7_init_b888 {l : Launch} {κ : Kx} {ω : Om}  (C : CX κ ω cX7_init 2 6 yX7_init.cls) (hlau : κ.2.1 = l) (hret : κ.2.2.2.2.2.2.2.2.1.sig.returnType = none) (hn : 75 ≤ oN ω)  : ∀ (n : Nat) (x1 : Int32) (I : Mem), EE κ ω 2 (Gv κ ω) (f_X7_init_b888 n x1 I) I 888 [(0, .ref (oA ω 56)), (1, .int x1)] [] := by
  intro n
  induction n with
  | zero => intro x1 I; exact e_none
  | succ n ih =>
    intro x1 I
    rw [f_X7_init_b888]
    refine e_iload_n C dX7_init_888 rfl 1 rfl (q := 889) rfl ?_
    refine e_bipush C dX7_init_889 b8_26 (q := 891) rfl ?_
    refine e_icmpge C (tgt := 912) (q := 894) dX7_init_891 rfl rfl ?_ ?_
    · refine e_aload_n C dX7_init_912 rfl 0 rfl (q := 913) rfl ?_
      refine e_bipush C dX7_init_913 b8_26 (q := 915) rfl ?_
      refine e_putf C (k := 56) (j := 7) (T := TX7) (N := 32) dX7_init_915 (ltL hn (Nat.le_of_ble_eq_true rfl)) rfl rfl (by decide) in_X7 w_769 tyX7_ok nmX7 rfl rfl rfl (show 7 < 32 by decide) (set_Mo_7_ _) (q := 918) rfl ?_
      refine e_nmM (fun J1 => ?_)
      refine e_aload_n C dX7_init_918 rfl 0 rfl (q := 919) rfl ?_
      refine e_callVi C (l := l) (k := 56) (av := []) (st := []) hlau (x_X7_text (l := l) (ω := ω) hn (I := J1)) dX7_init_919 w_715 w_716 w_717 w_67 w_718 md_X7_text (by decide) (by decide) rfl (ltL hn (Nat.le_of_ble_eq_true rfl)) rfl rfl (Nat.le_of_ble_eq_true rfl) (q := 922) rfl (fun v3 J2 => ?_)
      refine e_pop C dX7_init_922 rfl (q := 923) rfl ?_
      exact e_vreturn C dX7_init_923 hret
    · refine e_aload_n C dX7_init_894 rfl 0 rfl (q := 895) rfl ?_
      refine e_getf C (k := 56) (j := 6) (T := TX7) (N := 32) (v := .ref (oA ω 61)) dX7_init_895 (ltL hn (Nat.le_of_ble_eq_true rfl)) rfl rfl (by decide) in_X7 w_768 rfl (q := 898) rfl ?_
      refine e_iload_n C dX7_init_898 rfl 1 rfl (q := 899) rfl ?_
      refine e_aload_n C dX7_init_899 rfl 0 rfl (q := 900) rfl ?_
      refine e_getf C (k := 56) (j := 18) (T := TX7) (N := 32) (v := .ref (oA ω 69)) dX7_init_900 (ltL hn (Nat.le_of_ble_eq_true rfl)) rfl rfl (by decide) in_X7 w_780 rfl (q := 903) rfl ?_
      refine e_iload_n C dX7_init_903 rfl 1 rfl (q := 904) rfl ?_
      refine e_iald C (k := 69) (n := 26) dX7_init_904 (ltL hn (Nat.le_of_ble_eq_true rfl)) rfl (q := 905) rfl ?_
      refine e_iast C (k := 61) (n := 160) dX7_init_905 (ltL hn (Nat.le_of_ble_eq_true rfl)) (fun _ => rfl) (q := 906) rfl ?_
      refine e_nmM (fun J4 => ?_)
      refine e_iinc C (v := x1 + (1 : Int32)) (lv1 := [(1, .int (x1 + (1 : Int32))), (0, .ref (oA ω 56))]) dX7_init_906 1 rfl (Nat.le_of_ble_eq_true rfl) (by rw [ic_1]) rfl (q := 909) rfl ?_
      refine e_goto C (tgt := 888) dX7_init_909 rfl ?_
      exact e_lv [1, 0] (lv1 := [(0, .ref (oA ω 56)), (1, .int (x1 + (1 : Int32)))]) rfl (ih (x1 + (1 : Int32)) _)
