/-! The JDK's String.length and charAt, over the texts of the launch -/
section StrW
theorem zs_209 : Cond.methodLink "java/lang/String" 335 yJ0_coder_7d493 ∈ TT := TT_in (i := 209) (by decide +kernel) (by decide +kernel)
theorem zs_210 : Cond.instanceMethod yJ0_coder_7d493 ∈ TT := TT_in (i := 210) (by decide +kernel) (by decide +kernel)
theorem zs_211 : Cond.selects yJ0_coder_7d493.cls yJ0_coder_7d493 yJ0_coder_7d493 ∈ TT := TT_in (i := 211) (by decide +kernel) (by decide +kernel)
theorem zs_212 : Cond.code yJ0_coder_7d493 cJ0_coder_7d493 1 (some .byte) ∈ TT := TT_in (i := 212) (by decide +kernel) (by decide +kernel)
theorem zs_213 : Cond.fieldLink "java/lang/String" 38 "java/lang/String" "COMPACT_STRINGS" "Z" ∈ TT := TT_in (i := 213) (by decide +kernel) (by decide +kernel)
theorem zs_219 : Cond.methodLink "java/lang/String" 492 yJ0_isLatin1_aae02 ∈ TT := TT_in (i := 219) (by decide +kernel) (by decide +kernel)
theorem zs_220 : Cond.instanceMethod yJ0_isLatin1_aae02 ∈ TT := TT_in (i := 220) (by decide +kernel) (by decide +kernel)
theorem zs_221 : Cond.selects yJ0_isLatin1_aae02.cls yJ0_isLatin1_aae02 yJ0_isLatin1_aae02 ∈ TT := TT_in (i := 221) (by decide +kernel) (by decide +kernel)
theorem zs_222 : Cond.code yJ0_isLatin1_aae02 cJ0_isLatin1_aae02 1 (some .boolean) ∈ TT := TT_in (i := 222) (by decide +kernel) (by decide +kernel)
theorem zs_223 : Cond.methodLink "java/lang/String" 495 yJ1_charAt_3b067 ∈ TT := TT_in (i := 223) (by decide +kernel) (by decide +kernel)
theorem zs_224 : Cond.static yJ1_charAt_3b067 ∈ TT := TT_in (i := 224) (by decide +kernel) (by decide +kernel)
theorem zs_225 : Cond.code yJ1_charAt_3b067 cJ1_charAt_3b067 2 (some .char) ∈ TT := TT_in (i := 225) (by decide +kernel) (by decide +kernel)
theorem zs_226 : Cond.methodLink "java/lang/StringLatin1" 9 yJ0_checkIndex_df160 ∈ TT := TT_in (i := 226) (by decide +kernel) (by decide +kernel)
theorem zs_227 : Cond.static yJ0_checkIndex_df160 ∈ TT := TT_in (i := 227) (by decide +kernel) (by decide +kernel)
theorem zs_228 : Cond.code yJ0_checkIndex_df160 cJ0_checkIndex_df160 2 none ∈ TT := TT_in (i := 228) (by decide +kernel) (by decide +kernel)
theorem zs_229 : Cond.fieldLink "java/lang/String" 1053 "jdk/internal/util/Preconditions" "SIOOBE_FORMATTER" "Ljava/util/function/BiFunction;" ∈ TT := TT_in (i := 229) (by decide +kernel) (by decide +kernel)
theorem zs_231 : Cond.methodLink "java/lang/String" 1059 yJ3_checkIndex_8e157 ∈ TT := TT_in (i := 231) (by decide +kernel) (by decide +kernel)
theorem zs_232 : Cond.static yJ3_checkIndex_8e157 ∈ TT := TT_in (i := 232) (by decide +kernel) (by decide +kernel)
theorem zs_233 : Cond.code yJ3_checkIndex_8e157 cJ3_checkIndex_8e157 3 (some .int) ∈ TT := TT_in (i := 233) (by decide +kernel) (by decide +kernel)
theorem zs_61 : Cond.initialized "java/lang/String" ∈ TT := TT_in (i := 61) (by decide +kernel) (by decide +kernel)
theorem zs_62 : Cond.initialized "java/lang/StringLatin1" ∈ TT := TT_in (i := 62) (by decide +kernel) (by decide +kernel)
theorem zs_63 : Cond.initialized "jdk/internal/util/Preconditions" ∈ TT := TT_in (i := 63) (by decide +kernel) (by decide +kernel)
theorem zs_1120 : Cond.fieldLink "java/lang/String" 9 "java/lang/String" "value" "[B" ∈ TT := TT_in (i := 1120) (by decide +kernel) (by decide +kernel)
theorem zs_1121 : Cond.fieldLink "java/lang/String" 15 "java/lang/String" "coder" "B" ∈ TT := TT_in (i := 1121) (by decide +kernel) (by decide +kernel)
theorem zd_coder : yJ0_coder_7d493.cls ≠ "java/lang/invoke/MethodHandle" ∧ yJ0_coder_7d493.cls ≠ "java/lang/invoke/VarHandle" ∧ (parseMethodDescriptor yJ0_coder_7d493.desc).map (fun d => d.parameters.length) = some 0 := by decide +kernel
theorem zd_isLatin1 : yJ0_isLatin1_aae02.cls ≠ "java/lang/invoke/MethodHandle" ∧ yJ0_isLatin1_aae02.cls ≠ "java/lang/invoke/VarHandle" ∧ (parseMethodDescriptor yJ0_isLatin1_aae02.desc).map (fun d => d.parameters.length) = some 0 := by decide +kernel
theorem zd_charAt1 : yJ1_charAt_3b067.cls ≠ "java/lang/invoke/MethodHandle" ∧ yJ1_charAt_3b067.cls ≠ "java/lang/invoke/VarHandle" ∧ (parseMethodDescriptor yJ1_charAt_3b067.desc).map (fun d => d.parameters.length) = some 2 := by decide +kernel
theorem zd_check0 : yJ0_checkIndex_df160.cls ≠ "java/lang/invoke/MethodHandle" ∧ yJ0_checkIndex_df160.cls ≠ "java/lang/invoke/VarHandle" ∧ (parseMethodDescriptor yJ0_checkIndex_df160.desc).map (fun d => d.parameters.length) = some 2 := by decide +kernel
theorem zd_check3 : yJ3_checkIndex_8e157.cls ≠ "java/lang/invoke/MethodHandle" ∧ yJ3_checkIndex_8e157.cls ≠ "java/lang/invoke/VarHandle" ∧ (parseMethodDescriptor yJ3_checkIndex_8e157.desc).map (fun d => d.parameters.length) = some 3 := by decide +kernel
end StrW
section StrRows
variable {κ : Kx} {ω : Om} {cc : ByteArray} {nL d : Nat} {own : String} {α : Type} {G : α × Mem → State → Prop} {X A B : Option (α × Mem)} {I : Mem} {pc q : Nat} {lv : List (Nat × Value)} {st : List Value}
theorem e_cstr (C : CX κ ω cc nL d own) {ix : Nat} (hdg : decode cc pc = .ok (.getstatic ix, 3)) (hw : Cond.fieldLink own ix "java/lang/String" "COMPACT_STRINGS" "Z" ∈ TT) (hq : pc + 3 = q) (kk : EE κ ω nL G X I q lv (.int 1 :: st)) : EE κ ω nL G X I pc lv st := by
  obtain ⟨p, l, e, R, s, m, args, below, meth, c, cells, slots⟩ := κ
  obtain ⟨hx, hb, hml, hown, hts, hK, hlk, hR, hSX, hB⟩ := C
  intro r hr H locs ls hP hS hl
  subst hq
  exact va_gets hx hb hSX.2.1 hS hown (hts _ hw) (fun _ h => h) hdg (kk r hr H locs ls hP hS hl)
theorem e_fmt (C : CX κ ω cc nL d own) {ix : Nat} (hdg : decode cc pc = .ok (.getstatic ix, 3)) (hw : Cond.fieldLink own ix "jdk/internal/util/Preconditions" "SIOOBE_FORMATTER" "Ljava/util/function/BiFunction;" ∈ TT) (hq : pc + 3 = q) (kn : EE κ ω nL G X I q lv (.null :: st)) (kr : ∀ t : Nat, EE κ ω nL G X I q lv (.ref t :: st)) : EE κ ω nL G X I pc lv st := by
  obtain ⟨p, l, e, R, s, m, args, below, meth, c, cells, slots⟩ := κ
  obtain ⟨hx, hb, hml, hown, hts, hK, hlk, hR, hSX, hB⟩ := C
  intro r hr H locs ls hP hS hl
  subst hq
  rcases hSX.2.2.1 with hZ | ⟨t, hZ⟩
  · exact va_gets hx hb hZ hS hown (hts _ hw) (fun _ h => h) hdg (kn r hr H locs ls hP hS hl)
  · exact va_gets hx hb hZ hS hown (hts _ hw) (fun _ h => h) hdg (kr t r hr H locs ls hP hS hl)
theorem e_coderf (C : CX κ ω cc nL d own) {ix i : Nat} (hi : i < 13) (hdg : decode cc pc = .ok (.getfield ix, 3)) (hw : Cond.fieldLink own ix "java/lang/String" "coder" "B" ∈ TT) (hq : pc + 3 = q) (kk : EE κ ω nL G X I q lv (.int 0 :: st)) : EE κ ω nL G X I pc lv (.ref (oK ω i) :: st) := by
  obtain ⟨p, l, e, R, s, m, args, below, meth, c, cells, slots⟩ := κ
  obtain ⟨hx, hb, hml, hown, hts, hK, hlk, hR, hSX, hB⟩ := C
  intro r hr H locs ls hP hS hl
  subst hq
  exact vk_getf hx hb (hSX.2.2.2.1.1 i hi).2.1 hS hown (hts _ hw) (fun _ h => h) hdg (kk r hr H locs ls hP hS hl)
theorem e_valuef (C : CX κ ω cc nL d own) {ix i : Nat} (hi : i < 13) (hdg : decode cc pc = .ok (.getfield ix, 3)) (hw : Cond.fieldLink own ix "java/lang/String" "value" "[B" ∈ TT) (hq : pc + 3 = q) (kk : EE κ ω nL G X I q lv (.ref (oV ω i) :: st)) : EE κ ω nL G X I pc lv (.ref (oK ω i) :: st) := by
  obtain ⟨p, l, e, R, s, m, args, below, meth, c, cells, slots⟩ := κ
  obtain ⟨hx, hb, hml, hown, hts, hK, hlk, hR, hSX, hB⟩ := C
  intro r hr H locs ls hP hS hl
  subst hq
  exact vk_getf hx hb (hSX.2.2.2.1.1 i hi).2.2.1 hS hown (hts _ hw) (fun _ h => h) hdg (kk r hr H locs ls hP hS hl)
theorem e_vlen (C : CX κ ω cc nL d own) {i : Nat} (hi : i < 13) (hdg : decode cc pc = .ok (.arraylength, 1)) (hq : pc + 1 = q) (kk : EE κ ω nL G X I q lv (.int (nI (strL.getD i 0)) :: st)) : EE κ ω nL G X I pc lv (.ref (oV ω i) :: st) := by
  obtain ⟨p, l, e, R, s, m, args, below, meth, c, cells, slots⟩ := κ
  obtain ⟨hx, hb, hml, hown, hts, hK, hlk, hR, hSX, hB⟩ := C
  intro r hr H locs ls hP hS hl
  subst hq
  exact va_tlen hx hb (hSX.2.2.2.1.1 i hi).2.2.2 hS rfl hdg (kk r hr H locs ls hP hS hl)
theorem e_vbyte (C : CX κ ω cc nL d own) {i : Nat} {a : Int32} (hi : i < 13) (hdg : decode cc pc = .ok (.baload, 1)) (hq : pc + 1 = q) (kk : inb a (strL.getD i 0) = true → EE κ ω nL G X I q lv (.int ((strB.getD i []).getD a.toNatClampNeg 0) :: st)) : EE κ ω nL G (if inb a (strL.getD i 0) = true then X else none) I pc lv (.int a :: .ref (oV ω i) :: st) := by
  refine e_grd (fun hin => ?_)
  have kk := kk hin
  obtain ⟨p, l, e, R, s, m, args, below, meth, c, cells, slots⟩ := κ
  obtain ⟨hx, hb, hml, hown, hts, hK, hlk, hR, hSX, hB⟩ := C
  intro r hr H locs ls hP hS hl
  subst hq
  exact va_tb hx hb (hSX.2.2.2.1.1 i hi).2.2.2 hS (inb_iff.mp hin) rfl hdg (kk r hr H locs ls hP hS hl)
theorem e_i2c (C : CX κ ω cc nL d own) {x v : Int32} (hdg : decode cc pc = .ok (.i2c, 1)) (hv : (x.toUInt32 % 65536).toInt32 = v) (hq : pc + 1 = q) (kk : EE κ ω nL G X I q lv (.int v :: st)) : EE κ ω nL G X I pc lv (.int x :: st) := by
  obtain ⟨p, l, e, R, s, m, args, below, meth, c, cells, slots⟩ := κ
  obtain ⟨hx, hb, hml, hown, hts, hK, hlk, hR, hSX, hB⟩ := C
  intro r hr H locs ls hP hS hl
  subst hq
  exact lv_i2c hx hb hdg hv (kk r hr H locs ls hP hS hl)
end StrRows
theorem str_c : ∀ i : Fin 13, ∀ j : Fin 26, j.1 < strL.getD i.1 0 → (((((strB.getD i.1 []).getD j.1 0) &&& 255).toUInt32 % 65536).toInt32 = (strB.getD i.1 []).getD j.1 0) := by decide +kernel
theorem str_n : ∀ i : Fin 13, ∀ j : Fin 26, ((strB.getD i.1 []).getD j.1 0).toUInt32.toUInt16.toUInt32.toInt32 = (strB.getD i.1 []).getD j.1 0 := by decide +kernel
theorem str_l : ∀ i : Fin 13, strL.getD i.1 0 ≤ 26 ∧ nI (strL.getD i.1 0) >>> ((0 : Int32) &&& 31) = nI (strL.getD i.1 0) := by decide +kernel
set_option maxHeartbeats 4000000 in
theorem x_J0_coder {l : Launch} {ω : Om} {i : Nat} (hi : i < 13) {I : Mem} : CTi l ω yJ0_coder_7d493 cJ0_coder_7d493 1 (some .byte) 1 [.ref (oK ω i)] (some ((0 : Int32), I)) I := by
  refine ct_i (by decide) (Nat.le_of_ble_eq_true rfl) ?_
  intro κ hlau hret C
  refine e_lv [0] (lv1 := [(0, .ref (oK ω i))]) rfl ?_
  refine e_cstr C dJ0_coder_7d493_0 zs_213 (q := 3) rfl ?_
  have h := e_ifeq (G := Gi κ ω) (I := I) (lv := [(0, .ref (oK ω i))]) (st := []) (x := 1) C (A := none) (B := some ((0 : Int32), I)) (tgt := 13) (q := 6) dJ0_coder_7d493_3 rfl rfl e_none (by
    refine e_aload_n C dJ0_coder_7d493_6 rfl 0 rfl (q := 7) rfl ?_
    refine e_coderf C hi dJ0_coder_7d493_7 zs_1121 (q := 10) rfl ?_
    refine e_goto C (tgt := 14) dJ0_coder_7d493_10 rfl ?_
    exact e_ireturn C dJ0_coder_7d493_14 hret rfl)
  rw [if_neg (by decide)] at h
  exact h
set_option maxHeartbeats 4000000 in
theorem x_J0_isLatin1 {l : Launch} {ω : Om} {i : Nat} (hi : i < 13) {I : Mem} : CTi l ω yJ0_isLatin1_aae02 cJ0_isLatin1_aae02 1 (some .boolean) 1 [.ref (oK ω i)] (some ((1 : Int32), I)) I := by
  refine ct_i (by decide) (Nat.le_of_ble_eq_true rfl) ?_
  intro κ hlau hret C
  refine e_lv [0] (lv1 := [(0, .ref (oK ω i))]) rfl ?_
  refine e_cstr C dJ0_isLatin1_aae02_0 zs_213 (q := 3) rfl ?_
  have h := e_ifeq (G := Gi κ ω) (I := I) (lv := [(0, .ref (oK ω i))]) (st := []) (x := 1) C (A := none) (B := some ((1 : Int32), I)) (tgt := 17) (q := 6) dJ0_isLatin1_aae02_3 rfl rfl e_none (by
    refine e_aload_n C dJ0_isLatin1_aae02_6 rfl 0 rfl (q := 7) rfl ?_
    refine e_coderf C hi dJ0_isLatin1_aae02_7 zs_1121 (q := 10) rfl ?_
    have h2 := e_ifne (G := Gi κ ω) (I := I) (lv := [(0, .ref (oK ω i))]) (st := []) (x := 0) C (A := some ((1 : Int32), I)) (B := none) (tgt := 17) (q := 13) dJ0_isLatin1_aae02_10 rfl rfl e_none (by
      refine e_iconst C dJ0_isLatin1_aae02_13 ic_1 (q := 14) rfl ?_
      refine e_goto C (tgt := 18) dJ0_isLatin1_aae02_14 rfl ?_
      exact e_ireturn C dJ0_isLatin1_aae02_18 hret rfl)
    rw [if_pos rfl] at h2
    exact h2)
  rw [if_neg (by decide)] at h
  exact h
set_option maxHeartbeats 4000000 in
theorem x_J3_checkIndex {l : Launch} {ω : Om} {a n : Int32} {v : Value} (hv : v = .null ∨ ∃ t : Nat, v = .ref t) {I : Mem} : CTi l ω yJ3_checkIndex_8e157 cJ3_checkIndex_8e157 3 (some .int) 1 [.int a, .int n, v] (if a < 0 then none else if a < n then some (a, I) else none) I := by
  have key : ∀ (κ : Kx) (lv : List (Nat × Value)), κ.2.2.2.2.2.2.2.2.1.sig.returnType = some .int → CX κ ω cJ3_checkIndex_8e157 3 1 yJ3_checkIndex_8e157.cls → lv_pick lv [0, 1] = [(0, .int a), (1, .int n)] → EE κ ω 3 (Gi κ ω) (if a < 0 then none else if a < n then some (a, I) else none) I 0 lv [] := by
    intro κ lv hret C hlv
    refine e_lv [0, 1] (lv1 := [(0, .int a), (1, .int n)]) hlv ?_
    refine e_iload_n C dJ3_checkIndex_8e157_0 rfl 0 rfl (q := 1) rfl ?_
    refine e_iflt C (tgt := 9) (q := 4) dJ3_checkIndex_8e157_1 rfl rfl e_none ?_
    refine e_iload_n C dJ3_checkIndex_8e157_4 rfl 0 rfl (q := 5) rfl ?_
    refine e_iload_n C dJ3_checkIndex_8e157_5 rfl 1 rfl (q := 6) rfl ?_
    refine e_icmplt C (tgt := 16) (q := 9) dJ3_checkIndex_8e157_6 rfl rfl ?_ e_none
    refine e_iload_n C dJ3_checkIndex_8e157_16 rfl 0 rfl (q := 17) rfl ?_
    exact e_ireturn C dJ3_checkIndex_8e157_17 hret rfl
  rcases hv with rfl | ⟨t, rfl⟩
  · refine ct_i (by decide) (Nat.le_of_ble_eq_true rfl) ?_
    intro κ hlau hret C
    exact key κ _ hret C rfl
  · refine ct_i (by decide) (Nat.le_of_ble_eq_true rfl) ?_
    intro κ hlau hret C
    exact key κ _ hret C rfl
set_option maxHeartbeats 4000000 in
theorem x_J0_checkIndex {l : Launch} {ω : Om} {a n : Int32} {I : Mem} : CTv l ω yJ0_checkIndex_df160 cJ0_checkIndex_df160 2 none 2 [.int a, .int n] (bnd (if a < 0 then none else if a < n then some (a, I) else none) fun _ J => some ((), J)) I := by
  refine ct_v (by decide) (Nat.le_of_ble_eq_true rfl) ?_
  intro κ hlau hret C
  refine e_lv [0, 1] (lv1 := [(0, .int a), (1, .int n)]) rfl ?_
  refine e_iload_n C dJ0_checkIndex_df160_0 rfl 0 rfl (q := 1) rfl ?_
  refine e_iload_n C dJ0_checkIndex_df160_1 rfl 1 rfl (q := 2) rfl ?_
  have key : ∀ v : Value, (v = .null ∨ ∃ t : Nat, v = .ref t) → EE κ ω 2 (Gv κ ω) (bnd (if a < 0 then none else if a < n then some (a, I) else none) fun _ J => some ((), J)) I 5 [(0, .int a), (1, .int n)] [v, .int n, .int a] := by
    intro v hv
    refine e_callSi C (l := l) (av := [.int a, .int n, v]) (st := []) hlau (x_J3_checkIndex hv) dJ0_checkIndex_df160_5 zs_231 zs_232 zs_63 zs_233 zd_check3 (by decide) (by decide) rfl (Nat.le_of_ble_eq_true rfl) (q := 8) rfl (fun v2 J => ?_)
    refine e_pop C dJ0_checkIndex_df160_8 rfl (q := 9) rfl ?_
    exact e_vreturn C dJ0_checkIndex_df160_9 hret
  exact e_fmt C dJ0_checkIndex_df160_2 zs_229 (q := 5) rfl (key .null (Or.inl rfl)) (fun t => key (.ref t) (Or.inr ⟨t, rfl⟩))
set_option maxHeartbeats 4000000 in
theorem x_J1_charAt {l : Launch} {ω : Om} {i : Nat} {a : Int32} (hi : i < 13) {I : Mem} : CTi l ω yJ1_charAt_3b067 cJ1_charAt_3b067 2 (some .char) 3 [.ref (oV ω i), .int a] (bnd (bnd (if a < 0 then none else if a < nI (strL.getD i 0) then some (a, I) else none) fun _ J => some ((), J)) fun _ J => if inb a (strL.getD i 0) = true then some ((strB.getD i []).getD a.toNatClampNeg 0, J) else none) I := by
  refine ct_i (by decide) (Nat.le_of_ble_eq_true rfl) ?_
  intro κ hlau hret C
  refine e_lv [0, 1] (lv1 := [(0, .ref (oV ω i)), (1, .int a)]) rfl ?_
  refine e_iload_n C dJ1_charAt_3b067_0 rfl 1 rfl (q := 1) rfl ?_
  refine e_aload_n C dJ1_charAt_3b067_1 rfl 0 rfl (q := 2) rfl ?_
  refine e_vlen C hi dJ1_charAt_3b067_2 (q := 3) rfl ?_
  refine e_callSv C (l := l) (av := [.int a, .int (nI (strL.getD i 0))]) (st := []) hlau (x_J0_checkIndex (l := l) (ω := ω) (a := a) (n := nI (strL.getD i 0)) (I := I)) dJ1_charAt_3b067_3 zs_226 zs_227 zs_61 zs_228 zd_check0 (by decide) (by decide) rfl (Nat.le_of_ble_eq_true rfl) (q := 6) rfl (fun _ J => ?_)
  refine e_aload_n C dJ1_charAt_3b067_6 rfl 0 rfl (q := 7) rfl ?_
  refine e_iload_n C dJ1_charAt_3b067_7 rfl 1 rfl (q := 8) rfl ?_
  refine e_vbyte C hi dJ1_charAt_3b067_8 (q := 9) rfl (fun hin => ?_)
  have hlen := (str_l ⟨i, hi⟩).1
  have hlen' : strL.getD i 0 ≤ 26 := hlen
  have hlt := inb_lt hin (by omega)
  have hc := str_c ⟨i, hi⟩ ⟨a.toNatClampNeg, by omega⟩ hlt
  have hn := str_n ⟨i, hi⟩ ⟨a.toNatClampNeg, by omega⟩
  refine e_sipush C dJ1_charAt_3b067_9 (v := 255) (by decide) (q := 12) rfl ?_
  refine e_iand C dJ1_charAt_3b067_12 (q := 13) rfl ?_
  refine e_i2c C dJ1_charAt_3b067_13 hc (q := 14) rfl ?_
  exact e_ireturn C dJ1_charAt_3b067_14 hret (congrArg Value.int hn)
set_option maxHeartbeats 4000000 in
theorem x_J0_length_8abf5 {l : Launch} {ω : Om} {i : Nat} (hn : 56 ≤ oN ω) (hi : i < 13) {I : Mem} : CTi l ω yJ0_length_8abf5 cJ0_length_8abf5 1 (some .int) 3 [.ref (oK ω i)] (f_J0_length_8abf5 i I) I := by
  refine ct_i (by decide) (Nat.le_of_ble_eq_true rfl) ?_
  intro κ hlau hret C
  have hs : nI (strL.getD i 0) >>> ((0 : Int32) &&& 31) = nI (strL.getD i 0) := (str_l ⟨i, hi⟩).2
  rw [show f_J0_length_8abf5 i I = bnd (some ((0 : Int32), I)) fun v J => some (nI (strL.getD i 0) >>> (v &&& 31), J) by rw [bnd_some, hs]; rfl]
  refine e_lv [0] (lv1 := [(0, .ref (oK ω i))]) rfl ?_
  refine e_aload_n C dJ0_length_8abf5_0 rfl 0 rfl (q := 1) rfl ?_
  refine e_valuef C hi dJ0_length_8abf5_1 zs_1120 (q := 4) rfl ?_
  refine e_vlen C hi dJ0_length_8abf5_4 (q := 5) rfl ?_
  refine e_aload_n C dJ0_length_8abf5_5 rfl 0 rfl (q := 6) rfl ?_
  refine e_callWi C (l := l) (j := i) (av := []) (st := [.int (nI (strL.getD i 0))]) hlau (x_J0_coder (l := l) (ω := ω) hi (I := I)) dJ0_length_8abf5_6 zs_209 zs_210 zs_211 zs_61 zs_212 zd_coder (by decide) (by decide) rfl hi rfl (Nat.le_of_ble_eq_true rfl) (q := 9) rfl (fun v J => ?_)
  refine e_ishr C dJ0_length_8abf5_9 (q := 10) rfl ?_
  exact e_ireturn C dJ0_length_8abf5_10 hret rfl
set_option maxHeartbeats 4000000 in
theorem x_J0_charAt_5068e {l : Launch} {ω : Om} {i : Nat} {a1 : Int32} (hn : 56 ≤ oN ω) (hi : i < 13) {I : Mem} : CTi l ω yJ0_charAt_5068e cJ0_charAt_5068e 2 (some .char) 6 [.ref (oK ω i), .int a1] (f_J0_charAt_5068e i a1 I) I := by
  refine ct_i (by decide) (Nat.le_of_ble_eq_true rfl) ?_
  intro κ hlau hret C
  have hlen : strL.getD i 0 ≤ 26 := (str_l ⟨i, hi⟩).1
  refine e_eq (A := bnd (some ((1 : Int32), I)) fun v J => if v = 0 then none else bnd (bnd (bnd (if a1 < 0 then none else if a1 < nI (strL.getD i 0) then some (a1, J) else none) fun _ J => some ((), J)) fun _ J => if inb a1 (strL.getD i 0) = true then some ((strB.getD i []).getD a1.toNatClampNeg 0, J) else none) fun w J => if w.toUInt32.toUInt16.toUInt32.toInt32 = w then some (w, J) else none) ?_ ?_
  · rw [bnd_some, if_neg (by decide), f_J0_charAt_5068e]
    by_cases hin : inb a1 (strL.getD i 0) = true
    · obtain ⟨j, hj, e⟩ := vp_in_of (inb_iff.mp hin) (by omega)
      have hlt := inb_lt hin (by omega)
      have hn := str_n ⟨i, hi⟩ ⟨a1.toNatClampNeg, by omega⟩
      rw [if_pos hin, if_neg (show ¬ a1 < 0 by rw [e]; exact fun hh => absurd ((nI_ltI (b := 0) (by omega) (by omega)).mp hh) (by omega)), if_pos (show a1 < nI (strL.getD i 0) by rw [e]; exact (nI_ltI (by omega) (by omega)).mpr hj), bnd_some, bnd_some, if_pos hin, bnd_some, if_pos hn]
    · rw [if_neg hin]
      by_cases h1 : a1 < 0
      · rw [if_pos h1]; rfl
      · rw [if_neg h1]
        by_cases h2 : a1 < nI (strL.getD i 0)
        · rw [if_pos h2, bnd_some, bnd_some, if_neg hin]; rfl
        · rw [if_neg h2]; rfl
  refine e_lv [0, 1] (lv1 := [(0, .ref (oK ω i)), (1, .int a1)]) rfl ?_
  refine e_aload_n C dJ0_charAt_5068e_0 rfl 0 rfl (q := 1) rfl ?_
  refine e_callWi C (l := l) (j := i) (av := []) (st := []) hlau (x_J0_isLatin1 (l := l) (ω := ω) hi (I := I)) dJ0_charAt_5068e_1 zs_219 zs_220 zs_221 zs_61 zs_222 zd_isLatin1 (by decide) (by decide) rfl hi rfl (Nat.le_of_ble_eq_true rfl) (q := 4) rfl (fun v J => ?_)
  refine e_ifeq C (tgt := 16) (q := 7) dJ0_charAt_5068e_4 rfl rfl e_none ?_
  refine e_aload_n C dJ0_charAt_5068e_7 rfl 0 rfl (q := 8) rfl ?_
  refine e_valuef C hi dJ0_charAt_5068e_8 zs_1120 (q := 11) rfl ?_
  refine e_iload_n C dJ0_charAt_5068e_11 rfl 1 rfl (q := 12) rfl ?_
  refine e_callSi C (l := l) (av := [.ref (oV ω i), .int a1]) (st := []) hlau (x_J1_charAt (l := l) (ω := ω) (a := a1) hi (I := J)) dJ0_charAt_5068e_12 zs_223 zs_224 zs_62 zs_225 zd_charAt1 (by decide) (by decide) rfl (Nat.le_of_ble_eq_true rfl) (q := 15) rfl (fun w J2 => ?_)
  exact e_grd (fun hw => e_ireturn C dJ0_charAt_5068e_15 hret (congrArg Value.int hw))
