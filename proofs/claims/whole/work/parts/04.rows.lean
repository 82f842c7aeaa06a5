section EErows
variable {κ : Kx} {ω : Om} {cc : ByteArray} {nL d : Nat} {own : String} {α : Type} {G : α × Mem → State → Prop} {X A B : Option (α × Mem)} {I : Mem} {pc q : Nat} {lv : List (Nat × Value)} {st : List Value}
theorem e_iconst (C : CX κ ω cc nL d own) {n : Int} {v : Int32} (hdg : decode cc pc = .ok (.iconst n, 1)) (hv : Int32.ofInt n = v) (hq : pc + 1 = q) (kk : EE κ ω nL G X I q lv (.int v :: st)) : EE κ ω nL G X I pc lv (st) := by
  obtain ⟨p, l, e, R, s, m, args, below, meth, c, cells, slots⟩ := κ
  obtain ⟨hx, hb, hml, hown, hts, hK, hlk, hR, hSX, hB⟩ := C
  intro r hr H locs ls hP hS hl
  subst hq
  exact lv_iconst hx hb hdg hv (kk r hr H locs ls hP hS hl)
theorem e_bipush (C : CX κ ω cc nL d own) {n : Int} {v : Int32} (hdg : decode cc pc = .ok (.bipush n, 2)) (hv : (Int8.ofInt n).toInt32 = v) (hq : pc + 2 = q) (kk : EE κ ω nL G X I q lv (.int v :: st)) : EE κ ω nL G X I pc lv (st) := by
  obtain ⟨p, l, e, R, s, m, args, below, meth, c, cells, slots⟩ := κ
  obtain ⟨hx, hb, hml, hown, hts, hK, hlk, hR, hSX, hB⟩ := C
  intro r hr H locs ls hP hS hl
  subst hq
  exact lv_bipush hx hb hdg hv (kk r hr H locs ls hP hS hl)
theorem e_sipush (C : CX κ ω cc nL d own) {n : Int} {v : Int32} (hdg : decode cc pc = .ok (.sipush n, 3)) (hv : (Int16.ofInt n).toInt32 = v) (hq : pc + 3 = q) (kk : EE κ ω nL G X I q lv (.int v :: st)) : EE κ ω nL G X I pc lv (st) := by
  obtain ⟨p, l, e, R, s, m, args, below, meth, c, cells, slots⟩ := κ
  obtain ⟨hx, hb, hml, hown, hts, hK, hlk, hR, hSX, hB⟩ := C
  intro r hr H locs ls hP hS hl
  subst hq
  exact lv_sipush hx hb hdg hv (kk r hr H locs ls hP hS hl)
theorem e_lconst (C : CX κ ω cc nL d own) {n : Fin 2} {v : Int64} (hdg : decode cc pc = .ok (.lconst n, 1)) (hv : Int64.ofNat (n : Nat) = v) (hq : pc + 1 = q) (kk : EE κ ω nL G X I q lv (.long v :: st)) : EE κ ω nL G X I pc lv (st) := by
  obtain ⟨p, l, e, R, s, m, args, below, meth, c, cells, slots⟩ := κ
  obtain ⟨hx, hb, hml, hown, hts, hK, hlk, hR, hSX, hB⟩ := C
  intro r hr H locs ls hP hS hl
  subst hq
  exact lv_lconst hx hb hdg hv (kk r hr H locs ls hP hS hl)
theorem e_null (C : CX κ ω cc nL d own)  (hdg : decode cc pc = .ok (.aconst_null, 1))  (hq : pc + 1 = q) (kk : EE κ ω nL G X I q lv (.null :: st)) : EE κ ω nL G X I pc lv (st) := by
  obtain ⟨p, l, e, R, s, m, args, below, meth, c, cells, slots⟩ := κ
  obtain ⟨hx, hb, hml, hown, hts, hK, hlk, hR, hSX, hB⟩ := C
  intro r hr H locs ls hP hS hl
  subst hq
  exact lv_null hx hb hdg  (kk r hr H locs ls hP hS hl)
theorem e_ldc (C : CX κ ω cc nL d own) {ix : Nat} {v : Int32} (hdg : decode cc pc = .ok (.ldc ix, 2)) (hw : Cond.constant own ix v ∈ TT) (hq : pc + 2 = q) (kk : EE κ ω nL G X I q lv (.int v :: st)) : EE κ ω nL G X I pc lv (st) := by
  obtain ⟨p, l, e, R, s, m, args, below, meth, c, cells, slots⟩ := κ
  obtain ⟨hx, hb, hml, hown, hts, hK, hlk, hR, hSX, hB⟩ := C
  intro r hr H locs ls hP hS hl
  subst hq
  exact lv_ldc hx hb hown (hts _ hw) hdg (kk r hr H locs ls hP hS hl)
theorem e_ldcw (C : CX κ ω cc nL d own) {ix : Nat} {v : Int32} (hdg : decode cc pc = .ok (.ldc_w ix, 3)) (hw : Cond.constant own ix v ∈ TT) (hq : pc + 3 = q) (kk : EE κ ω nL G X I q lv (.int v :: st)) : EE κ ω nL G X I pc lv (st) := by
  obtain ⟨p, l, e, R, s, m, args, below, meth, c, cells, slots⟩ := κ
  obtain ⟨hx, hb, hml, hown, hts, hK, hlk, hR, hSX, hB⟩ := C
  intro r hr H locs ls hP hS hl
  subst hq
  exact lv_ldcw hx hb hown (hts _ hw) hdg (kk r hr H locs ls hP hS hl)
theorem e_ldc2 (C : CX κ ω cc nL d own) {ix : Nat} {v : Int64} (hdg : decode cc pc = .ok (.ldc2_w ix, 3)) (hw : Cond.constantLong own ix v ∈ TT) (hq : pc + 3 = q) (kk : EE κ ω nL G X I q lv (.long v :: st)) : EE κ ω nL G X I pc lv (st) := by
  obtain ⟨p, l, e, R, s, m, args, below, meth, c, cells, slots⟩ := κ
  obtain ⟨hx, hb, hml, hown, hts, hK, hlk, hR, hSX, hB⟩ := C
  intro r hr H locs ls hP hS hl
  subst hq
  exact lv_ldc2 hx hb hown (hts _ hw) hdg (kk r hr H locs ls hP hS hl)
theorem e_iload (C : CX κ ω cc nL d own) {i : Nat} {x : Int32} (hdg : decode cc pc = .ok (.iload i, 2)) (k : Nat) (hk : lv[k]? = some (i, .int x)) (hq : pc + 2 = q) (kk : EE κ ω nL G X I q lv (.int x :: st)) : EE κ ω nL G X I pc lv (st) := by
  obtain ⟨p, l, e, R, s, m, args, below, meth, c, cells, slots⟩ := κ
  obtain ⟨hx, hb, hml, hown, hts, hK, hlk, hR, hSX, hB⟩ := C
  intro r hr H locs ls hP hS hl
  subst hq
  exact lv_iload hx hb hdg (lv_at hl k hk) (kk r hr H locs ls hP hS hl)
theorem e_iload_n (C : CX κ ω cc nL d own) {i0 : Fin 4} {i : Nat} {x : Int32} (hdg : decode cc pc = .ok (.iload_n i0, 1)) (hi : (i0 : Nat) = i) (k : Nat) (hk : lv[k]? = some (i, .int x)) (hq : pc + 1 = q) (kk : EE κ ω nL G X I q lv (.int x :: st)) : EE κ ω nL G X I pc lv (st) := by
  obtain ⟨p, l, e, R, s, m, args, below, meth, c, cells, slots⟩ := κ
  obtain ⟨hx, hb, hml, hown, hts, hK, hlk, hR, hSX, hB⟩ := C
  intro r hr H locs ls hP hS hl
  subst hq
  exact lv_iload_n hx hb hdg hi (lv_at hl k hk) (kk r hr H locs ls hP hS hl)
theorem e_aload (C : CX κ ω cc nL d own) {i : Nat} {x : Nat} (hdg : decode cc pc = .ok (.aload i, 2)) (k : Nat) (hk : lv[k]? = some (i, .ref x)) (hq : pc + 2 = q) (kk : EE κ ω nL G X I q lv (.ref x :: st)) : EE κ ω nL G X I pc lv (st) := by
  obtain ⟨p, l, e, R, s, m, args, below, meth, c, cells, slots⟩ := κ
  obtain ⟨hx, hb, hml, hown, hts, hK, hlk, hR, hSX, hB⟩ := C
  intro r hr H locs ls hP hS hl
  subst hq
  exact lv_aload hx hb hdg (lv_at hl k hk) (kk r hr H locs ls hP hS hl)
theorem e_aload_n (C : CX κ ω cc nL d own) {i0 : Fin 4} {i : Nat} {x : Nat} (hdg : decode cc pc = .ok (.aload_n i0, 1)) (hi : (i0 : Nat) = i) (k : Nat) (hk : lv[k]? = some (i, .ref x)) (hq : pc + 1 = q) (kk : EE κ ω nL G X I q lv (.ref x :: st)) : EE κ ω nL G X I pc lv (st) := by
  obtain ⟨p, l, e, R, s, m, args, below, meth, c, cells, slots⟩ := κ
  obtain ⟨hx, hb, hml, hown, hts, hK, hlk, hR, hSX, hB⟩ := C
  intro r hr H locs ls hP hS hl
  subst hq
  exact lv_aload_n hx hb hdg hi (lv_at hl k hk) (kk r hr H locs ls hP hS hl)
theorem e_lload (C : CX κ ω cc nL d own) {i : Nat} {x : Int64} (hdg : decode cc pc = .ok (.lload i, 2)) (k : Nat) (hk : lv[k]? = some (i, .long x)) (hq : pc + 2 = q) (kk : EE κ ω nL G X I q lv (.long x :: st)) : EE κ ω nL G X I pc lv (st) := by
  obtain ⟨p, l, e, R, s, m, args, below, meth, c, cells, slots⟩ := κ
  obtain ⟨hx, hb, hml, hown, hts, hK, hlk, hR, hSX, hB⟩ := C
  intro r hr H locs ls hP hS hl
  subst hq
  exact lv_lload hx hb hdg (lv_at hl k hk) (kk r hr H locs ls hP hS hl)
theorem e_lload_n (C : CX κ ω cc nL d own) {i0 : Fin 4} {i : Nat} {x : Int64} (hdg : decode cc pc = .ok (.lload_n i0, 1)) (hi : (i0 : Nat) = i) (k : Nat) (hk : lv[k]? = some (i, .long x)) (hq : pc + 1 = q) (kk : EE κ ω nL G X I q lv (.long x :: st)) : EE κ ω nL G X I pc lv (st) := by
  obtain ⟨p, l, e, R, s, m, args, below, meth, c, cells, slots⟩ := κ
  obtain ⟨hx, hb, hml, hown, hts, hK, hlk, hR, hSX, hB⟩ := C
  intro r hr H locs ls hP hS hl
  subst hq
  exact lv_lload_n hx hb hdg hi (lv_at hl k hk) (kk r hr H locs ls hP hS hl)
theorem e_aloadN (C : CX κ ω cc nL d own) {i : Nat} (hdg : decode cc pc = .ok (.aload i, 2)) (k : Nat) (hk : lv[k]? = some (i, .null)) (hq : pc + 2 = q) (kk : EE κ ω nL G X I q lv (.null :: st)) : EE κ ω nL G X I pc lv (st) := by
  obtain ⟨p, l, e, R, s, m, args, below, meth, c, cells, slots⟩ := κ
  obtain ⟨hx, hb, hml, hown, hts, hK, hlk, hR, hSX, hB⟩ := C
  intro r hr H locs ls hP hS hl
  subst hq
  exact lv_aloadN hx hb hdg (lv_at hl k hk) (kk r hr H locs ls hP hS hl)
theorem e_aload_nN (C : CX κ ω cc nL d own) {i0 : Fin 4} {i : Nat} (hdg : decode cc pc = .ok (.aload_n i0, 1)) (hi : (i0 : Nat) = i) (k : Nat) (hk : lv[k]? = some (i, .null)) (hq : pc + 1 = q) (kk : EE κ ω nL G X I q lv (.null :: st)) : EE κ ω nL G X I pc lv (st) := by
  obtain ⟨p, l, e, R, s, m, args, below, meth, c, cells, slots⟩ := κ
  obtain ⟨hx, hb, hml, hown, hts, hK, hlk, hR, hSX, hB⟩ := C
  intro r hr H locs ls hP hS hl
  subst hq
  exact lv_aload_nN hx hb hdg hi (lv_at hl k hk) (kk r hr H locs ls hP hS hl)
theorem e_istore (C : CX κ ω cc nL d own) {i : Nat} {x : Int32} {lv1 : List (Nat × Value)} (hdg : decode cc pc = .ok (.istore i, 2)) (hn : i < nL) (hv : (i, Value.int x) :: lv.filter (fun q => !(q.1 == i) && !(q.1 + 1 == i && q.2.category == 2)) = lv1) (hq : pc + 2 = q) (kk : EE κ ω nL G X I q lv1 st) : EE κ ω nL G X I pc lv (.int x :: st) := by
  obtain ⟨p, l, e, R, s, m, args, below, meth, c, cells, slots⟩ := κ
  obtain ⟨hx, hb, hml, hown, hts, hK, hlk, hR, hSX, hB⟩ := C
  intro r hr H locs ls hP hS hl
  subst hq
  exact lv_istore hx hb hdg hl hn hv (fun ls1 hl1 => kk r hr H locs ls1 hP hS hl1)
theorem e_istore_n (C : CX κ ω cc nL d own) {i0 : Fin 4} {i : Nat} {x : Int32} {lv1 : List (Nat × Value)} (hdg : decode cc pc = .ok (.istore_n i0, 1)) (hi : (i0 : Nat) = i) (hn : i < nL) (hv : (i, Value.int x) :: lv.filter (fun q => !(q.1 == i) && !(q.1 + 1 == i && q.2.category == 2)) = lv1) (hq : pc + 1 = q) (kk : EE κ ω nL G X I q lv1 st) : EE κ ω nL G X I pc lv (.int x :: st) := by
  obtain ⟨p, l, e, R, s, m, args, below, meth, c, cells, slots⟩ := κ
  obtain ⟨hx, hb, hml, hown, hts, hK, hlk, hR, hSX, hB⟩ := C
  intro r hr H locs ls hP hS hl
  subst hq
  exact lv_istore_n hx hb hdg hi hl hn hv (fun ls1 hl1 => kk r hr H locs ls1 hP hS hl1)
theorem e_astore (C : CX κ ω cc nL d own) {i : Nat} {x : Nat} {lv1 : List (Nat × Value)} (hdg : decode cc pc = .ok (.astore i, 2)) (hn : i < nL) (hv : (i, Value.ref x) :: lv.filter (fun q => !(q.1 == i) && !(q.1 + 1 == i && q.2.category == 2)) = lv1) (hq : pc + 2 = q) (kk : EE κ ω nL G X I q lv1 st) : EE κ ω nL G X I pc lv (.ref x :: st) := by
  obtain ⟨p, l, e, R, s, m, args, below, meth, c, cells, slots⟩ := κ
  obtain ⟨hx, hb, hml, hown, hts, hK, hlk, hR, hSX, hB⟩ := C
  intro r hr H locs ls hP hS hl
  subst hq
  exact lv_astore hx hb hdg hl hn hv (fun ls1 hl1 => kk r hr H locs ls1 hP hS hl1)
theorem e_astore_n (C : CX κ ω cc nL d own) {i0 : Fin 4} {i : Nat} {x : Nat} {lv1 : List (Nat × Value)} (hdg : decode cc pc = .ok (.astore_n i0, 1)) (hi : (i0 : Nat) = i) (hn : i < nL) (hv : (i, Value.ref x) :: lv.filter (fun q => !(q.1 == i) && !(q.1 + 1 == i && q.2.category == 2)) = lv1) (hq : pc + 1 = q) (kk : EE κ ω nL G X I q lv1 st) : EE κ ω nL G X I pc lv (.ref x :: st) := by
  obtain ⟨p, l, e, R, s, m, args, below, meth, c, cells, slots⟩ := κ
  obtain ⟨hx, hb, hml, hown, hts, hK, hlk, hR, hSX, hB⟩ := C
  intro r hr H locs ls hP hS hl
  subst hq
  exact lv_astore_n hx hb hdg hi hl hn hv (fun ls1 hl1 => kk r hr H locs ls1 hP hS hl1)
theorem e_lstore (C : CX κ ω cc nL d own) {i : Nat} {x : Int64} {lv1 : List (Nat × Value)} (hdg : decode cc pc = .ok (.lstore i, 2)) (hn : i + 1 < nL) (hv : (i, Value.long x) :: lv.filter (fun q => !(q.1 == i) && (!(q.1 == i + 1) && !(q.1 + 1 == i && q.2.category == 2))) = lv1) (hq : pc + 2 = q) (kk : EE κ ω nL G X I q lv1 st) : EE κ ω nL G X I pc lv (.long x :: st) := by
  obtain ⟨p, l, e, R, s, m, args, below, meth, c, cells, slots⟩ := κ
  obtain ⟨hx, hb, hml, hown, hts, hK, hlk, hR, hSX, hB⟩ := C
  intro r hr H locs ls hP hS hl
  subst hq
  exact lv_lstore hx hb hdg hl hn hv (fun ls1 hl1 => kk r hr H locs ls1 hP hS hl1)
theorem e_lstore_n (C : CX κ ω cc nL d own) {i0 : Fin 4} {i : Nat} {x : Int64} {lv1 : List (Nat × Value)} (hdg : decode cc pc = .ok (.lstore_n i0, 1)) (hi : (i0 : Nat) = i) (hn : i + 1 < nL) (hv : (i, Value.long x) :: lv.filter (fun q => !(q.1 == i) && (!(q.1 == i + 1) && !(q.1 + 1 == i && q.2.category == 2))) = lv1) (hq : pc + 1 = q) (kk : EE κ ω nL G X I q lv1 st) : EE κ ω nL G X I pc lv (.long x :: st) := by
  obtain ⟨p, l, e, R, s, m, args, below, meth, c, cells, slots⟩ := κ
  obtain ⟨hx, hb, hml, hown, hts, hK, hlk, hR, hSX, hB⟩ := C
  intro r hr H locs ls hP hS hl
  subst hq
  exact lv_lstore_n hx hb hdg hi hl hn hv (fun ls1 hl1 => kk r hr H locs ls1 hP hS hl1)
theorem e_astoreN (C : CX κ ω cc nL d own) {i : Nat} {lv1 : List (Nat × Value)} (hdg : decode cc pc = .ok (.astore i, 2)) (hn : i < nL) (hv : (i, Value.null) :: lv.filter (fun q => !(q.1 == i) && !(q.1 + 1 == i && q.2.category == 2)) = lv1) (hq : pc + 2 = q) (kk : EE κ ω nL G X I q lv1 st) : EE κ ω nL G X I pc lv (.null :: st) := by
  obtain ⟨p, l, e, R, s, m, args, below, meth, c, cells, slots⟩ := κ
  obtain ⟨hx, hb, hml, hown, hts, hK, hlk, hR, hSX, hB⟩ := C
  intro r hr H locs ls hP hS hl
  subst hq
  exact lv_astoreN hx hb hdg hl hn hv (fun ls1 hl1 => kk r hr H locs ls1 hP hS hl1)
theorem e_astore_nN (C : CX κ ω cc nL d own) {i0 : Fin 4} {i : Nat} {lv1 : List (Nat × Value)} (hdg : decode cc pc = .ok (.astore_n i0, 1)) (hi : (i0 : Nat) = i) (hn : i < nL) (hv : (i, Value.null) :: lv.filter (fun q => !(q.1 == i) && !(q.1 + 1 == i && q.2.category == 2)) = lv1) (hq : pc + 1 = q) (kk : EE κ ω nL G X I q lv1 st) : EE κ ω nL G X I pc lv (.null :: st) := by
  obtain ⟨p, l, e, R, s, m, args, below, meth, c, cells, slots⟩ := κ
  obtain ⟨hx, hb, hml, hown, hts, hK, hlk, hR, hSX, hB⟩ := C
  intro r hr H locs ls hP hS hl
  subst hq
  exact lv_astore_nN hx hb hdg hi hl hn hv (fun ls1 hl1 => kk r hr H locs ls1 hP hS hl1)
theorem e_iinc (C : CX κ ω cc nL d own) {i : Nat} {n : Int} {x v : Int32} {lv1 : List (Nat × Value)} (hdg : decode cc pc = .ok (.iinc i n, 3)) (k : Nat) (hk : lv[k]? = some (i, .int x)) (hn : i < nL) (hw : x + Int32.ofInt n = v) (hv : (i, Value.int v) :: lv.filter (fun q => !(q.1 == i) && !(q.1 + 1 == i && q.2.category == 2)) = lv1) (hq : pc + 3 = q) (kk : EE κ ω nL G X I q lv1 st) : EE κ ω nL G X I pc lv st := by
  obtain ⟨p, l, e, R, s, m, args, below, meth, c, cells, slots⟩ := κ
  obtain ⟨hx, hb, hml, hown, hts, hK, hlk, hR, hSX, hB⟩ := C
  intro r hr H locs ls hP hS hl
  subst hq
  exact lv_iinc hx hb hdg hl hk hw hn hv (fun ls1 hl1 => kk r hr H locs ls1 hP hS hl1)
theorem e_iadd (C : CX κ ω cc nL d own) {x y : Int32} (hdg : decode cc pc = .ok (.iadd, 1))  (hq : pc + 1 = q) (kk : EE κ ω nL G X I q lv (.int (x + y) :: st)) : EE κ ω nL G X I pc lv (.int y :: .int x :: st) := by
  obtain ⟨p, l, e, R, s, m, args, below, meth, c, cells, slots⟩ := κ
  obtain ⟨hx, hb, hml, hown, hts, hK, hlk, hR, hSX, hB⟩ := C
  intro r hr H locs ls hP hS hl
  subst hq
  exact lv_iadd hx hb hdg  (kk r hr H locs ls hP hS hl)
theorem e_isub (C : CX κ ω cc nL d own) {x y : Int32} (hdg : decode cc pc = .ok (.isub, 1))  (hq : pc + 1 = q) (kk : EE κ ω nL G X I q lv (.int (x - y) :: st)) : EE κ ω nL G X I pc lv (.int y :: .int x :: st) := by
  obtain ⟨p, l, e, R, s, m, args, below, meth, c, cells, slots⟩ := κ
  obtain ⟨hx, hb, hml, hown, hts, hK, hlk, hR, hSX, hB⟩ := C
  intro r hr H locs ls hP hS hl
  subst hq
  exact lv_isub hx hb hdg  (kk r hr H locs ls hP hS hl)
theorem e_imul (C : CX κ ω cc nL d own) {x y : Int32} (hdg : decode cc pc = .ok (.imul, 1))  (hq : pc + 1 = q) (kk : EE κ ω nL G X I q lv (.int (x * y) :: st)) : EE κ ω nL G X I pc lv (.int y :: .int x :: st) := by
  obtain ⟨p, l, e, R, s, m, args, below, meth, c, cells, slots⟩ := κ
  obtain ⟨hx, hb, hml, hown, hts, hK, hlk, hR, hSX, hB⟩ := C
  intro r hr H locs ls hP hS hl
  subst hq
  exact lv_imul hx hb hdg  (kk r hr H locs ls hP hS hl)
theorem e_iand (C : CX κ ω cc nL d own) {x y : Int32} (hdg : decode cc pc = .ok (.iand, 1))  (hq : pc + 1 = q) (kk : EE κ ω nL G X I q lv (.int (x &&& y) :: st)) : EE κ ω nL G X I pc lv (.int y :: .int x :: st) := by
  obtain ⟨p, l, e, R, s, m, args, below, meth, c, cells, slots⟩ := κ
  obtain ⟨hx, hb, hml, hown, hts, hK, hlk, hR, hSX, hB⟩ := C
  intro r hr H locs ls hP hS hl
  subst hq
  exact lv_iand hx hb hdg  (kk r hr H locs ls hP hS hl)
theorem e_ior (C : CX κ ω cc nL d own) {x y : Int32} (hdg : decode cc pc = .ok (.ior, 1))  (hq : pc + 1 = q) (kk : EE κ ω nL G X I q lv (.int (x ||| y) :: st)) : EE κ ω nL G X I pc lv (.int y :: .int x :: st) := by
  obtain ⟨p, l, e, R, s, m, args, below, meth, c, cells, slots⟩ := κ
  obtain ⟨hx, hb, hml, hown, hts, hK, hlk, hR, hSX, hB⟩ := C
  intro r hr H locs ls hP hS hl
  subst hq
  exact lv_ior hx hb hdg  (kk r hr H locs ls hP hS hl)
theorem e_ishl (C : CX κ ω cc nL d own) {x y : Int32} (hdg : decode cc pc = .ok (.ishl, 1))  (hq : pc + 1 = q) (kk : EE κ ω nL G X I q lv (.int (x <<< (y &&& 31)) :: st)) : EE κ ω nL G X I pc lv (.int y :: .int x :: st) := by
  obtain ⟨p, l, e, R, s, m, args, below, meth, c, cells, slots⟩ := κ
  obtain ⟨hx, hb, hml, hown, hts, hK, hlk, hR, hSX, hB⟩ := C
  intro r hr H locs ls hP hS hl
  subst hq
  exact lv_ishl hx hb hdg  (kk r hr H locs ls hP hS hl)
theorem e_ishr (C : CX κ ω cc nL d own) {x y : Int32} (hdg : decode cc pc = .ok (.ishr, 1))  (hq : pc + 1 = q) (kk : EE κ ω nL G X I q lv (.int (x >>> (y &&& 31)) :: st)) : EE κ ω nL G X I pc lv (.int y :: .int x :: st) := by
  obtain ⟨p, l, e, R, s, m, args, below, meth, c, cells, slots⟩ := κ
  obtain ⟨hx, hb, hml, hown, hts, hK, hlk, hR, hSX, hB⟩ := C
  intro r hr H locs ls hP hS hl
  subst hq
  exact lv_ishr hx hb hdg  (kk r hr H locs ls hP hS hl)
theorem e_idiv (C : CX κ ω cc nL d own) {x y : Int32} (hdg : decode cc pc = .ok (.idiv, 1)) (hne : ¬ y = 0) (hq : pc + 1 = q) (kk : EE κ ω nL G X I q lv (.int (x / y) :: st)) : EE κ ω nL G X I pc lv (.int y :: .int x :: st) := by
  obtain ⟨p, l, e, R, s, m, args, below, meth, c, cells, slots⟩ := κ
  obtain ⟨hx, hb, hml, hown, hts, hK, hlk, hR, hSX, hB⟩ := C
  intro r hr H locs ls hP hS hl
  subst hq
  exact lv_idiv hx hb hdg hne (kk r hr H locs ls hP hS hl)
theorem e_irem (C : CX κ ω cc nL d own) {x y : Int32} (hdg : decode cc pc = .ok (.irem, 1)) (hne : ¬ y = 0) (hq : pc + 1 = q) (kk : EE κ ω nL G X I q lv (.int (x - x / y * y) :: st)) : EE κ ω nL G X I pc lv (.int y :: .int x :: st) := by
  obtain ⟨p, l, e, R, s, m, args, below, meth, c, cells, slots⟩ := κ
  obtain ⟨hx, hb, hml, hown, hts, hK, hlk, hR, hSX, hB⟩ := C
  intro r hr H locs ls hP hS hl
  subst hq
  exact lv_irem hx hb hdg hne (kk r hr H locs ls hP hS hl)
theorem e_ladd (C : CX κ ω cc nL d own) {x y : Int64} (hdg : decode cc pc = .ok (.ladd, 1))  (hq : pc + 1 = q) (kk : EE κ ω nL G X I q lv (.long (x + y) :: st)) : EE κ ω nL G X I pc lv (.long y :: .long x :: st) := by
  obtain ⟨p, l, e, R, s, m, args, below, meth, c, cells, slots⟩ := κ
  obtain ⟨hx, hb, hml, hown, hts, hK, hlk, hR, hSX, hB⟩ := C
  intro r hr H locs ls hP hS hl
  subst hq
  exact lv_ladd hx hb hdg  (kk r hr H locs ls hP hS hl)
theorem e_lmul (C : CX κ ω cc nL d own) {x y : Int64} (hdg : decode cc pc = .ok (.lmul, 1))  (hq : pc + 1 = q) (kk : EE κ ω nL G X I q lv (.long (x * y) :: st)) : EE κ ω nL G X I pc lv (.long y :: .long x :: st) := by
  obtain ⟨p, l, e, R, s, m, args, below, meth, c, cells, slots⟩ := κ
  obtain ⟨hx, hb, hml, hown, hts, hK, hlk, hR, hSX, hB⟩ := C
  intro r hr H locs ls hP hS hl
  subst hq
  exact lv_lmul hx hb hdg  (kk r hr H locs ls hP hS hl)
theorem e_lor (C : CX κ ω cc nL d own) {x y : Int64} (hdg : decode cc pc = .ok (.lor, 1))  (hq : pc + 1 = q) (kk : EE κ ω nL G X I q lv (.long (x ||| y) :: st)) : EE κ ω nL G X I pc lv (.long y :: .long x :: st) := by
  obtain ⟨p, l, e, R, s, m, args, below, meth, c, cells, slots⟩ := κ
  obtain ⟨hx, hb, hml, hown, hts, hK, hlk, hR, hSX, hB⟩ := C
  intro r hr H locs ls hP hS hl
  subst hq
  exact lv_lor hx hb hdg  (kk r hr H locs ls hP hS hl)
theorem e_ldiv (C : CX κ ω cc nL d own) {x y : Int64} (hdg : decode cc pc = .ok (.ldiv, 1)) (hne : ¬ y = 0) (hq : pc + 1 = q) (kk : EE κ ω nL G X I q lv (.long (x / y) :: st)) : EE κ ω nL G X I pc lv (.long y :: .long x :: st) := by
  obtain ⟨p, l, e, R, s, m, args, below, meth, c, cells, slots⟩ := κ
  obtain ⟨hx, hb, hml, hown, hts, hK, hlk, hR, hSX, hB⟩ := C
  intro r hr H locs ls hP hS hl
  subst hq
  exact lv_ldiv hx hb hdg hne (kk r hr H locs ls hP hS hl)
theorem e_lrem (C : CX κ ω cc nL d own) {x y : Int64} (hdg : decode cc pc = .ok (.lrem, 1)) (hne : ¬ y = 0) (hq : pc + 1 = q) (kk : EE κ ω nL G X I q lv (.long (x - x / y * y) :: st)) : EE κ ω nL G X I pc lv (.long y :: .long x :: st) := by
  obtain ⟨p, l, e, R, s, m, args, below, meth, c, cells, slots⟩ := κ
  obtain ⟨hx, hb, hml, hown, hts, hK, hlk, hR, hSX, hB⟩ := C
  intro r hr H locs ls hP hS hl
  subst hq
  exact lv_lrem hx hb hdg hne (kk r hr H locs ls hP hS hl)
theorem e_ineg (C : CX κ ω cc nL d own) {x : Int32} (hdg : decode cc pc = .ok (.ineg, 1))  (hq : pc + 1 = q) (kk : EE κ ω nL G X I q lv (.int (-x) :: st)) : EE κ ω nL G X I pc lv (.int x :: st) := by
  obtain ⟨p, l, e, R, s, m, args, below, meth, c, cells, slots⟩ := κ
  obtain ⟨hx, hb, hml, hown, hts, hK, hlk, hR, hSX, hB⟩ := C
  intro r hr H locs ls hP hS hl
  subst hq
  exact lv_ineg hx hb hdg  (kk r hr H locs ls hP hS hl)
theorem e_iushr (C : CX κ ω cc nL d own) {x y : Int32} (hdg : decode cc pc = .ok (.iushr, 1))  (hq : pc + 1 = q) (kk : EE κ ω nL G X I q lv (.int ((x.toUInt32 >>> (y.toUInt32 &&& Int32.toUInt32 31)).toInt32) :: st)) : EE κ ω nL G X I pc lv (.int y :: .int x :: st) := by
  obtain ⟨p, l, e, R, s, m, args, below, meth, c, cells, slots⟩ := κ
  obtain ⟨hx, hb, hml, hown, hts, hK, hlk, hR, hSX, hB⟩ := C
  intro r hr H locs ls hP hS hl
  subst hq
  exact lv_iushr hx hb hdg rfl (kk r hr H locs ls hP hS hl)
theorem e_i2b (C : CX κ ω cc nL d own) {x : Int32} (hdg : decode cc pc = .ok (.i2b, 1))  (hq : pc + 1 = q) (kk : EE κ ω nL G X I q lv (.int (x.toInt8.toInt32) :: st)) : EE κ ω nL G X I pc lv (.int x :: st) := by
  obtain ⟨p, l, e, R, s, m, args, below, meth, c, cells, slots⟩ := κ
  obtain ⟨hx, hb, hml, hown, hts, hK, hlk, hR, hSX, hB⟩ := C
  intro r hr H locs ls hP hS hl
  subst hq
  exact lv_i2b hx hb hdg rfl (kk r hr H locs ls hP hS hl)
theorem e_i2s (C : CX κ ω cc nL d own) {x : Int32} (hdg : decode cc pc = .ok (.i2s, 1))  (hq : pc + 1 = q) (kk : EE κ ω nL G X I q lv (.int (x.toInt16.toInt32) :: st)) : EE κ ω nL G X I pc lv (.int x :: st) := by
  obtain ⟨p, l, e, R, s, m, args, below, meth, c, cells, slots⟩ := κ
  obtain ⟨hx, hb, hml, hown, hts, hK, hlk, hR, hSX, hB⟩ := C
  intro r hr H locs ls hP hS hl
  subst hq
  exact lv_i2s hx hb hdg rfl (kk r hr H locs ls hP hS hl)
theorem e_i2l (C : CX κ ω cc nL d own) {x : Int32} (hdg : decode cc pc = .ok (.i2l, 1))  (hq : pc + 1 = q) (kk : EE κ ω nL G X I q lv (.long (x.toInt64) :: st)) : EE κ ω nL G X I pc lv (.int x :: st) := by
  obtain ⟨p, l, e, R, s, m, args, below, meth, c, cells, slots⟩ := κ
  obtain ⟨hx, hb, hml, hown, hts, hK, hlk, hR, hSX, hB⟩ := C
  intro r hr H locs ls hP hS hl
  subst hq
  exact lv_i2l hx hb hdg rfl (kk r hr H locs ls hP hS hl)
theorem e_l2i (C : CX κ ω cc nL d own) {x : Int64} (hdg : decode cc pc = .ok (.l2i, 1))  (hq : pc + 1 = q) (kk : EE κ ω nL G X I q lv (.int (x.toInt32) :: st)) : EE κ ω nL G X I pc lv (.long x :: st) := by
  obtain ⟨p, l, e, R, s, m, args, below, meth, c, cells, slots⟩ := κ
  obtain ⟨hx, hb, hml, hown, hts, hK, hlk, hR, hSX, hB⟩ := C
  intro r hr H locs ls hP hS hl
  subst hq
  exact lv_l2i hx hb hdg rfl (kk r hr H locs ls hP hS hl)
theorem e_lshl (C : CX κ ω cc nL d own) {x : Int64} {y : Int32} (hdg : decode cc pc = .ok (.lshl, 1))  (hq : pc + 1 = q) (kk : EE κ ω nL G X I q lv (.long (x <<< (y.toInt64 &&& 63)) :: st)) : EE κ ω nL G X I pc lv (.int y :: .long x :: st) := by
  obtain ⟨p, l, e, R, s, m, args, below, meth, c, cells, slots⟩ := κ
  obtain ⟨hx, hb, hml, hown, hts, hK, hlk, hR, hSX, hB⟩ := C
  intro r hr H locs ls hP hS hl
  subst hq
  exact lv_lshl hx hb hdg rfl (kk r hr H locs ls hP hS hl)
theorem e_lcmp (C : CX κ ω cc nL d own) {x y : Int64} (hdg : decode cc pc = .ok (.lcmp, 1))  (hq : pc + 1 = q) (kk : EE κ ω nL G X I q lv (.int (lg_cmp x y) :: st)) : EE κ ω nL G X I pc lv (.long y :: .long x :: st) := by
  obtain ⟨p, l, e, R, s, m, args, below, meth, c, cells, slots⟩ := κ
  obtain ⟨hx, hb, hml, hown, hts, hK, hlk, hR, hSX, hB⟩ := C
  intro r hr H locs ls hP hS hl
  subst hq
  exact W.lcmp hx hb hdg  (kk r hr H locs ls hP hS hl)
theorem e_dup (C : CX κ ω cc nL d own) {v : Value} (hdg : decode cc pc = .ok (.dup, 1)) (hv : v.category = 1) (hq : pc + 1 = q) (kk : EE κ ω nL G X I q lv (v :: v :: st)) : EE κ ω nL G X I pc lv (v :: st) := by
  obtain ⟨p, l, e, R, s, m, args, below, meth, c, cells, slots⟩ := κ
  obtain ⟨hx, hb, hml, hown, hts, hK, hlk, hR, hSX, hB⟩ := C
  intro r hr H locs ls hP hS hl
  subst hq
  exact lv_dup hx hb hdg hv (kk r hr H locs ls hP hS hl)
theorem e_dup2 (C : CX κ ω cc nL d own) {v w : Value} (hdg : decode cc pc = .ok (.dup2, 1)) (hv : v.category = 1) (hw : w.category = 1) (hq : pc + 1 = q) (kk : EE κ ω nL G X I q lv (v :: w :: v :: w :: st)) : EE κ ω nL G X I pc lv (v :: w :: st) := by
  obtain ⟨p, l, e, R, s, m, args, below, meth, c, cells, slots⟩ := κ
  obtain ⟨hx, hb, hml, hown, hts, hK, hlk, hR, hSX, hB⟩ := C
  intro r hr H locs ls hP hS hl
  subst hq
  exact lv_dup2_11 hx hb hdg hv hw (kk r hr H locs ls hP hS hl)
theorem e_pop (C : CX κ ω cc nL d own) {v : Value} (hdg : decode cc pc = .ok (.pop, 1)) (hv : v.category = 1) (hq : pc + 1 = q) (kk : EE κ ω nL G X I q lv (st)) : EE κ ω nL G X I pc lv (v :: st) := by
  obtain ⟨p, l, e, R, s, m, args, below, meth, c, cells, slots⟩ := κ
  obtain ⟨hx, hb, hml, hown, hts, hK, hlk, hR, hSX, hB⟩ := C
  intro r hr H locs ls hP hS hl
  subst hq
  exact lv_pop hx hb hdg hv (kk r hr H locs ls hP hS hl)
theorem e_ifeq (C : CX κ ω cc nL d own) {x : Int32} {off : Int} {tgt : Nat} (hdg : decode cc pc = .ok (.ifCond .eq off, 3)) (ht : (pc : Int) + off = (tgt : Int)) (hq : pc + 3 = q) (kt : EE κ ω nL G A I tgt lv st) (kf : EE κ ω nL G B I q lv st) : EE κ ω nL G (if x = 0 then A else B) I pc lv (.int x :: st) := by
  obtain ⟨p, l, e, R, s, m, args, below, meth, c, cells, slots⟩ := κ
  obtain ⟨hx, hb, hml, hown, hts, hK, hlk, hR, hSX, hB⟩ := C
  intro r hr H locs ls hP hS hl
  subst hq
  by_cases h : x = 0
  · rw [if_pos h] at hr
    exact lv_if_eq hx hb hdg ht (fun h2 => kt r hr H locs ls hP hS hl) (fun h2 => absurd h h2)
  · rw [if_neg h] at hr
    exact lv_if_eq hx hb hdg ht (fun h2 => absurd h2 h) (fun h2 => kf r hr H locs ls hP hS hl)
theorem e_ifne (C : CX κ ω cc nL d own) {x : Int32} {off : Int} {tgt : Nat} (hdg : decode cc pc = .ok (.ifCond .ne off, 3)) (ht : (pc : Int) + off = (tgt : Int)) (hq : pc + 3 = q) (kt : EE κ ω nL G B I tgt lv st) (kf : EE κ ω nL G A I q lv st) : EE κ ω nL G (if x = 0 then A else B) I pc lv (.int x :: st) := by
  obtain ⟨p, l, e, R, s, m, args, below, meth, c, cells, slots⟩ := κ
  obtain ⟨hx, hb, hml, hown, hts, hK, hlk, hR, hSX, hB⟩ := C
  intro r hr H locs ls hP hS hl
  subst hq
  by_cases h : x = 0
  · rw [if_pos h] at hr
    exact lv_if_ne hx hb hdg ht (fun h2 => absurd h h2) (fun h2 => kf r hr H locs ls hP hS hl)
  · rw [if_neg h] at hr
    exact lv_if_ne hx hb hdg ht (fun h2 => kt r hr H locs ls hP hS hl) (fun h2 => absurd h2 h)
theorem e_iflt (C : CX κ ω cc nL d own) {x : Int32} {off : Int} {tgt : Nat} (hdg : decode cc pc = .ok (.ifCond .lt off, 3)) (ht : (pc : Int) + off = (tgt : Int)) (hq : pc + 3 = q) (kt : EE κ ω nL G A I tgt lv st) (kf : EE κ ω nL G B I q lv st) : EE κ ω nL G (if x < 0 then A else B) I pc lv (.int x :: st) := by
  obtain ⟨p, l, e, R, s, m, args, below, meth, c, cells, slots⟩ := κ
  obtain ⟨hx, hb, hml, hown, hts, hK, hlk, hR, hSX, hB⟩ := C
  intro r hr H locs ls hP hS hl
  subst hq
  by_cases h : x < 0
  · rw [if_pos h] at hr
    exact lv_if_lt hx hb hdg ht (fun h2 => kt r hr H locs ls hP hS hl) (fun h2 => absurd h h2)
  · rw [if_neg h] at hr
    exact lv_if_lt hx hb hdg ht (fun h2 => absurd h2 h) (fun h2 => kf r hr H locs ls hP hS hl)
theorem e_ifge (C : CX κ ω cc nL d own) {x : Int32} {off : Int} {tgt : Nat} (hdg : decode cc pc = .ok (.ifCond .ge off, 3)) (ht : (pc : Int) + off = (tgt : Int)) (hq : pc + 3 = q) (kt : EE κ ω nL G A I tgt lv st) (kf : EE κ ω nL G B I q lv st) : EE κ ω nL G (if 0 ≤ x then A else B) I pc lv (.int x :: st) := by
  obtain ⟨p, l, e, R, s, m, args, below, meth, c, cells, slots⟩ := κ
  obtain ⟨hx, hb, hml, hown, hts, hK, hlk, hR, hSX, hB⟩ := C
  intro r hr H locs ls hP hS hl
  subst hq
  by_cases h : 0 ≤ x
  · rw [if_pos h] at hr
    exact lv_if_ge hx hb hdg ht (fun h2 => kt r hr H locs ls hP hS hl) (fun h2 => absurd h h2)
  · rw [if_neg h] at hr
    exact lv_if_ge hx hb hdg ht (fun h2 => absurd h2 h) (fun h2 => kf r hr H locs ls hP hS hl)
theorem e_ifgt (C : CX κ ω cc nL d own) {x : Int32} {off : Int} {tgt : Nat} (hdg : decode cc pc = .ok (.ifCond .gt off, 3)) (ht : (pc : Int) + off = (tgt : Int)) (hq : pc + 3 = q) (kt : EE κ ω nL G A I tgt lv st) (kf : EE κ ω nL G B I q lv st) : EE κ ω nL G (if 0 < x then A else B) I pc lv (.int x :: st) := by
  obtain ⟨p, l, e, R, s, m, args, below, meth, c, cells, slots⟩ := κ
  obtain ⟨hx, hb, hml, hown, hts, hK, hlk, hR, hSX, hB⟩ := C
  intro r hr H locs ls hP hS hl
  subst hq
  by_cases h : 0 < x
  · rw [if_pos h] at hr
    exact lv_if_gt hx hb hdg ht (fun h2 => kt r hr H locs ls hP hS hl) (fun h2 => absurd h h2)
  · rw [if_neg h] at hr
    exact lv_if_gt hx hb hdg ht (fun h2 => absurd h2 h) (fun h2 => kf r hr H locs ls hP hS hl)
theorem e_ifle (C : CX κ ω cc nL d own) {x : Int32} {off : Int} {tgt : Nat} (hdg : decode cc pc = .ok (.ifCond .le off, 3)) (ht : (pc : Int) + off = (tgt : Int)) (hq : pc + 3 = q) (kt : EE κ ω nL G A I tgt lv st) (kf : EE κ ω nL G B I q lv st) : EE κ ω nL G (if x ≤ 0 then A else B) I pc lv (.int x :: st) := by
  obtain ⟨p, l, e, R, s, m, args, below, meth, c, cells, slots⟩ := κ
  obtain ⟨hx, hb, hml, hown, hts, hK, hlk, hR, hSX, hB⟩ := C
  intro r hr H locs ls hP hS hl
  subst hq
  by_cases h : x ≤ 0
  · rw [if_pos h] at hr
    exact lv_if_le hx hb hdg ht (fun h2 => kt r hr H locs ls hP hS hl) (fun h2 => absurd h h2)
  · rw [if_neg h] at hr
    exact lv_if_le hx hb hdg ht (fun h2 => absurd h2 h) (fun h2 => kf r hr H locs ls hP hS hl)
theorem e_icmpeq (C : CX κ ω cc nL d own) {x y : Int32} {off : Int} {tgt : Nat} (hdg : decode cc pc = .ok (.if_icmp .eq off, 3)) (ht : (pc : Int) + off = (tgt : Int)) (hq : pc + 3 = q) (kt : EE κ ω nL G A I tgt lv st) (kf : EE κ ω nL G B I q lv st) : EE κ ω nL G (if x = y then A else B) I pc lv (.int y :: .int x :: st) := by
  obtain ⟨p, l, e, R, s, m, args, below, meth, c, cells, slots⟩ := κ
  obtain ⟨hx, hb, hml, hown, hts, hK, hlk, hR, hSX, hB⟩ := C
  intro r hr H locs ls hP hS hl
  subst hq
  by_cases h : x = y
  · rw [if_pos h] at hr
    exact lv_icmp_eq hx hb hdg ht (fun h2 => kt r hr H locs ls hP hS hl) (fun h2 => absurd h h2)
  · rw [if_neg h] at hr
    exact lv_icmp_eq hx hb hdg ht (fun h2 => absurd h2 h) (fun h2 => kf r hr H locs ls hP hS hl)
theorem e_icmpne (C : CX κ ω cc nL d own) {x y : Int32} {off : Int} {tgt : Nat} (hdg : decode cc pc = .ok (.if_icmp .ne off, 3)) (ht : (pc : Int) + off = (tgt : Int)) (hq : pc + 3 = q) (kt : EE κ ω nL G B I tgt lv st) (kf : EE κ ω nL G A I q lv st) : EE κ ω nL G (if x = y then A else B) I pc lv (.int y :: .int x :: st) := by
  obtain ⟨p, l, e, R, s, m, args, below, meth, c, cells, slots⟩ := κ
  obtain ⟨hx, hb, hml, hown, hts, hK, hlk, hR, hSX, hB⟩ := C
  intro r hr H locs ls hP hS hl
  subst hq
  by_cases h : x = y
  · rw [if_pos h] at hr
    exact lv_icmp_ne hx hb hdg ht (fun h2 => absurd h h2) (fun h2 => kf r hr H locs ls hP hS hl)
  · rw [if_neg h] at hr
    exact lv_icmp_ne hx hb hdg ht (fun h2 => kt r hr H locs ls hP hS hl) (fun h2 => absurd h2 h)
theorem e_icmplt (C : CX κ ω cc nL d own) {x y : Int32} {off : Int} {tgt : Nat} (hdg : decode cc pc = .ok (.if_icmp .lt off, 3)) (ht : (pc : Int) + off = (tgt : Int)) (hq : pc + 3 = q) (kt : EE κ ω nL G A I tgt lv st) (kf : EE κ ω nL G B I q lv st) : EE κ ω nL G (if x < y then A else B) I pc lv (.int y :: .int x :: st) := by
  obtain ⟨p, l, e, R, s, m, args, below, meth, c, cells, slots⟩ := κ
  obtain ⟨hx, hb, hml, hown, hts, hK, hlk, hR, hSX, hB⟩ := C
  intro r hr H locs ls hP hS hl
  subst hq
  by_cases h : x < y
  · rw [if_pos h] at hr
    exact lv_icmp_lt hx hb hdg ht (fun h2 => kt r hr H locs ls hP hS hl) (fun h2 => absurd h h2)
  · rw [if_neg h] at hr
    exact lv_icmp_lt hx hb hdg ht (fun h2 => absurd h2 h) (fun h2 => kf r hr H locs ls hP hS hl)
theorem e_icmpge (C : CX κ ω cc nL d own) {x y : Int32} {off : Int} {tgt : Nat} (hdg : decode cc pc = .ok (.if_icmp .ge off, 3)) (ht : (pc : Int) + off = (tgt : Int)) (hq : pc + 3 = q) (kt : EE κ ω nL G A I tgt lv st) (kf : EE κ ω nL G B I q lv st) : EE κ ω nL G (if y ≤ x then A else B) I pc lv (.int y :: .int x :: st) := by
  obtain ⟨p, l, e, R, s, m, args, below, meth, c, cells, slots⟩ := κ
  obtain ⟨hx, hb, hml, hown, hts, hK, hlk, hR, hSX, hB⟩ := C
  intro r hr H locs ls hP hS hl
  subst hq
  by_cases h : y ≤ x
  · rw [if_pos h] at hr
    exact lv_icmp_ge hx hb hdg ht (fun h2 => kt r hr H locs ls hP hS hl) (fun h2 => absurd h h2)
  · rw [if_neg h] at hr
    exact lv_icmp_ge hx hb hdg ht (fun h2 => absurd h2 h) (fun h2 => kf r hr H locs ls hP hS hl)
theorem e_icmpgt (C : CX κ ω cc nL d own) {x y : Int32} {off : Int} {tgt : Nat} (hdg : decode cc pc = .ok (.if_icmp .gt off, 3)) (ht : (pc : Int) + off = (tgt : Int)) (hq : pc + 3 = q) (kt : EE κ ω nL G A I tgt lv st) (kf : EE κ ω nL G B I q lv st) : EE κ ω nL G (if y < x then A else B) I pc lv (.int y :: .int x :: st) := by
  obtain ⟨p, l, e, R, s, m, args, below, meth, c, cells, slots⟩ := κ
  obtain ⟨hx, hb, hml, hown, hts, hK, hlk, hR, hSX, hB⟩ := C
  intro r hr H locs ls hP hS hl
  subst hq
  by_cases h : y < x
  · rw [if_pos h] at hr
    exact lv_icmp_gt hx hb hdg ht (fun h2 => kt r hr H locs ls hP hS hl) (fun h2 => absurd h h2)
  · rw [if_neg h] at hr
    exact lv_icmp_gt hx hb hdg ht (fun h2 => absurd h2 h) (fun h2 => kf r hr H locs ls hP hS hl)
theorem e_icmple (C : CX κ ω cc nL d own) {x y : Int32} {off : Int} {tgt : Nat} (hdg : decode cc pc = .ok (.if_icmp .le off, 3)) (ht : (pc : Int) + off = (tgt : Int)) (hq : pc + 3 = q) (kt : EE κ ω nL G A I tgt lv st) (kf : EE κ ω nL G B I q lv st) : EE κ ω nL G (if x ≤ y then A else B) I pc lv (.int y :: .int x :: st) := by
  obtain ⟨p, l, e, R, s, m, args, below, meth, c, cells, slots⟩ := κ
  obtain ⟨hx, hb, hml, hown, hts, hK, hlk, hR, hSX, hB⟩ := C
  intro r hr H locs ls hP hS hl
  subst hq
  by_cases h : x ≤ y
  · rw [if_pos h] at hr
    exact lv_icmp_le hx hb hdg ht (fun h2 => kt r hr H locs ls hP hS hl) (fun h2 => absurd h h2)
  · rw [if_neg h] at hr
    exact lv_icmp_le hx hb hdg ht (fun h2 => absurd h2 h) (fun h2 => kf r hr H locs ls hP hS hl)
theorem e_goto (C : CX κ ω cc nL d own) {off : Int} {tgt : Nat} (hdg : decode cc pc = .ok (.goto off, 3)) (ht : (pc : Int) + off = (tgt : Int)) (kk : EE κ ω nL G X I tgt lv st) : EE κ ω nL G X I pc lv st := by
  obtain ⟨p, l, e, R, s, m, args, below, meth, c, cells, slots⟩ := κ
  obtain ⟨hx, hb, hml, hown, hts, hK, hlk, hR, hSX, hB⟩ := C
  intro r hr H locs ls hP hS hl
  exact lv_goto hx hb hdg ht (kk r hr H locs ls hP hS hl)
theorem e_ifnull (C : CX κ ω cc nL d own) {x : Nat} {off : Int} (hdg : decode cc pc = .ok (.ifnull off, 3)) (hq : pc + 3 = q) (kk : EE κ ω nL G X I q lv st) : EE κ ω nL G X I pc lv (.ref x :: st) := by
  obtain ⟨p, l, e, R, s, m, args, below, meth, c, cells, slots⟩ := κ
  obtain ⟨hx, hb, hml, hown, hts, hK, hlk, hR, hSX, hB⟩ := C
  intro r hr H locs ls hP hS hl
  subst hq
  exact lv_ifnull hx hb hdg (kk r hr H locs ls hP hS hl)
theorem e_ifnullN (C : CX κ ω cc nL d own) {off : Int} {tgt : Nat} (hdg : decode cc pc = .ok (.ifnull off, 3)) (ht : (pc : Int) + off = (tgt : Int)) (kk : EE κ ω nL G X I tgt lv st) : EE κ ω nL G X I pc lv (.null :: st) := by
  obtain ⟨p, l, e, R, s, m, args, below, meth, c, cells, slots⟩ := κ
  obtain ⟨hx, hb, hml, hown, hts, hK, hlk, hR, hSX, hB⟩ := C
  intro r hr H locs ls hP hS hl
  exact lv_ifnullN hx hb hdg ht (kk r hr H locs ls hP hS hl)
theorem e_if {P : Prop} [Decidable P] (kt : P → EE κ ω nL G A I pc lv st) (kf : ¬ P → EE κ ω nL G B I pc lv st) : EE κ ω nL G (if P then A else B) I pc lv st := by
  intro r hr
  by_cases h : P
  · rw [if_pos h] at hr
    exact kt h r hr
  · rw [if_neg h] at hr
    exact kf h r hr
theorem e_none : EE κ ω nL G none I pc lv st := fun _ hr => nomatch hr
theorem e_grd {P : Prop} [Decidable P] (kt : P → EE κ ω nL G A I pc lv st) : EE κ ω nL G (if P then A else none) I pc lv st := e_if kt (fun _ => e_none)
theorem e_grdn {P : Prop} [Decidable P] (kf : ¬ P → EE κ ω nL G A I pc lv st) : EE κ ω nL G (if P then none else A) I pc lv st := e_if (fun _ => e_none) kf
theorem e_eq (h : X = A) (k : EE κ ω nL G A I pc lv st) : EE κ ω nL G X I pc lv st := h ▸ k

theorem e_lv {lv1 : List (Nat × Value)} (ks : List Nat) (hv : lv_pick lv ks = lv1) (kk : EE κ ω nL G X I pc lv1 st) : EE κ ω nL G X I pc lv st := by
  obtain ⟨p, l, e, R, s, m, args, below, meth, c, cells, slots⟩ := κ
  intro r hr H locs ls hP hS hl
  exact kk r hr H locs ls hP hS (lv_sub hl ks hv)
def inb (i : Int32) (n : Nat) : Bool := decide (0 ≤ i.toInt ∧ i.toInt < n)
theorem inb_iff {i : Int32} {n : Nat} : inb i n = true ↔ vp_in i n := by rw [vp_in_iff, inb, decide_eq_true_iff]
theorem e_tabIn (C : CX κ ω cc nL d own) {dflt lo hi : Int} {offs : Array Int} {len : Nat} {x : Int32} {v off : Int} {tgt : Nat} (hdg : decode cc pc = .ok (.tableswitch dflt lo hi offs, len)) (hv : x.toInt = v) (h1 : lo ≤ v ∧ v ≤ hi) (ho : offs[(v - lo).toNat]? = some off) (ht : (pc : Int) + off = (tgt : Int)) (kk : EE κ ω nL G X I tgt lv st) : EE κ ω nL G X I pc lv (.int x :: st) := by
  obtain ⟨p, l, e, R, s, m, args, below, meth, c, cells, slots⟩ := κ
  obtain ⟨hx, hb, hml, hown, hts, hK, hlk, hR, hSX, hB⟩ := C
  intro r hr H locs ls hP hS hl
  subst hv
  exact lv_tableIn hx hb hdg (by omega) (by omega) ho ht (kk r hr H locs ls hP hS hl)
theorem e_tabOut (C : CX κ ω cc nL d own) {dflt lo hi : Int} {offs : Array Int} {len : Nat} {x : Int32} {tgt : Nat} (hdg : decode cc pc = .ok (.tableswitch dflt lo hi offs, len)) (h : x.toInt < lo ∨ hi < x.toInt) (ht : (pc : Int) + dflt = (tgt : Int)) (kk : EE κ ω nL G X I tgt lv st) : EE κ ω nL G X I pc lv (.int x :: st) := by
  obtain ⟨p, l, e, R, s, m, args, below, meth, c, cells, slots⟩ := κ
  obtain ⟨hx, hb, hml, hown, hts, hK, hlk, hR, hSX, hB⟩ := C
  intro r hr H locs ls hP hS hl
  exact lv_tableOut hx hb hdg h ht (kk r hr H locs ls hP hS hl)
theorem i32_ne {x y : Int32} (h : ¬ x = y) : x.toInt ≠ y.toInt := fun h2 => h (Int32.toInt_inj.mp h2)
theorem e_getf (C : CX κ ω cc nL d own) {ix ci N j k : Nat} {Cn : String} {T : u_T} {fs : List Value} {v : Value} (hdg : decode cc pc = .ok (.getfield ix, 3)) (hk : k < oN ω) (he : cellK ω k (I k) = .inr (ci, fs)) (hc : vwCl[ci]? = some (Cn, T, N)) (hj : j < N) (hin : ∀ w ∈ u_ws Cn T N, w ∈ TT) (hw : Cond.fieldLink own ix (T j).1 (T j).2.1 (T j).2.2.1 ∈ TT) (hv : fs[j]? = some v) (hq : pc + 3 = q) (kk : EE κ ω nL G X I q lv (v :: st)) : EE κ ω nL G X I pc lv (.ref (oA ω k) :: st) := by
  obtain ⟨p, l, e, R, s, m, args, below, meth, c, cells, slots⟩ := κ
  obtain ⟨hx, hb, hml, hown, hts, hK, hlk, hR, hSX, hB⟩ := C
  intro r hr H locs ls hP hS hl
  subst hq
  exact va_get (D := oD ω) hx hb hts hin hown hK hP.1 k ((WL_get hk).trans (congrArg (fun z => some (oA ω k, z)) he)) hc j hj (hts _ hw) (fun _ h => h) hv hdg (kk r hr H locs ls hP hS hl)
theorem e_putf (C : CX κ ω cc nL d own) {ix ci N j k : Nat} {x : Int32} {Cn : String} {T : u_T} {ty0 : Nat → FieldType} {fs : List Value} (hdg : decode cc pc = .ok (.putfield ix, 3)) (hk : k < oN ω) (he : cellK ω k (I k) = .inr (ci, fs)) (hc : vwCl[ci]? = some (Cn, T, N)) (hj : j < N) (hin : ∀ w ∈ u_ws Cn T N, w ∈ TT) (hw : Cond.fieldLink own ix (T j).1 (T j).2.1 (T j).2.2.1 ∈ TT) (hty : ∀ k, k < N → parseFieldDescriptor (T k).2.2.1 = some (ty0 k)) (hnm : ∀ a, a < N → ∀ b, b < N → a ≠ b → (T a).2.1 ≠ (T b).2.1) (hfin : (T j).2.2.2 = false) (hn : narrow (ty0 j) (.int x) = .int x) (hfit : fits (ty0 j) (.int x) = true) (hl0 : j < fs.length) (hset : Sum.inr (ci, fs.set j (.int x)) = cellK ω k (upd (I k) j x)) (hq : pc + 3 = q) (kk : EE κ ω nL G X (wr I k j x) q lv st) : EE κ ω nL G X I pc lv (.int x :: .ref (oA ω k) :: st) := by
  obtain ⟨p, l, e, R, s, m, args, below, meth, c, cells, slots⟩ := κ
  obtain ⟨hx, hb, hml, hown, hts, hK, hlk, hR, hSX, hB⟩ := C
  intro r hr H locs ls hP hS hl
  subst hq
  refine va_put (D := oD ω) hx hb hts hin ty0 hty hnm hown hK hP.1 hP.2 hS k ((WL_get hk).trans (congrArg (fun z => some (oA ω k, z)) he)) hc j hj (hts _ hw) (fun _ h => h) hfin (hty j hj) hn hfit hl0 hdg (fun H1 locs1 hP1 hD1 hS1 => ?_)
  rw [WL_set hset] at hP1 hD1
  exact kk r hr H1 locs1 ls ⟨hP1, hD1⟩ hS1 hl
theorem e_putr (C : CX κ ω cc nL d own) {ix ci N j k : Nat} {x : Int32} {a : Nat} {Cn : String} {T : u_T} {ty0 : Nat → FieldType} {fs : List Value} (hdg : decode cc pc = .ok (.putfield ix, 3)) (hk : k < oN ω) (he : cellK ω k (I k) = .inr (ci, fs)) (hc : vwCl[ci]? = some (Cn, T, N)) (hj : j < N) (hin : ∀ w ∈ u_ws Cn T N, w ∈ TT) (hw : Cond.fieldLink own ix (T j).1 (T j).2.1 (T j).2.2.1 ∈ TT) (hty : ∀ k, k < N → parseFieldDescriptor (T k).2.2.1 = some (ty0 k)) (hnm : ∀ a, a < N → ∀ b, b < N → a ≠ b → (T a).2.1 ≠ (T b).2.1) (hfin : (T j).2.2.2 = false) (hn : narrow (ty0 j) (.ref a) = .ref a) (hfit : fits (ty0 j) (.ref a) = true) (hl0 : j < fs.length) (hset : Sum.inr (ci, fs.set j (.ref a)) = cellK ω k (upd (I k) j x)) (hq : pc + 3 = q) (kk : EE κ ω nL G X (wr I k j x) q lv st) : EE κ ω nL G X I pc lv (.ref a :: .ref (oA ω k) :: st) := by
  obtain ⟨p, l, e, R, s, m, args, below, meth, c, cells, slots⟩ := κ
  obtain ⟨hx, hb, hml, hown, hts, hK, hlk, hR, hSX, hB⟩ := C
  intro r hr H locs ls hP hS hl
  subst hq
  refine va_put (D := oD ω) hx hb hts hin ty0 hty hnm hown hK hP.1 hP.2 hS k ((WL_get hk).trans (congrArg (fun z => some (oA ω k, z)) he)) hc j hj (hts _ hw) (fun _ h => h) hfin (hty j hj) hn hfit hl0 hdg (fun H1 locs1 hP1 hD1 hS1 => ?_)
  rw [WL_set hset] at hP1 hD1
  exact kk r hr H1 locs1 ls ⟨hP1, hD1⟩ hS1 hl
theorem e_iald (C : CX κ ω cc nL d own) {k n : Nat} {i : Int32} (hdg : decode cc pc = .ok (.iaload, 1)) (hk : k < oN ω) (he : cellK ω k (I k) = .inl (oI ω, n, .inl (I k))) (hq : pc + 1 = q) (kk : EE κ ω nL G X I q lv (.int (I k i.toNatClampNeg) :: st)) : EE κ ω nL G (if inb i n = true then X else none) I pc lv (.int i :: .ref (oA ω k) :: st) := by
  refine e_grd (fun hi => ?_)
  obtain ⟨p, l, e, R, s, m, args, below, meth, c, cells, slots⟩ := κ
  obtain ⟨hx, hb, hml, hown, hts, hK, hlk, hR, hSX, hB⟩ := C
  intro r hr H locs ls hP hS hl
  subst hq
  exact va_iald hx hb hK hP.1 k 0 ((WL_get hk).trans (congrArg (fun z => some (oA ω k, z)) he)) rfl (inb_iff.mp hi) hdg (kk r hr H locs ls hP hS hl)
theorem e_iast (C : CX κ ω cc nL d own) {k n : Nat} {i x : Int32} (hdg : decode cc pc = .ok (.iastore, 1)) (hk : k < oN ω) (he : ∀ f, cellK ω k f = .inl (oI ω, n, .inl f)) (hq : pc + 1 = q) (kk : EE κ ω nL G X (wr I k i.toNatClampNeg x) q lv st) : EE κ ω nL G (if inb i n = true then X else none) I pc lv (.int x :: .int i :: .ref (oA ω k) :: st) := by
  refine e_grd (fun hi => ?_)
  obtain ⟨p, l, e, R, s, m, args, below, meth, c, cells, slots⟩ := κ
  obtain ⟨hx, hb, hml, hown, hts, hK, hlk, hR, hSX, hB⟩ := C
  intro r hr H locs ls hP hS hl
  subst hq
  refine va_iast hx hb hK hP.1 hP.2 hS k 0 ((WL_get hk).trans (congrArg (fun z => some (oA ω k, z)) (he _))) rfl (inb_iff.mp hi) hdg (fun H1 locs1 hP1 hD1 hS1 => ?_)
  rw [WL_set (he _).symm] at hP1 hD1
  exact kk r hr H1 locs1 ls ⟨hP1, hD1⟩ hS1 hl
theorem e_alen (C : CX κ ω cc nL d own) {k n : Nat} {f : Nat → Int32} {v : Int32} (hdg : decode cc pc = .ok (.arraylength, 1)) (hk : k < oN ω) (he : cellK ω k (I k) = .inl (oI ω, n, .inl f)) (hv : Int32.ofNat n = v) (hq : pc + 1 = q) (kk : EE κ ω nL G X I q lv (.int v :: st)) : EE κ ω nL G X I pc lv (.ref (oA ω k) :: st) := by
  obtain ⟨p, l, e, R, s, m, args, below, meth, c, cells, slots⟩ := κ
  obtain ⟨hx, hb, hml, hown, hts, hK, hlk, hR, hSX, hB⟩ := C
  intro r hr H locs ls hP hS hl
  subst hq
  exact va_alen hx hb hK hP.1 k 0 ((WL_get hk).trans (congrArg (fun z => some (oA ω k, z)) he)) (ty := .int) rfl hv hdg (kk r hr H locs ls hP hS hl)
theorem e_aldT (C : CX κ ω cc nL d own) {i : Int32} (hN : 56 ≤ oN ω) (hdg : decode cc pc = .ok (.aaload, 1)) (hq : pc + 1 = q) (kk : EE κ ω nL G X I q lv (.ref (oA ω (30 + 3 * i.toNatClampNeg)) :: st)) : EE κ ω nL G (if inb i 6 = true then X else none) I pc lv (.int i :: .ref (oA ω 1) :: st) := by
  refine e_grd (fun hi => ?_)
  obtain ⟨p, l, e, R, s, m, args, below, meth, c, cells, slots⟩ := κ
  obtain ⟨hx, hb, hml, hown, hts, hK, hlk, hR, hSX, hB⟩ := C
  intro r hr H locs ls hP hS hl
  subst hq
  exact va_aldq (f := fun i => some (oA ω (30 + 3 * i))) hx hb hK hP.1 1 2 ((WL_get (by omega)).trans rfl) rfl (inb_iff.mp hi) hdg (kk r hr H locs ls hP hS hl)
theorem e_aldS (C : CX κ ω cc nL d own) {i : Int32} (hN : 56 ≤ oN ω) (hdg : decode cc pc = .ok (.aaload, 1)) (hq : pc + 1 = q) (kk : EE κ ω nL G X I q lv (.ref (oA ω (48 + 2 * i.toNatClampNeg)) :: st)) : EE κ ω nL G (if inb i 4 = true then X else none) I pc lv (.int i :: .ref (oA ω 28) :: st) := by
  refine e_grd (fun hi => ?_)
  obtain ⟨p, l, e, R, s, m, args, below, meth, c, cells, slots⟩ := κ
  obtain ⟨hx, hb, hml, hown, hts, hK, hlk, hR, hSX, hB⟩ := C
  intro r hr H locs ls hP hS hl
  subst hq
  exact va_aldq (f := fun i => some (oA ω (48 + 2 * i))) hx hb hK hP.1 28 1 ((WL_get (by omega)).trans rfl) rfl (inb_iff.mp hi) hdg (kk r hr H locs ls hP hS hl)
theorem e_ireturn (C : CX κ ω cc nL d own) {v : Int32} {ty : FieldType} (hdg : decode cc pc = .ok (.ireturn, 1)) (hret : κ.2.2.2.2.2.2.2.2.1.sig.returnType = some ty) (hn : narrow ty (.int v) = .int v) : EE κ ω nL (Gi κ ω) (some (v, I)) I pc lv [.int v] := by
  obtain ⟨p, l, e, R, s, m, args, below, meth, c, cells, slots⟩ := κ
  obtain ⟨hx, hb, hml, hown, hts, hK, hlk, hR, hSX, hB⟩ := C
  intro r hr H locs ls hP hS hl
  cases hr
  exact W.zret hx hb hret hn (fun t ht hW => ⟨⟨v, (), rfl, rfl, show HP ω I t.heap by rw [ht]; exact hP⟩, hS.F ht⟩) hS.2.2 hdg hlk
theorem e_ireturn_t (C : CX κ ω cc nL d own) {v : Int32} {ty : FieldType} (hdg : decode cc pc = .ok (.ireturn, 1)) (hret : κ.2.2.2.2.2.2.2.2.1.sig.returnType = some ty) (hn0 : narrow ty (.int 0) = .int 0) (hn1 : narrow ty (.int 1) = .int 1) : EE κ ω nL (Gi κ ω) (if v = 0 then some (v, I) else if v = 1 then some (v, I) else none) I pc lv [.int v] := by
  refine e_if (fun h => ?_) (fun _ => e_grd (fun h => ?_))
  · exact e_ireturn C hdg hret (by rw [h]; exact hn0)
  · exact e_ireturn C hdg hret (by rw [h]; exact hn1)
theorem e_lreturn (C : CX κ ω cc nL d own) {v : Int64} (hdg : decode cc pc = .ok (.lreturn, 1)) (hret : κ.2.2.2.2.2.2.2.2.1.sig.returnType = some .long) : EE κ ω nL (Gl κ ω) (some (v, I)) I pc lv [.long v] := by
  obtain ⟨p, l, e, R, s, m, args, below, meth, c, cells, slots⟩ := κ
  obtain ⟨hx, hb, hml, hown, hts, hK, hlk, hR, hSX, hB⟩ := C
  intro r hr H locs ls hP hS hl
  cases hr
  exact W.lret hx hb hret (fun t ht hW => ⟨⟨v, (), rfl, rfl, show HP ω I t.heap by rw [ht]; exact hP⟩, hS.F ht⟩) hS.2.2 hdg hlk
theorem e_vreturn (C : CX κ ω cc nL d own) (hdg : decode cc pc = .ok (.return_, 1)) (hret : κ.2.2.2.2.2.2.2.2.1.sig.returnType = none) : EE κ ω nL (Gv κ ω) (some ((), I)) I pc lv [] := by
  obtain ⟨p, l, e, R, s, m, args, below, meth, c, cells, slots⟩ := κ
  obtain ⟨hx, hb, hml, hown, hts, hK, hlk, hR, hSX, hB⟩ := C
  intro r hr H locs ls hP hS hl
  cases hr
  exact W.vret hx hb hret (fun t ht hW => ⟨⟨(), rfl, trivial, show HP ω I t.heap by rw [ht]; exact hP⟩, hS.F ht⟩) hS.2.2 hdg hlk
theorem e_areturn (C : CX κ ω cc nL d own) {v : Option Nat} {w : Value} {ty : FieldType} (hdg : decode cc pc = .ok (.areturn, 1)) (hret : κ.2.2.2.2.2.2.2.2.1.sig.returnType = some (.array ty)) (hw : w = va_rf (v.map (oA ω))) : EE κ ω nL (Gq κ ω) (some (v, I)) I pc lv [w] := by
  obtain ⟨p, l, e, R, s, m, args, below, meth, c, cells, slots⟩ := κ
  obtain ⟨hx, hb, hml, hown, hts, hK, hlk, hR, hSX, hB⟩ := C
  intro r hr H locs ls hP hS hl
  cases hr
  subst hw
  exact W.aret hx hb hret (Or.inr ⟨_, rfl⟩) (va_rf_or _) (fun t ht hW => ⟨⟨v.map (oA ω), (), rfl, rfl, show HP ω I t.heap by rw [ht]; exact hP⟩, hS.F ht⟩) hS.2.2 hdg hlk
theorem in_ws0 {y : MethodName} {b : ByteArray} {maxL : Nat} {ret : Option FieldType} (h4 : Cond.code y b maxL ret ∈ TT) : ∀ w ∈ Cond.code y b maxL ret :: TT, w ∈ TT := by
  intro w h
  rcases List.mem_cons.mp h with rfl | h
  · exact h4
  · exact h
theorem in_wsS {own : String} {ix : Nat} {y : MethodName} {b : ByteArray} {maxL : Nat} {ret : Option FieldType} (h1 : Cond.methodLink own ix y ∈ TT) (h2 : Cond.static y ∈ TT) (h3 : Cond.initialized y.cls ∈ TT) (h4 : Cond.code y b maxL ret ∈ TT) : ∀ w ∈ va_wsS own ix y (Cond.code y b maxL ret :: TT), w ∈ TT := by
  intro w h
  rcases List.mem_append.mp h with h | h
  · simp only [List.mem_cons, List.not_mem_nil, or_false] at h
    rcases h with rfl | rfl | rfl <;> assumption
  · exact in_ws0 h4 w h
theorem in_wsV {own : String} {ix : Nat} {C : String} {y : MethodName} {b : ByteArray} {maxL : Nat} {ret : Option FieldType} (h1 : Cond.methodLink own ix y ∈ TT) (h2 : Cond.instanceMethod y ∈ TT) (h5 : Cond.selects C y y ∈ TT) (h3 : Cond.initialized C ∈ TT) (h4 : Cond.code y b maxL ret ∈ TT) : ∀ w ∈ wsV own ix C y (Cond.code y b maxL ret :: TT), w ∈ TT := by
  intro w h
  rcases List.mem_append.mp h with h | h
  · simp only [List.mem_cons, List.not_mem_nil, or_false] at h
    rcases h with rfl | rfl | rfl | rfl <;> assumption
  · exact in_ws0 h4 w h
theorem e_callSi (C : CX κ ω cc nL d own) {l : Launch} {y : MethodName} {b : ByteArray} {maxL d' ix : Nat} {ret : Option FieldType} {av sin : List Value} {x : Option (Int32 × Mem)} {f : Int32 → Mem → Option (α × Mem)} (hlau : κ.2.1 = l) (hC : CTi l ω y b maxL ret d' av x I) (hdg : decode cc pc = .ok (.invokestatic ix, 3)) (hw1 : Cond.methodLink own ix y ∈ TT) (hw2 : Cond.static y ∈ TT) (hw3 : Cond.initialized y.cls ∈ TT) (hw4 : Cond.code y b maxL ret ∈ TT) (hdsc : y.cls ≠ "java/lang/invoke/MethodHandle" ∧ y.cls ≠ "java/lang/invoke/VarHandle" ∧ (parseMethodDescriptor y.desc).map (fun d => d.parameters.length) = some av.length) (hd : d' < d) (hmx : maxL ≤ 45) (hst : av.reverse ++ st = sin) (hroom : (st.map fun v => v.category).sum ≤ 8) (hq : pc + 3 = q) (kk : ∀ (v : Int32) (J : Mem), EE κ ω nL G (f v J) J q lv (.int v :: st)) : EE κ ω nL G (bnd x f) I pc lv sin := by
  obtain ⟨p, l, e, R, s, m, args, below, meth, c, cells, slots⟩ := κ
  obtain ⟨hx, hb, hml, hown, hts, hK, hlk, hR, hSX, hB⟩ := C
  intro r hr
  subst hst
  subst hq
  dsimp only at hlau
  subst hlau
  obtain ⟨hR1, hR2, hR3, hR4⟩ := hR
  obtain ⟨z, hz, hr⟩ := Option.bind_eq_some_iff.mp hr
  intro H locs ls hP hS hl
  refine va_calli (va_runS (As := av) (rest := st) ⟨hx, hb, hml, hown, hts⟩ (hC z hz) (va_cwS av.length hts (TT_good (in_wsS hw1 hw2 hw3 hw4) (fun w h => h)) rfl rfl rfl hdsc ⟨by show d' + 1 ≤ R.frames; omega, by show 8 + (maxL + 11) + 64 * d' ≤ R.locals; omega⟩) ⟨WD.blind, fun U hU hW => ⟨rfl, by rw [hU]; exact hP, va_K.moved hW.alike hK, by rw [hU]; exact SX.go hW hS hSX, by rw [hU]; exact Nat.le_trans hB hS.1⟩⟩ rfl rfl hl.1 rfl (lv_room hroom) hdg ⟨hR3, hR4⟩) hS (fun q _ h => h) (fun q h => h) (fun u1 u t H1 locs1 ht hvm hw hB hz1 hk1 hS1 => ?_)
  obtain ⟨v, J⟩ := z
  subst ht
  cases hw
  exact kk v J r hr t.heap locs1 ls hB hS1 hl
theorem e_callVi (C : CX κ ω cc nL d own) {k ci N : Nat} {T : u_T} {fs : List Value} {l : Launch} {y : MethodName} {b : ByteArray} {maxL d' ix : Nat} {ret : Option FieldType} {av sin : List Value} {x : Option (Int32 × Mem)} {f : Int32 → Mem → Option (α × Mem)} (hlau : κ.2.1 = l) (hC : CTi l ω y b maxL ret d' (.ref (oA ω k) :: av) x I) (hdg : decode cc pc = .ok (.invokevirtual ix, 3)) (hw1 : Cond.methodLink own ix y ∈ TT) (hw2 : Cond.instanceMethod y ∈ TT) (hw5 : Cond.selects y.cls y y ∈ TT) (hw3 : Cond.initialized y.cls ∈ TT) (hw4 : Cond.code y b maxL ret ∈ TT) (hdsc : y.cls ≠ "java/lang/invoke/MethodHandle" ∧ y.cls ≠ "java/lang/invoke/VarHandle" ∧ (parseMethodDescriptor y.desc).map (fun d => d.parameters.length) = some av.length) (hd : d' < d) (hmx : maxL ≤ 45) (hst : av.reverse ++ .ref (oA ω k) :: st = sin) (hkN : k < oN ω) (he : cellK ω k (I k) = .inr (ci, fs)) (hc : vwCl[ci]? = some (y.cls, T, N)) (hroom : (st.map fun v => v.category).sum ≤ 8) (hq : pc + 3 = q) (kk : ∀ (v : Int32) (J : Mem), EE κ ω nL G (f v J) J q lv (.int v :: st)) : EE κ ω nL G (bnd x f) I pc lv sin := by
  obtain ⟨p, l, e, R, s, m, args, below, meth, c, cells, slots⟩ := κ
  obtain ⟨hx, hb, hml, hown, hts, hK, hlk, hR, hSX, hB⟩ := C
  intro r hr
  subst hst
  subst hq
  dsimp only at hlau
  subst hlau
  obtain ⟨hR1, hR2, hR3, hR4⟩ := hR
  obtain ⟨z, hz, hr⟩ := Option.bind_eq_some_iff.mp hr
  intro H locs ls hP hS hl
  refine va_calli (va_runV (C := y.cls) (As := av) (rest := st) ⟨hx, hb, hml, hown, hts⟩ (hC z hz) (cwV av.length hts (TT_good (in_wsV hw1 hw2 hw5 hw3 hw4) (fun w h => h)) rfl rfl rfl ⟨rfl, hdsc⟩ ⟨by show d' + 1 ≤ R.frames; omega, by show 8 + (maxL + 11) + 64 * d' ≤ R.locals; omega⟩) ⟨WD.blind, va_recv hK hP.1 hc ((WL_get hkN).trans (congrArg (fun z => some (oA ω k, z)) he)), fun U hU hW => ⟨rfl, by rw [hU]; exact hP, va_K.moved hW.alike hK, by rw [hU]; exact SX.go hW hS hSX, by rw [hU]; exact Nat.le_trans hB hS.1⟩⟩ rfl rfl hl.1 rfl (lv_room hroom) hdg ⟨hR3, hR4⟩) hS (fun q _ h => h) (fun q h => h) (fun u1 u t H1 locs1 ht hvm hw hB hz1 hk1 hS1 => ?_)
  obtain ⟨v, J⟩ := z
  subst ht
  cases hw
  exact kk v J r hr t.heap locs1 ls hB hS1 hl
theorem e_callNi (C : CX κ ω cc nL d own) {l : Launch} {y : MethodName} {b : ByteArray} {maxL d' ix : Nat} {ret : Option FieldType} {av sin : List Value} {x : Option (Int32 × Mem)} {f : Int32 → Mem → Option (α × Mem)} (hlau : κ.2.1 = l) (hC : CTi l ω y b maxL ret d' av x I) (hdg : decode cc pc = .ok (.invokestatic ix, 3)) (hw1 : y = ⟨"HatsInRing", "within", "(III)Z"⟩) (hw2 : Cond.static y ∈ TT) (hw9 : own = "HatsInRing$Kinds" ∧ ix = 9) (hw3 : Cond.initialized y.cls ∈ TT) (hw4 : Cond.code y b maxL ret ∈ TT) (hdsc : y.cls ≠ "java/lang/invoke/MethodHandle" ∧ y.cls ≠ "java/lang/invoke/VarHandle" ∧ (parseMethodDescriptor y.desc).map (fun d => d.parameters.length) = some av.length) (hd : d' < d) (hmx : maxL ≤ 45) (hst : av.reverse ++ st = sin) (hroom : (st.map fun v => v.category).sum ≤ 8) (hq : pc + 3 = q) (kk : ∀ (v : Int32) (J : Mem), EE κ ω nL G (f v J) J q lv (.int v :: st)) : EE κ ω nL G (bnd x f) I pc lv sin := by
  obtain ⟨p, l, e, R, s, m, args, below, meth, c, cells, slots⟩ := κ
  obtain ⟨hx, hb, hml, hown, hts, hK, hlk, hR, hSX, hB⟩ := C
  intro r hr
  subst hst
  subst hq
  dsimp only at hlau
  subst hlau
  obtain ⟨hR1, hR2, hR3, hR4⟩ := hR
  obtain ⟨z, hz, hr⟩ := Option.bind_eq_some_iff.mp hr
  intro H locs ls hP hS hl
  refine va_calli (va_runSN (As := av) (rest := st) ⟨hx, hb, hml, hown, hts⟩ (hC z hz) ⟨va_cnB av.length hts (TT_good (in_ws0 hw4) (fun w h => h)) rfl rfl rfl (host := "HatsInRing") (by rw [hw1, hw9.1, hw9.2]; exact hSX.2.2.2.2.2) (hts _ hw3) hdsc ⟨by show d' + 1 ≤ R.frames; omega, by show 8 + (maxL + 11) + 64 * d' ≤ R.locals; omega⟩, hts _ hw2, trivial⟩ ⟨WD.blind, fun U hU hW => ⟨rfl, by rw [hU]; exact hP, va_K.moved hW.alike hK, by rw [hU]; exact SX.go hW hS hSX, by rw [hU]; exact Nat.le_trans hB hS.1⟩⟩ rfl rfl hl.1 rfl (lv_room hroom) hdg ⟨hR3, hR4⟩) hS (fun q _ h => h) (fun q h => h) (fun u1 u t H1 locs1 ht hvm hw hB hz1 hk1 hS1 => ?_)
  obtain ⟨v, J⟩ := z
  subst ht
  cases hw
  exact kk v J r hr t.heap locs1 ls hB hS1 hl
theorem e_callSl (C : CX κ ω cc nL d own) {l : Launch} {y : MethodName} {b : ByteArray} {maxL d' ix : Nat} {ret : Option FieldType} {av sin : List Value} {x : Option (Int64 × Mem)} {f : Int64 → Mem → Option (α × Mem)} (hlau : κ.2.1 = l) (hC : CTl l ω y b maxL ret d' av x I) (hdg : decode cc pc = .ok (.invokestatic ix, 3)) (hw1 : Cond.methodLink own ix y ∈ TT) (hw2 : Cond.static y ∈ TT) (hw3 : Cond.initialized y.cls ∈ TT) (hw4 : Cond.code y b maxL ret ∈ TT) (hdsc : y.cls ≠ "java/lang/invoke/MethodHandle" ∧ y.cls ≠ "java/lang/invoke/VarHandle" ∧ (parseMethodDescriptor y.desc).map (fun d => d.parameters.length) = some av.length) (hd : d' < d) (hmx : maxL ≤ 45) (hst : av.reverse ++ st = sin) (hroom : (st.map fun v => v.category).sum ≤ 8) (hq : pc + 3 = q) (kk : ∀ (v : Int64) (J : Mem), EE κ ω nL G (f v J) J q lv (.long v :: st)) : EE κ ω nL G (bnd x f) I pc lv sin := by
  obtain ⟨p, l, e, R, s, m, args, below, meth, c, cells, slots⟩ := κ
  obtain ⟨hx, hb, hml, hown, hts, hK, hlk, hR, hSX, hB⟩ := C
  intro r hr
  subst hst
  subst hq
  dsimp only at hlau
  subst hlau
  obtain ⟨hR1, hR2, hR3, hR4⟩ := hR
  obtain ⟨z, hz, hr⟩ := Option.bind_eq_some_iff.mp hr
  intro H locs ls hP hS hl
  refine va_calll (va_runS (As := av) (rest := st) ⟨hx, hb, hml, hown, hts⟩ (hC z hz) (va_cwS av.length hts (TT_good (in_wsS hw1 hw2 hw3 hw4) (fun w h => h)) rfl rfl rfl hdsc ⟨by show d' + 1 ≤ R.frames; omega, by show 8 + (maxL + 11) + 64 * d' ≤ R.locals; omega⟩) ⟨WD.blind, fun U hU hW => ⟨rfl, by rw [hU]; exact hP, va_K.moved hW.alike hK, by rw [hU]; exact SX.go hW hS hSX, by rw [hU]; exact Nat.le_trans hB hS.1⟩⟩ rfl rfl hl.1 rfl (lv_room hroom) hdg ⟨hR3, hR4⟩) hS (fun q _ h => h) (fun q h => h) (fun u1 u t H1 locs1 ht hvm hw hB hz1 hk1 hS1 => ?_)
  obtain ⟨v, J⟩ := z
  subst ht
  cases hw
  exact kk v J r hr t.heap locs1 ls hB hS1 hl
theorem e_callVl (C : CX κ ω cc nL d own) {k ci N : Nat} {T : u_T} {fs : List Value} {l : Launch} {y : MethodName} {b : ByteArray} {maxL d' ix : Nat} {ret : Option FieldType} {av sin : List Value} {x : Option (Int64 × Mem)} {f : Int64 → Mem → Option (α × Mem)} (hlau : κ.2.1 = l) (hC : CTl l ω y b maxL ret d' (.ref (oA ω k) :: av) x I) (hdg : decode cc pc = .ok (.invokevirtual ix, 3)) (hw1 : Cond.methodLink own ix y ∈ TT) (hw2 : Cond.instanceMethod y ∈ TT) (hw5 : Cond.selects y.cls y y ∈ TT) (hw3 : Cond.initialized y.cls ∈ TT) (hw4 : Cond.code y b maxL ret ∈ TT) (hdsc : y.cls ≠ "java/lang/invoke/MethodHandle" ∧ y.cls ≠ "java/lang/invoke/VarHandle" ∧ (parseMethodDescriptor y.desc).map (fun d => d.parameters.length) = some av.length) (hd : d' < d) (hmx : maxL ≤ 45) (hst : av.reverse ++ .ref (oA ω k) :: st = sin) (hkN : k < oN ω) (he : cellK ω k (I k) = .inr (ci, fs)) (hc : vwCl[ci]? = some (y.cls, T, N)) (hroom : (st.map fun v => v.category).sum ≤ 8) (hq : pc + 3 = q) (kk : ∀ (v : Int64) (J : Mem), EE κ ω nL G (f v J) J q lv (.long v :: st)) : EE κ ω nL G (bnd x f) I pc lv sin := by
  obtain ⟨p, l, e, R, s, m, args, below, meth, c, cells, slots⟩ := κ
  obtain ⟨hx, hb, hml, hown, hts, hK, hlk, hR, hSX, hB⟩ := C
  intro r hr
  subst hst
  subst hq
  dsimp only at hlau
  subst hlau
  obtain ⟨hR1, hR2, hR3, hR4⟩ := hR
  obtain ⟨z, hz, hr⟩ := Option.bind_eq_some_iff.mp hr
  intro H locs ls hP hS hl
  refine va_calll (va_runV (C := y.cls) (As := av) (rest := st) ⟨hx, hb, hml, hown, hts⟩ (hC z hz) (cwV av.length hts (TT_good (in_wsV hw1 hw2 hw5 hw3 hw4) (fun w h => h)) rfl rfl rfl ⟨rfl, hdsc⟩ ⟨by show d' + 1 ≤ R.frames; omega, by show 8 + (maxL + 11) + 64 * d' ≤ R.locals; omega⟩) ⟨WD.blind, va_recv hK hP.1 hc ((WL_get hkN).trans (congrArg (fun z => some (oA ω k, z)) he)), fun U hU hW => ⟨rfl, by rw [hU]; exact hP, va_K.moved hW.alike hK, by rw [hU]; exact SX.go hW hS hSX, by rw [hU]; exact Nat.le_trans hB hS.1⟩⟩ rfl rfl hl.1 rfl (lv_room hroom) hdg ⟨hR3, hR4⟩) hS (fun q _ h => h) (fun q h => h) (fun u1 u t H1 locs1 ht hvm hw hB hz1 hk1 hS1 => ?_)
  obtain ⟨v, J⟩ := z
  subst ht
  cases hw
  exact kk v J r hr t.heap locs1 ls hB hS1 hl
theorem e_callNl (C : CX κ ω cc nL d own) {l : Launch} {y : MethodName} {b : ByteArray} {maxL d' ix : Nat} {ret : Option FieldType} {av sin : List Value} {x : Option (Int64 × Mem)} {f : Int64 → Mem → Option (α × Mem)} (hlau : κ.2.1 = l) (hC : CTl l ω y b maxL ret d' av x I) (hdg : decode cc pc = .ok (.invokestatic ix, 3)) (hw1 : y = ⟨"HatsInRing", "within", "(III)Z"⟩) (hw2 : Cond.static y ∈ TT) (hw9 : own = "HatsInRing$Kinds" ∧ ix = 9) (hw3 : Cond.initialized y.cls ∈ TT) (hw4 : Cond.code y b maxL ret ∈ TT) (hdsc : y.cls ≠ "java/lang/invoke/MethodHandle" ∧ y.cls ≠ "java/lang/invoke/VarHandle" ∧ (parseMethodDescriptor y.desc).map (fun d => d.parameters.length) = some av.length) (hd : d' < d) (hmx : maxL ≤ 45) (hst : av.reverse ++ st = sin) (hroom : (st.map fun v => v.category).sum ≤ 8) (hq : pc + 3 = q) (kk : ∀ (v : Int64) (J : Mem), EE κ ω nL G (f v J) J q lv (.long v :: st)) : EE κ ω nL G (bnd x f) I pc lv sin := by
  obtain ⟨p, l, e, R, s, m, args, below, meth, c, cells, slots⟩ := κ
  obtain ⟨hx, hb, hml, hown, hts, hK, hlk, hR, hSX, hB⟩ := C
  intro r hr
  subst hst
  subst hq
  dsimp only at hlau
  subst hlau
  obtain ⟨hR1, hR2, hR3, hR4⟩ := hR
  obtain ⟨z, hz, hr⟩ := Option.bind_eq_some_iff.mp hr
  intro H locs ls hP hS hl
  refine va_calll (va_runSN (As := av) (rest := st) ⟨hx, hb, hml, hown, hts⟩ (hC z hz) ⟨va_cnB av.length hts (TT_good (in_ws0 hw4) (fun w h => h)) rfl rfl rfl (host := "HatsInRing") (by rw [hw1, hw9.1, hw9.2]; exact hSX.2.2.2.2.2) (hts _ hw3) hdsc ⟨by show d' + 1 ≤ R.frames; omega, by show 8 + (maxL + 11) + 64 * d' ≤ R.locals; omega⟩, hts _ hw2, trivial⟩ ⟨WD.blind, fun U hU hW => ⟨rfl, by rw [hU]; exact hP, va_K.moved hW.alike hK, by rw [hU]; exact SX.go hW hS hSX, by rw [hU]; exact Nat.le_trans hB hS.1⟩⟩ rfl rfl hl.1 rfl (lv_room hroom) hdg ⟨hR3, hR4⟩) hS (fun q _ h => h) (fun q h => h) (fun u1 u t H1 locs1 ht hvm hw hB hz1 hk1 hS1 => ?_)
  obtain ⟨v, J⟩ := z
  subst ht
  cases hw
  exact kk v J r hr t.heap locs1 ls hB hS1 hl
theorem e_callSv (C : CX κ ω cc nL d own) {l : Launch} {y : MethodName} {b : ByteArray} {maxL d' ix : Nat} {ret : Option FieldType} {av sin : List Value} {x : Option (Unit × Mem)} {f : Unit → Mem → Option (α × Mem)} (hlau : κ.2.1 = l) (hC : CTv l ω y b maxL ret d' av x I) (hdg : decode cc pc = .ok (.invokestatic ix, 3)) (hw1 : Cond.methodLink own ix y ∈ TT) (hw2 : Cond.static y ∈ TT) (hw3 : Cond.initialized y.cls ∈ TT) (hw4 : Cond.code y b maxL ret ∈ TT) (hdsc : y.cls ≠ "java/lang/invoke/MethodHandle" ∧ y.cls ≠ "java/lang/invoke/VarHandle" ∧ (parseMethodDescriptor y.desc).map (fun d => d.parameters.length) = some av.length) (hd : d' < d) (hmx : maxL ≤ 45) (hst : av.reverse ++ st = sin) (hroom : (st.map fun v => v.category).sum ≤ 8) (hq : pc + 3 = q) (kk : ∀ (v : Unit) (J : Mem), EE κ ω nL G (f v J) J q lv (st)) : EE κ ω nL G (bnd x f) I pc lv sin := by
  obtain ⟨p, l, e, R, s, m, args, below, meth, c, cells, slots⟩ := κ
  obtain ⟨hx, hb, hml, hown, hts, hK, hlk, hR, hSX, hB⟩ := C
  intro r hr
  subst hst
  subst hq
  dsimp only at hlau
  subst hlau
  obtain ⟨hR1, hR2, hR3, hR4⟩ := hR
  obtain ⟨z, hz, hr⟩ := Option.bind_eq_some_iff.mp hr
  intro H locs ls hP hS hl
  refine va_callv (va_runS (As := av) (rest := st) ⟨hx, hb, hml, hown, hts⟩ (hC z hz) (va_cwS av.length hts (TT_good (in_wsS hw1 hw2 hw3 hw4) (fun w h => h)) rfl rfl rfl hdsc ⟨by show d' + 1 ≤ R.frames; omega, by show 8 + (maxL + 11) + 64 * d' ≤ R.locals; omega⟩) ⟨WD.blind, fun U hU hW => ⟨rfl, by rw [hU]; exact hP, va_K.moved hW.alike hK, by rw [hU]; exact SX.go hW hS hSX, by rw [hU]; exact Nat.le_trans hB hS.1⟩⟩ rfl rfl hl.1 rfl (lv_room hroom) hdg ⟨hR3, hR4⟩) hS (fun q _ h => h) (fun q h => h) (fun u t H1 locs1 ht hvm hw hB hz1 hk1 hS1 => ?_)
  obtain ⟨v, J⟩ := z
  subst ht
  exact kk v J r hr t.heap locs1 ls hB hS1 hl
theorem e_callVv (C : CX κ ω cc nL d own) {k ci N : Nat} {T : u_T} {fs : List Value} {l : Launch} {y : MethodName} {b : ByteArray} {maxL d' ix : Nat} {ret : Option FieldType} {av sin : List Value} {x : Option (Unit × Mem)} {f : Unit → Mem → Option (α × Mem)} (hlau : κ.2.1 = l) (hC : CTv l ω y b maxL ret d' (.ref (oA ω k) :: av) x I) (hdg : decode cc pc = .ok (.invokevirtual ix, 3)) (hw1 : Cond.methodLink own ix y ∈ TT) (hw2 : Cond.instanceMethod y ∈ TT) (hw5 : Cond.selects y.cls y y ∈ TT) (hw3 : Cond.initialized y.cls ∈ TT) (hw4 : Cond.code y b maxL ret ∈ TT) (hdsc : y.cls ≠ "java/lang/invoke/MethodHandle" ∧ y.cls ≠ "java/lang/invoke/VarHandle" ∧ (parseMethodDescriptor y.desc).map (fun d => d.parameters.length) = some av.length) (hd : d' < d) (hmx : maxL ≤ 45) (hst : av.reverse ++ .ref (oA ω k) :: st = sin) (hkN : k < oN ω) (he : cellK ω k (I k) = .inr (ci, fs)) (hc : vwCl[ci]? = some (y.cls, T, N)) (hroom : (st.map fun v => v.category).sum ≤ 8) (hq : pc + 3 = q) (kk : ∀ (v : Unit) (J : Mem), EE κ ω nL G (f v J) J q lv (st)) : EE κ ω nL G (bnd x f) I pc lv sin := by
  obtain ⟨p, l, e, R, s, m, args, below, meth, c, cells, slots⟩ := κ
  obtain ⟨hx, hb, hml, hown, hts, hK, hlk, hR, hSX, hB⟩ := C
  intro r hr
  subst hst
  subst hq
  dsimp only at hlau
  subst hlau
  obtain ⟨hR1, hR2, hR3, hR4⟩ := hR
  obtain ⟨z, hz, hr⟩ := Option.bind_eq_some_iff.mp hr
  intro H locs ls hP hS hl
  refine va_callv (va_runV (C := y.cls) (As := av) (rest := st) ⟨hx, hb, hml, hown, hts⟩ (hC z hz) (cwV av.length hts (TT_good (in_wsV hw1 hw2 hw5 hw3 hw4) (fun w h => h)) rfl rfl rfl ⟨rfl, hdsc⟩ ⟨by show d' + 1 ≤ R.frames; omega, by show 8 + (maxL + 11) + 64 * d' ≤ R.locals; omega⟩) ⟨WD.blind, va_recv hK hP.1 hc ((WL_get hkN).trans (congrArg (fun z => some (oA ω k, z)) he)), fun U hU hW => ⟨rfl, by rw [hU]; exact hP, va_K.moved hW.alike hK, by rw [hU]; exact SX.go hW hS hSX, by rw [hU]; exact Nat.le_trans hB hS.1⟩⟩ rfl rfl hl.1 rfl (lv_room hroom) hdg ⟨hR3, hR4⟩) hS (fun q _ h => h) (fun q h => h) (fun u t H1 locs1 ht hvm hw hB hz1 hk1 hS1 => ?_)
  obtain ⟨v, J⟩ := z
  subst ht
  exact kk v J r hr t.heap locs1 ls hB hS1 hl
theorem e_callNv (C : CX κ ω cc nL d own) {l : Launch} {y : MethodName} {b : ByteArray} {maxL d' ix : Nat} {ret : Option FieldType} {av sin : List Value} {x : Option (Unit × Mem)} {f : Unit → Mem → Option (α × Mem)} (hlau : κ.2.1 = l) (hC : CTv l ω y b maxL ret d' av x I) (hdg : decode cc pc = .ok (.invokestatic ix, 3)) (hw1 : y = ⟨"HatsInRing", "within", "(III)Z"⟩) (hw2 : Cond.static y ∈ TT) (hw9 : own = "HatsInRing$Kinds" ∧ ix = 9) (hw3 : Cond.initialized y.cls ∈ TT) (hw4 : Cond.code y b maxL ret ∈ TT) (hdsc : y.cls ≠ "java/lang/invoke/MethodHandle" ∧ y.cls ≠ "java/lang/invoke/VarHandle" ∧ (parseMethodDescriptor y.desc).map (fun d => d.parameters.length) = some av.length) (hd : d' < d) (hmx : maxL ≤ 45) (hst : av.reverse ++ st = sin) (hroom : (st.map fun v => v.category).sum ≤ 8) (hq : pc + 3 = q) (kk : ∀ (v : Unit) (J : Mem), EE κ ω nL G (f v J) J q lv (st)) : EE κ ω nL G (bnd x f) I pc lv sin := by
  obtain ⟨p, l, e, R, s, m, args, below, meth, c, cells, slots⟩ := κ
  obtain ⟨hx, hb, hml, hown, hts, hK, hlk, hR, hSX, hB⟩ := C
  intro r hr
  subst hst
  subst hq
  dsimp only at hlau
  subst hlau
  obtain ⟨hR1, hR2, hR3, hR4⟩ := hR
  obtain ⟨z, hz, hr⟩ := Option.bind_eq_some_iff.mp hr
  intro H locs ls hP hS hl
  refine va_callv (va_runSN (As := av) (rest := st) ⟨hx, hb, hml, hown, hts⟩ (hC z hz) ⟨va_cnB av.length hts (TT_good (in_ws0 hw4) (fun w h => h)) rfl rfl rfl (host := "HatsInRing") (by rw [hw1, hw9.1, hw9.2]; exact hSX.2.2.2.2.2) (hts _ hw3) hdsc ⟨by show d' + 1 ≤ R.frames; omega, by show 8 + (maxL + 11) + 64 * d' ≤ R.locals; omega⟩, hts _ hw2, trivial⟩ ⟨WD.blind, fun U hU hW => ⟨rfl, by rw [hU]; exact hP, va_K.moved hW.alike hK, by rw [hU]; exact SX.go hW hS hSX, by rw [hU]; exact Nat.le_trans hB hS.1⟩⟩ rfl rfl hl.1 rfl (lv_room hroom) hdg ⟨hR3, hR4⟩) hS (fun q _ h => h) (fun q h => h) (fun u t H1 locs1 ht hvm hw hB hz1 hk1 hS1 => ?_)
  obtain ⟨v, J⟩ := z
  subst ht
  exact kk v J r hr t.heap locs1 ls hB hS1 hl
theorem e_callSq (C : CX κ ω cc nL d own) {l : Launch} {y : MethodName} {b : ByteArray} {maxL d' ix : Nat} {ret : Option FieldType} {av sin : List Value} {x : Option (Option Nat × Mem)} {f : Option Nat → Mem → Option (α × Mem)} (hlau : κ.2.1 = l) (hC : CTq l ω y b maxL ret d' av x I) (hdg : decode cc pc = .ok (.invokestatic ix, 3)) (hw1 : Cond.methodLink own ix y ∈ TT) (hw2 : Cond.static y ∈ TT) (hw3 : Cond.initialized y.cls ∈ TT) (hw4 : Cond.code y b maxL ret ∈ TT) (hdsc : y.cls ≠ "java/lang/invoke/MethodHandle" ∧ y.cls ≠ "java/lang/invoke/VarHandle" ∧ (parseMethodDescriptor y.desc).map (fun d => d.parameters.length) = some av.length) (hd : d' < d) (hmx : maxL ≤ 45) (hst : av.reverse ++ st = sin) (hroom : (st.map fun v => v.category).sum ≤ 8) (hq : pc + 3 = q) (kk : ∀ (v : Option Nat) (J : Mem), EE κ ω nL G (f v J) J q lv (va_rf (v.map (oA ω)) :: st)) : EE κ ω nL G (bnd x f) I pc lv sin := by
  obtain ⟨p, l, e, R, s, m, args, below, meth, c, cells, slots⟩ := κ
  obtain ⟨hx, hb, hml, hown, hts, hK, hlk, hR, hSX, hB⟩ := C
  intro r hr
  subst hst
  subst hq
  dsimp only at hlau
  subst hlau
  obtain ⟨hR1, hR2, hR3, hR4⟩ := hR
  obtain ⟨z, hz, hr⟩ := Option.bind_eq_some_iff.mp hr
  intro H locs ls hP hS hl
  refine va_callq (va_runS (As := av) (rest := st) ⟨hx, hb, hml, hown, hts⟩ (hC z hz) (va_cwS av.length hts (TT_good (in_wsS hw1 hw2 hw3 hw4) (fun w h => h)) rfl rfl rfl hdsc ⟨by show d' + 1 ≤ R.frames; omega, by show 8 + (maxL + 11) + 64 * d' ≤ R.locals; omega⟩) ⟨WD.blind, fun U hU hW => ⟨rfl, by rw [hU]; exact hP, va_K.moved hW.alike hK, by rw [hU]; exact SX.go hW hS hSX, by rw [hU]; exact Nat.le_trans hB hS.1⟩⟩ rfl rfl hl.1 rfl (lv_room hroom) hdg ⟨hR3, hR4⟩) hS (fun q _ h => h) (fun q h => h) (fun u1 u t H1 locs1 ht hvm hw hB hz1 hk1 hS1 => ?_)
  obtain ⟨v, J⟩ := z
  subst ht
  cases hw
  exact kk v J r hr t.heap locs1 ls hB hS1 hl
theorem e_callVq (C : CX κ ω cc nL d own) {k ci N : Nat} {T : u_T} {fs : List Value} {l : Launch} {y : MethodName} {b : ByteArray} {maxL d' ix : Nat} {ret : Option FieldType} {av sin : List Value} {x : Option (Option Nat × Mem)} {f : Option Nat → Mem → Option (α × Mem)} (hlau : κ.2.1 = l) (hC : CTq l ω y b maxL ret d' (.ref (oA ω k) :: av) x I) (hdg : decode cc pc = .ok (.invokevirtual ix, 3)) (hw1 : Cond.methodLink own ix y ∈ TT) (hw2 : Cond.instanceMethod y ∈ TT) (hw5 : Cond.selects y.cls y y ∈ TT) (hw3 : Cond.initialized y.cls ∈ TT) (hw4 : Cond.code y b maxL ret ∈ TT) (hdsc : y.cls ≠ "java/lang/invoke/MethodHandle" ∧ y.cls ≠ "java/lang/invoke/VarHandle" ∧ (parseMethodDescriptor y.desc).map (fun d => d.parameters.length) = some av.length) (hd : d' < d) (hmx : maxL ≤ 45) (hst : av.reverse ++ .ref (oA ω k) :: st = sin) (hkN : k < oN ω) (he : cellK ω k (I k) = .inr (ci, fs)) (hc : vwCl[ci]? = some (y.cls, T, N)) (hroom : (st.map fun v => v.category).sum ≤ 8) (hq : pc + 3 = q) (kk : ∀ (v : Option Nat) (J : Mem), EE κ ω nL G (f v J) J q lv (va_rf (v.map (oA ω)) :: st)) : EE κ ω nL G (bnd x f) I pc lv sin := by
  obtain ⟨p, l, e, R, s, m, args, below, meth, c, cells, slots⟩ := κ
  obtain ⟨hx, hb, hml, hown, hts, hK, hlk, hR, hSX, hB⟩ := C
  intro r hr
  subst hst
  subst hq
  dsimp only at hlau
  subst hlau
  obtain ⟨hR1, hR2, hR3, hR4⟩ := hR
  obtain ⟨z, hz, hr⟩ := Option.bind_eq_some_iff.mp hr
  intro H locs ls hP hS hl
  refine va_callq (va_runV (C := y.cls) (As := av) (rest := st) ⟨hx, hb, hml, hown, hts⟩ (hC z hz) (cwV av.length hts (TT_good (in_wsV hw1 hw2 hw5 hw3 hw4) (fun w h => h)) rfl rfl rfl ⟨rfl, hdsc⟩ ⟨by show d' + 1 ≤ R.frames; omega, by show 8 + (maxL + 11) + 64 * d' ≤ R.locals; omega⟩) ⟨WD.blind, va_recv hK hP.1 hc ((WL_get hkN).trans (congrArg (fun z => some (oA ω k, z)) he)), fun U hU hW => ⟨rfl, by rw [hU]; exact hP, va_K.moved hW.alike hK, by rw [hU]; exact SX.go hW hS hSX, by rw [hU]; exact Nat.le_trans hB hS.1⟩⟩ rfl rfl hl.1 rfl (lv_room hroom) hdg ⟨hR3, hR4⟩) hS (fun q _ h => h) (fun q h => h) (fun u1 u t H1 locs1 ht hvm hw hB hz1 hk1 hS1 => ?_)
  obtain ⟨v, J⟩ := z
  subst ht
  cases hw
  exact kk v J r hr t.heap locs1 ls hB hS1 hl
theorem e_callNq (C : CX κ ω cc nL d own) {l : Launch} {y : MethodName} {b : ByteArray} {maxL d' ix : Nat} {ret : Option FieldType} {av sin : List Value} {x : Option (Option Nat × Mem)} {f : Option Nat → Mem → Option (α × Mem)} (hlau : κ.2.1 = l) (hC : CTq l ω y b maxL ret d' av x I) (hdg : decode cc pc = .ok (.invokestatic ix, 3)) (hw1 : y = ⟨"HatsInRing", "within", "(III)Z"⟩) (hw2 : Cond.static y ∈ TT) (hw9 : own = "HatsInRing$Kinds" ∧ ix = 9) (hw3 : Cond.initialized y.cls ∈ TT) (hw4 : Cond.code y b maxL ret ∈ TT) (hdsc : y.cls ≠ "java/lang/invoke/MethodHandle" ∧ y.cls ≠ "java/lang/invoke/VarHandle" ∧ (parseMethodDescriptor y.desc).map (fun d => d.parameters.length) = some av.length) (hd : d' < d) (hmx : maxL ≤ 45) (hst : av.reverse ++ st = sin) (hroom : (st.map fun v => v.category).sum ≤ 8) (hq : pc + 3 = q) (kk : ∀ (v : Option Nat) (J : Mem), EE κ ω nL G (f v J) J q lv (va_rf (v.map (oA ω)) :: st)) : EE κ ω nL G (bnd x f) I pc lv sin := by
  obtain ⟨p, l, e, R, s, m, args, below, meth, c, cells, slots⟩ := κ
  obtain ⟨hx, hb, hml, hown, hts, hK, hlk, hR, hSX, hB⟩ := C
  intro r hr
  subst hst
  subst hq
  dsimp only at hlau
  subst hlau
  obtain ⟨hR1, hR2, hR3, hR4⟩ := hR
  obtain ⟨z, hz, hr⟩ := Option.bind_eq_some_iff.mp hr
  intro H locs ls hP hS hl
  refine va_callq (va_runSN (As := av) (rest := st) ⟨hx, hb, hml, hown, hts⟩ (hC z hz) ⟨va_cnB av.length hts (TT_good (in_ws0 hw4) (fun w h => h)) rfl rfl rfl (host := "HatsInRing") (by rw [hw1, hw9.1, hw9.2]; exact hSX.2.2.2.2.2) (hts _ hw3) hdsc ⟨by show d' + 1 ≤ R.frames; omega, by show 8 + (maxL + 11) + 64 * d' ≤ R.locals; omega⟩, hts _ hw2, trivial⟩ ⟨WD.blind, fun U hU hW => ⟨rfl, by rw [hU]; exact hP, va_K.moved hW.alike hK, by rw [hU]; exact SX.go hW hS hSX, by rw [hU]; exact Nat.le_trans hB hS.1⟩⟩ rfl rfl hl.1 rfl (lv_room hroom) hdg ⟨hR3, hR4⟩) hS (fun q _ h => h) (fun q h => h) (fun u1 u t H1 locs1 ht hvm hw hB hz1 hk1 hS1 => ?_)
  obtain ⟨v, J⟩ := z
  subst ht
  cases hw
  exact kk v J r hr t.heap locs1 ls hB hS1 hl
theorem ct_i {l : Launch} {y : MethodName} {b : ByteArray} {maxL : Nat} {ret : Option FieldType} {av : List Value} {x : Option (Int32 × Mem)} (hy : plainName y.cls = true) (hlen : (lg_sl av).length ≤ maxL) (body : ∀ κ : Kx, κ.2.1 = l → κ.2.2.2.2.2.2.2.2.1.sig.returnType = ret → CX κ ω b maxL d y.cls → EE κ ω maxL (Gi κ ω) x I 0 (lv_args 0 av) []) : CTi l ω y b maxL ret d av x I := by
  intro z hz
  refine Met.ofW (cc := b) (maxL := maxL) (ret := ret) hy rfl ?_
  intro p e s m args below meth c s₁ B hml hv
  obtain ⟨rfl, hP, hK, hSX, hB⟩ := hv
  have hts := atoms_spec (ws := Cond.code y b maxL ret :: TT) B.pre
  have hl := lv_entry av (n := maxL) hlen
  rw [lg_entry_eq]
  exact body (p, l, e, RM d, s, m, av.toArray, below, meth, c, 0, 0) rfl B.returns ⟨B.exec, B.bytes, hml, findClass_of_methodNamed B.named, fun w h => hts w (List.mem_cons_of_mem _ h), hK, B.notSynchronized, ⟨Nat.le_refl _, Nat.le_refl _, Nat.le_refl _, Nat.le_refl _⟩, hSX, hB⟩ z hz s.heap [] _ hP va_S.rf hl
theorem ct_l {l : Launch} {y : MethodName} {b : ByteArray} {maxL : Nat} {ret : Option FieldType} {av : List Value} {x : Option (Int64 × Mem)} (hy : plainName y.cls = true) (hlen : (lg_sl av).length ≤ maxL) (body : ∀ κ : Kx, κ.2.1 = l → κ.2.2.2.2.2.2.2.2.1.sig.returnType = ret → CX κ ω b maxL d y.cls → EE κ ω maxL (Gl κ ω) x I 0 (lv_args 0 av) []) : CTl l ω y b maxL ret d av x I := by
  intro z hz
  refine Met.ofW (cc := b) (maxL := maxL) (ret := ret) hy rfl ?_
  intro p e s m args below meth c s₁ B hml hv
  obtain ⟨rfl, hP, hK, hSX, hB⟩ := hv
  have hts := atoms_spec (ws := Cond.code y b maxL ret :: TT) B.pre
  have hl := lv_entry av (n := maxL) hlen
  rw [lg_entry_eq]
  exact body (p, l, e, RM d, s, m, av.toArray, below, meth, c, 0, 0) rfl B.returns ⟨B.exec, B.bytes, hml, findClass_of_methodNamed B.named, fun w h => hts w (List.mem_cons_of_mem _ h), hK, B.notSynchronized, ⟨Nat.le_refl _, Nat.le_refl _, Nat.le_refl _, Nat.le_refl _⟩, hSX, hB⟩ z hz s.heap [] _ hP va_S.rf hl
theorem ct_v {l : Launch} {y : MethodName} {b : ByteArray} {maxL : Nat} {ret : Option FieldType} {av : List Value} {x : Option (Unit × Mem)} (hy : plainName y.cls = true) (hlen : (lg_sl av).length ≤ maxL) (body : ∀ κ : Kx, κ.2.1 = l → κ.2.2.2.2.2.2.2.2.1.sig.returnType = ret → CX κ ω b maxL d y.cls → EE κ ω maxL (Gv κ ω) x I 0 (lv_args 0 av) []) : CTv l ω y b maxL ret d av x I := by
  intro z hz
  refine Met.ofW (cc := b) (maxL := maxL) (ret := ret) hy rfl ?_
  intro p e s m args below meth c s₁ B hml hv
  obtain ⟨rfl, hP, hK, hSX, hB⟩ := hv
  have hts := atoms_spec (ws := Cond.code y b maxL ret :: TT) B.pre
  have hl := lv_entry av (n := maxL) hlen
  rw [lg_entry_eq]
  exact body (p, l, e, RM d, s, m, av.toArray, below, meth, c, 0, 0) rfl B.returns ⟨B.exec, B.bytes, hml, findClass_of_methodNamed B.named, fun w h => hts w (List.mem_cons_of_mem _ h), hK, B.notSynchronized, ⟨Nat.le_refl _, Nat.le_refl _, Nat.le_refl _, Nat.le_refl _⟩, hSX, hB⟩ z hz s.heap [] _ hP va_S.rf hl
theorem ct_q {l : Launch} {y : MethodName} {b : ByteArray} {maxL : Nat} {ret : Option FieldType} {av : List Value} {x : Option (Option Nat × Mem)} (hy : plainName y.cls = true) (hlen : (lg_sl av).length ≤ maxL) (body : ∀ κ : Kx, κ.2.1 = l → κ.2.2.2.2.2.2.2.2.1.sig.returnType = ret → CX κ ω b maxL d y.cls → EE κ ω maxL (Gq κ ω) x I 0 (lv_args 0 av) []) : CTq l ω y b maxL ret d av x I := by
  intro z hz
  refine Met.ofW (cc := b) (maxL := maxL) (ret := ret) hy rfl ?_
  intro p e s m args below meth c s₁ B hml hv
  obtain ⟨rfl, hP, hK, hSX, hB⟩ := hv
  have hts := atoms_spec (ws := Cond.code y b maxL ret :: TT) B.pre
  have hl := lv_entry av (n := maxL) hlen
  rw [lg_entry_eq]
  exact body (p, l, e, RM d, s, m, av.toArray, below, meth, c, 0, 0) rfl B.returns ⟨B.exec, B.bytes, hml, findClass_of_methodNamed B.named, fun w h => hts w (List.mem_cons_of_mem _ h), hK, B.notSynchronized, ⟨Nat.le_refl _, Nat.le_refl _, Nat.le_refl _, Nat.le_refl _⟩, hSX, hB⟩ z hz s.heap [] _ hP va_S.rf hl
end EErows
