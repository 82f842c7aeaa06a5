/-! CONSTRUCTORS: a world that grows; the judgement EN and its rows -/
def HW (ω : Om) (ws : va_W) (H : Heap) : Prop := va_P (oD ω) vwCl ws H ∧ va_D (oFr ω) ws
/-- a constructor's start -/
def WDn (ω : Om) (ws : va_W) (U : State) : Prop := HW ω ws U.heap ∧ va_K (oD ω) vwCl (TY ω) U ∧ SX ω U U.heap ∧ oB ω ≤ U.heap.size
theorem WDn.blind {ω : Om} {ws : va_W} {av : List Value} : FrameBlind (va_Pc av (WDn ω ws)) := by
  intro a U g mk q
  obtain ⟨q0, q1, q2, q3, q4⟩ := q
  exact ⟨q0, q1, va_K.moved (u := U) (U := U.calling g mk a) (Vm.Alike.refl U.vm) q2, SX.same (u := U) (U := U.calling g mk a) rfl q3, q4⟩
/-- the world with these addresses, so many places -/
def oW (ω : Om) (u : Nat → Nat) (n : Nat) : Om := (u, ω.2.1, ω.2.2.1, ω.2.2.2.1, ω.2.2.2.2.1, ω.2.2.2.2.2.1, n, ω.2.2.2.2.2.2.2.1, ω.2.2.2.2.2.2.2.2)
def EN (κ : Kx) (ω : Om) (nL : Nat) (Q : State → Prop) (pre ms : va_W) (cs sl pc : Nat) (lv : List (Nat × Value)) (st : List Value) : Prop :=
  match κ with
  | (p, l, e, R, s, m, args, below, meth, c, _, _) => ∀ (H : Heap) (locs : List Loc) (ls : Array Slot), HW ω (ms ++ pre) H → va_S (oFr ω) s.heap H locs → lv_has ls nL lv → W p l e R s m args below meth c H locs cs sl Q (F0 m pc ls st)
def CN (κ : Kx) (ω : Om) (cc : ByteArray) (nL d : Nat) (own : String) (MC MS : Nat) : Prop := CX κ ω cc nL d own ∧ κ.2.2.2.2.2.2.2.2.2.2.1 = MC ∧ κ.2.2.2.2.2.2.2.2.2.2.2 = MS
section Perms
theorem va_D_iff {A : Nat → Prop} {ws : va_W} : va_D A ws ↔ ws.Pairwise (fun p q => p.1 ≠ q.1) ∧ ∀ q ∈ ws, A q.1 := by
  constructor
  · intro h
    refine ⟨List.pairwise_iff_getElem.mpr (fun i j hi hj hij e => ?_), fun q hq => ?_⟩
    · have := h.1 i j ws[i] ws[j] (List.getElem?_eq_getElem hi) (List.getElem?_eq_getElem hj) e
      omega
    · obtain ⟨i, hi⟩ := List.getElem?_of_mem hq
      exact h.2 i q hi
  · intro h
    have hp := List.pairwise_iff_getElem.mp h.1
    refine ⟨fun i j p q hi hj e => ?_, fun k q hk => h.2 q (List.mem_of_getElem? hk)⟩
    obtain ⟨h1, rfl⟩ := List.getElem?_eq_some_iff.mp hi
    obtain ⟨h2, rfl⟩ := List.getElem?_eq_some_iff.mp hj
    rcases Nat.lt_trichotomy i j with q | q | q
    · exact absurd e (hp i j h1 h2 q)
    · exact q
    · exact absurd e.symm (hp j i h2 h1 q)
theorem HW.perm {ω : Om} {w1 w2 : va_W} {H : Heap} (hp : w1.Perm w2) (h : HW ω w1 H) : HW ω w2 H := by
  refine ⟨fun k q hk => ?_, ?_⟩
  · obtain ⟨i, hi⟩ := List.getElem?_of_mem (hp.mem_iff.mpr (List.mem_of_getElem? hk))
    exact h.1 i q hi
  · have hd := va_D_iff.mp h.2
    exact va_D_iff.mpr ⟨hp.pairwise hd.1 (fun h e => h e.symm), fun q hq => hd.2 q (hp.mem_iff.mpr hq)⟩
theorem HW.rot {ω : Om} {ms pre : va_W} {x : Nat × va_E} {H : Heap} (h : HW ω (ms ++ pre ++ [x]) H) : HW ω (ms ++ [x] ++ pre) H := by
  refine h.perm ?_
  rw [List.append_assoc, List.append_assoc]
  exact List.perm_append_comm.append_left ms
theorem HW.set {ω : Om} {ms pre : va_W} {k : Nat} {x y : Nat × va_E} {H : Heap} (hk : ms[k]? = some y) (h : HW ω ((ms ++ pre).set k x) H) : HW ω (ms.set k x ++ pre) H := by
  rw [List.set_append_left _ _ (List.getElem?_eq_some_iff.mp hk).1] at h
  exact h
theorem get_pre {ms pre : va_W} {k : Nat} {x : Nat × va_E} (h : ms[k]? = some x) : (ms ++ pre)[k]? = some x := by
  rw [List.getElem?_append_left (List.getElem?_eq_some_iff.mp h).1]
  exact h
end Perms
section NRows
variable {κ : Kx} {ω : Om} {cc : ByteArray} {nL d : Nat} {own : String} {MC MS : Nat} {Q : State → Prop} {pre ms ms' : va_W} {cs sl pc q : Nat} {lv : List (Nat × Value)} {st : List Value}

theorem n_iconst (C : CN κ ω cc nL d own MC MS) {n : Int} {v : Int32} (hdg : decode cc pc = .ok (.iconst n, 1)) (hv : Int32.ofInt n = v) (hq : pc + 1 = q) (kk : EN κ ω nL Q pre ms cs sl q lv (.int v :: st)) : EN κ ω nL Q pre ms cs sl pc lv (st) := by
  obtain ⟨p, l, e, R, s, m, args, below, meth, c, cells, slots⟩ := κ
  obtain ⟨⟨hx, hb, hml, hown, hts, hK, hlk, hR, hSX, hB⟩, hMC, hMS⟩ := C
  intro H locs ls hP hS hl
  subst hq
  exact lv_iconst hx hb hdg hv (kk H locs ls hP hS hl)

theorem n_bipush (C : CN κ ω cc nL d own MC MS) {n : Int} {v : Int32} (hdg : decode cc pc = .ok (.bipush n, 2)) (hv : (Int8.ofInt n).toInt32 = v) (hq : pc + 2 = q) (kk : EN κ ω nL Q pre ms cs sl q lv (.int v :: st)) : EN κ ω nL Q pre ms cs sl pc lv (st) := by
  obtain ⟨p, l, e, R, s, m, args, below, meth, c, cells, slots⟩ := κ
  obtain ⟨⟨hx, hb, hml, hown, hts, hK, hlk, hR, hSX, hB⟩, hMC, hMS⟩ := C
  intro H locs ls hP hS hl
  subst hq
  exact lv_bipush hx hb hdg hv (kk H locs ls hP hS hl)

theorem n_sipush (C : CN κ ω cc nL d own MC MS) {n : Int} {v : Int32} (hdg : decode cc pc = .ok (.sipush n, 3)) (hv : (Int16.ofInt n).toInt32 = v) (hq : pc + 3 = q) (kk : EN κ ω nL Q pre ms cs sl q lv (.int v :: st)) : EN κ ω nL Q pre ms cs sl pc lv (st) := by
  obtain ⟨p, l, e, R, s, m, args, below, meth, c, cells, slots⟩ := κ
  obtain ⟨⟨hx, hb, hml, hown, hts, hK, hlk, hR, hSX, hB⟩, hMC, hMS⟩ := C
  intro H locs ls hP hS hl
  subst hq
  exact lv_sipush hx hb hdg hv (kk H locs ls hP hS hl)

theorem n_iload_n (C : CN κ ω cc nL d own MC MS) {i0 : Fin 4} {i : Nat} {x : Int32} (hdg : decode cc pc = .ok (.iload_n i0, 1)) (hi : (i0 : Nat) = i) (k : Nat) (hk : lv[k]? = some (i, .int x)) (hq : pc + 1 = q) (kk : EN κ ω nL Q pre ms cs sl q lv (.int x :: st)) : EN κ ω nL Q pre ms cs sl pc lv (st) := by
  obtain ⟨p, l, e, R, s, m, args, below, meth, c, cells, slots⟩ := κ
  obtain ⟨⟨hx, hb, hml, hown, hts, hK, hlk, hR, hSX, hB⟩, hMC, hMS⟩ := C
  intro H locs ls hP hS hl
  subst hq
  exact lv_iload_n hx hb hdg hi (lv_at hl k hk) (kk H locs ls hP hS hl)

theorem n_aload_n (C : CN κ ω cc nL d own MC MS) {i0 : Fin 4} {i : Nat} {x : Nat} (hdg : decode cc pc = .ok (.aload_n i0, 1)) (hi : (i0 : Nat) = i) (k : Nat) (hk : lv[k]? = some (i, .ref x)) (hq : pc + 1 = q) (kk : EN κ ω nL Q pre ms cs sl q lv (.ref x :: st)) : EN κ ω nL Q pre ms cs sl pc lv (st) := by
  obtain ⟨p, l, e, R, s, m, args, below, meth, c, cells, slots⟩ := κ
  obtain ⟨⟨hx, hb, hml, hown, hts, hK, hlk, hR, hSX, hB⟩, hMC, hMS⟩ := C
  intro H locs ls hP hS hl
  subst hq
  exact lv_aload_n hx hb hdg hi (lv_at hl k hk) (kk H locs ls hP hS hl)

theorem n_istore_n (C : CN κ ω cc nL d own MC MS) {i0 : Fin 4} {i : Nat} {x : Int32} {lv1 : List (Nat × Value)} (hdg : decode cc pc = .ok (.istore_n i0, 1)) (hi : (i0 : Nat) = i) (hn : i < nL) (hv : (i, Value.int x) :: lv.filter (fun q => !(q.1 == i) && !(q.1 + 1 == i && q.2.category == 2)) = lv1) (hq : pc + 1 = q) (kk : EN κ ω nL Q pre ms cs sl q lv1 st) : EN κ ω nL Q pre ms cs sl pc lv (.int x :: st) := by
  obtain ⟨p, l, e, R, s, m, args, below, meth, c, cells, slots⟩ := κ
  obtain ⟨⟨hx, hb, hml, hown, hts, hK, hlk, hR, hSX, hB⟩, hMC, hMS⟩ := C
  intro H locs ls hP hS hl
  subst hq
  exact lv_istore_n hx hb hdg hi hl hn hv (fun ls1 hl1 => kk H locs ls1 hP hS hl1)

theorem n_astore_n (C : CN κ ω cc nL d own MC MS) {i0 : Fin 4} {i : Nat} {x : Nat} {lv1 : List (Nat × Value)} (hdg : decode cc pc = .ok (.astore_n i0, 1)) (hi : (i0 : Nat) = i) (hn : i < nL) (hv : (i, Value.ref x) :: lv.filter (fun q => !(q.1 == i) && !(q.1 + 1 == i && q.2.category == 2)) = lv1) (hq : pc + 1 = q) (kk : EN κ ω nL Q pre ms cs sl q lv1 st) : EN κ ω nL Q pre ms cs sl pc lv (.ref x :: st) := by
  obtain ⟨p, l, e, R, s, m, args, below, meth, c, cells, slots⟩ := κ
  obtain ⟨⟨hx, hb, hml, hown, hts, hK, hlk, hR, hSX, hB⟩, hMC, hMS⟩ := C
  intro H locs ls hP hS hl
  subst hq
  exact lv_astore_n hx hb hdg hi hl hn hv (fun ls1 hl1 => kk H locs ls1 hP hS hl1)

theorem n_iinc (C : CN κ ω cc nL d own MC MS) {i : Nat} {n : Int} {x v : Int32} {lv1 : List (Nat × Value)} (hdg : decode cc pc = .ok (.iinc i n, 3)) (k : Nat) (hk : lv[k]? = some (i, .int x)) (hn : i < nL) (hw : x + Int32.ofInt n = v) (hv : (i, Value.int v) :: lv.filter (fun q => !(q.1 == i) && !(q.1 + 1 == i && q.2.category == 2)) = lv1) (hq : pc + 3 = q) (kk : EN κ ω nL Q pre ms cs sl q lv1 st) : EN κ ω nL Q pre ms cs sl pc lv st := by
  obtain ⟨p, l, e, R, s, m, args, below, meth, c, cells, slots⟩ := κ
  obtain ⟨⟨hx, hb, hml, hown, hts, hK, hlk, hR, hSX, hB⟩, hMC, hMS⟩ := C
  intro H locs ls hP hS hl
  subst hq
  exact lv_iinc hx hb hdg hl hk hw hn hv (fun ls1 hl1 => kk H locs ls1 hP hS hl1)

theorem n_dup (C : CN κ ω cc nL d own MC MS) {v : Value} (hdg : decode cc pc = .ok (.dup, 1)) (hv : v.category = 1) (hq : pc + 1 = q) (kk : EN κ ω nL Q pre ms cs sl q lv (v :: v :: st)) : EN κ ω nL Q pre ms cs sl pc lv (v :: st) := by
  obtain ⟨p, l, e, R, s, m, args, below, meth, c, cells, slots⟩ := κ
  obtain ⟨⟨hx, hb, hml, hown, hts, hK, hlk, hR, hSX, hB⟩, hMC, hMS⟩ := C
  intro H locs ls hP hS hl
  subst hq
  exact lv_dup hx hb hdg hv (kk H locs ls hP hS hl)

theorem n_pop (C : CN κ ω cc nL d own MC MS) {v : Value} (hdg : decode cc pc = .ok (.pop, 1)) (hv : v.category = 1) (hq : pc + 1 = q) (kk : EN κ ω nL Q pre ms cs sl q lv (st)) : EN κ ω nL Q pre ms cs sl pc lv (v :: st) := by
  obtain ⟨p, l, e, R, s, m, args, below, meth, c, cells, slots⟩ := κ
  obtain ⟨⟨hx, hb, hml, hown, hts, hK, hlk, hR, hSX, hB⟩, hMC, hMS⟩ := C
  intro H locs ls hP hS hl
  subst hq
  exact lv_pop hx hb hdg hv (kk H locs ls hP hS hl)

theorem n_goto (C : CN κ ω cc nL d own MC MS) {off : Int} {tgt : Nat} (hdg : decode cc pc = .ok (.goto off, 3)) (ht : (pc : Int) + off = (tgt : Int)) (kk : EN κ ω nL Q pre ms cs sl tgt lv st) : EN κ ω nL Q pre ms cs sl pc lv st := by
  obtain ⟨p, l, e, R, s, m, args, below, meth, c, cells, slots⟩ := κ
  obtain ⟨⟨hx, hb, hml, hown, hts, hK, hlk, hR, hSX, hB⟩, hMC, hMS⟩ := C
  intro H locs ls hP hS hl
  exact lv_goto hx hb hdg ht (kk H locs ls hP hS hl)

theorem n_icmpge_no (C : CN κ ω cc nL d own MC MS) {x y : Int32} {off : Int} {tgt : Nat} (hdg : decode cc pc = .ok (.if_icmp .ge off, 3)) (ht : (pc : Int) + off = (tgt : Int)) (hno : ¬ y ≤ x) (hq : pc + 3 = q) (kk : EN κ ω nL Q pre ms cs sl q lv st) : EN κ ω nL Q pre ms cs sl pc lv (.int y :: .int x :: st) := by
  obtain ⟨p, l, e, R, s, m, args, below, meth, c, cells, slots⟩ := κ
  obtain ⟨⟨hx, hb, hml, hown, hts, hK, hlk, hR, hSX, hB⟩, hMC, hMS⟩ := C
  intro H locs ls hP hS hl
  subst hq
  obtain ⟨hR1, hR2, hR3, hR4⟩ := hR
  dsimp only at hMC hMS
  exact lv_icmp_ge hx hb hdg ht (fun h2 => absurd h2 hno) (fun h2 => kk H locs ls hP hS hl)
theorem n_icmpge_yes (C : CN κ ω cc nL d own MC MS) {x y : Int32} {off : Int} (hdg : decode cc pc = .ok (.if_icmp .ge off, 3)) (ht : (pc : Int) + off = (q : Int)) (hyes : y ≤ x) (kk : EN κ ω nL Q pre ms cs sl q lv st) : EN κ ω nL Q pre ms cs sl pc lv (.int y :: .int x :: st) := by
  obtain ⟨p, l, e, R, s, m, args, below, meth, c, cells, slots⟩ := κ
  obtain ⟨⟨hx, hb, hml, hown, hts, hK, hlk, hR, hSX, hB⟩, hMC, hMS⟩ := C
  intro H locs ls hP hS hl
  exact lv_icmp_ge hx hb hdg ht (fun h2 => kk H locs ls hP hS hl) (fun h2 => absurd hyes h2)
theorem n_obj (C : CN κ ω cc nL d own MC MS) {ix a : Nat} (hdg : decode cc pc = .ok (.invokespecial ix, 3)) (hw : Cond.methodLink own ix objectInit ∈ TT) (hw2 : Cond.instanceMethod objectInit ∈ TT) (hw3 : Cond.code objectInit ⟨#[0xb1]⟩ 1 none ∈ TT) (hd : 1 ≤ d) (hroom : (st.map fun v => v.category).sum ≤ 8) (hq : pc + 3 = q) (kk : EN κ ω nL Q pre ms cs sl q lv st) : EN κ ω nL Q pre ms cs sl pc lv (.ref a :: st) := by
  obtain ⟨p, l, e, R, s, m, args, below, meth, c, cells, slots⟩ := κ
  obtain ⟨⟨hx, hb, hml, hown, hts, hK, hlk, hR, hSX, hB⟩, hMC, hMS⟩ := C
  intro H locs ls hP hS hl
  subst hq
  obtain ⟨hR1, hR2, hR3, hR4⟩ := hR
  dsimp only at hMC hMS
  have hrm := lv_room (m := m) (pc := pc) (ls := ls) (rest := .ref a :: st) hroom
  exact W.objInit hx hb hown (hts _ hw) (hts _ hw2) (hts _ hw3) rfl (by rw [hml]; exact hl.1) rfl hdg (by omega) (by omega) (kk H locs ls hP hS hl)
theorem n_newI (C : CN κ ω cc nL d own MC MS) {n : Int32} {N : Nat} (hdg : decode cc pc = .ok (.newarray .int, 2)) (hw : Cond.arrayClass .int ∈ TT) (hn : ¬ n < 0) (hN : n.toNatClampNeg = N) (hby : N * 4 ≤ 536870912) (hcs : cs + 1 ≤ MC) (hsl : sl + N ≤ MS) (hq : pc + 2 = q) (kk : ∀ a : Nat, EN κ ω nL Q pre (ms ++ [(a, .inl (oI ω, N, .inl (fun _ => 0)))]) (cs + 1) (sl + N) q lv (.ref a :: st)) : EN κ ω nL Q pre ms cs sl pc lv (.int n :: st) := by
  obtain ⟨p, l, e, R, s, m, args, below, meth, c, cells, slots⟩ := κ
  obtain ⟨⟨hx, hb, hml, hown, hts, hK, hlk, hR, hSX, hB⟩, hMC, hMS⟩ := C
  intro H locs ls hP hS hl
  subst hq
  obtain ⟨hR1, hR2, hR3, hR4⟩ := hR
  dsimp only at hMC hMS
  refine va_newa (atype := .int) (ty := .int) (D := oD ω) (tys := TY ω) (a0 := (N, .inl (fun _ => 0))) hx hb (hts _ hw) rfl hK hP.1 hP.2 hS (fun q h => Nat.le_trans hB h) (fun cA => rfl) hn hN hby (by omega) (by omega) hdg (fun a cA H1 hK1 hP1 hD1 hS1 => ?_)
  have h1 : s.vm.findClass ("[" ++ FieldType.int.toString) = some cA := (hK1.2 3 (cA, .int) rfl).2
  have h2 : s.vm.findClass ("[" ++ FieldType.int.toString) = some (oI ω) := (hK.2 0 (oI ω, .int) rfl).2
  obtain rfl : oI ω = cA := Option.some.inj (h2.symm.trans h1)
  exact kk a H1 locs ls (HW.rot ⟨hP1, hD1⟩) hS1 hl
theorem n_newQ (C : CN κ ω cc nL d own MC MS) {n : Int32} {N ix t0 : Nat} {Cn : String} {cT : ClassId} (hdg : decode cc pc = .ok (.anewarray ix, 3)) (hw : Cond.classLink own ix Cn ∈ TT) (ho : va_AO Cn κ.2.2.2.2.1) (ht : (TY ω)[t0]? = some (cT, .object Cn)) (hn : ¬ n < 0) (hN : n.toNatClampNeg = N) (hby : N * 4 ≤ 536870912) (hcs : cs + 1 ≤ MC) (hsl : sl + N ≤ MS) (hq : pc + 3 = q) (kk : ∀ a : Nat, EN κ ω nL Q pre (ms ++ [(a, .inl (cT, N, .inr (.inr (.inr (.inr (fun _ => none))))))]) (cs + 1) (sl + N) q lv (.ref a :: st)) : EN κ ω nL Q pre ms cs sl pc lv (.int n :: st) := by
  obtain ⟨p, l, e, R, s, m, args, below, meth, c, cells, slots⟩ := κ
  obtain ⟨⟨hx, hb, hml, hown, hts, hK, hlk, hR, hSX, hB⟩, hMC, hMS⟩ := C
  intro H locs ls hP hS hl
  subst hq
  obtain ⟨hR1, hR2, hR3, hR4⟩ := hR
  dsimp only at hMC hMS
  refine va_newq (C := Cn) (D := oD ω) (tys := TY ω) hx hb hown (hts _ hw) ho hK hP.1 hP.2 hS (fun q h => Nat.le_trans hB h) hn hN hby (by omega) (by omega) hdg (fun a cA H1 hK1 hP1 hD1 hS1 => ?_)
  obtain ⟨-, comp, -, -, -, h1⟩ := (hK1.2 3 (cA, .object Cn) rfl).2
  obtain ⟨-, comp2, -, -, -, h2⟩ := (hK.2 t0 (cT, .object Cn) ht).2
  obtain rfl : cT = cA := Option.some.inj (h2.symm.trans h1)
  exact kk a H1 locs ls (HW.rot ⟨hP1, hD1⟩) hS1 hl
theorem n_new (C : CN κ ω cc nL d own MC MS) {ix ci N : Nat} {Cn : String} {T : u_T} {fs : List Value} {ty : Nat → FieldType} (hdg : decode cc pc = .ok (.new ix, 3)) (hin : ∀ w ∈ u_ws Cn T N, w ∈ TT) (hty : ∀ k, k < N → parseFieldDescriptor (T k).2.2.1 = some (ty k)) (hw1 : Cond.classLink own ix Cn ∈ TT) (hw2 : Cond.instantiable Cn N ∈ TT) (hw3 : Cond.initialized Cn ∈ TT) (hc : vwCl[ci]? = some (Cn, T, N)) (hfs : ∀ j, j < N → defaultValue (ty j) = vp_V fs j) (hcs : cs + 1 ≤ MC) (hsl : sl + N ≤ MS) (hq : pc + 3 = q) (kk : ∀ a : Nat, EN κ ω nL Q pre (ms ++ [(a, .inr (ci, fs))]) (cs + 1) (sl + N) q lv (.ref a :: st)) : EN κ ω nL Q pre ms cs sl pc lv st := by
  obtain ⟨p, l, e, R, s, m, args, below, meth, c, cells, slots⟩ := κ
  obtain ⟨⟨hx, hb, hml, hown, hts, hK, hlk, hR, hSX, hB⟩, hMC, hMS⟩ := C
  intro H locs ls hP hS hl
  subst hq
  obtain ⟨hR1, hR2, hR3, hR4⟩ := hR
  dsimp only at hMC hMS
  exact va_new (D := oD ω) (tys := TY ω) hx hb hts hin ty hty hown (hts _ hw1) (hts _ hw2) (hts _ hw3) hK hP.1 hP.2 hS (fun q h => Nat.le_trans hB h) hc hfs (by omega) (by omega) hdg (fun a H1 hP1 hD1 hS1 => kk a H1 locs ls (HW.rot ⟨hP1, hD1⟩) hS1 hl)
theorem n_get (C : CN κ ω cc nL d own MC MS) {ix ci N j k a : Nat} {Cn : String} {T : u_T} {fs : List Value} {v : Value} (hdg : decode cc pc = .ok (.getfield ix, 3)) (hk : ms[k]? = some (a, .inr (ci, fs))) (hc : vwCl[ci]? = some (Cn, T, N)) (hj : j < N) (hin : ∀ w ∈ u_ws Cn T N, w ∈ TT) (hw : Cond.fieldLink own ix (T j).1 (T j).2.1 (T j).2.2.1 ∈ TT) (hv : fs[j]? = some v) (hq : pc + 3 = q) (kk : EN κ ω nL Q pre ms cs sl q lv (v :: st)) : EN κ ω nL Q pre ms cs sl pc lv (.ref a :: st) := by
  obtain ⟨p, l, e, R, s, m, args, below, meth, c, cells, slots⟩ := κ
  obtain ⟨⟨hx, hb, hml, hown, hts, hK, hlk, hR, hSX, hB⟩, hMC, hMS⟩ := C
  intro H locs ls hP hS hl
  subst hq
  obtain ⟨hR1, hR2, hR3, hR4⟩ := hR
  dsimp only at hMC hMS
  exact va_get (D := oD ω) (tys := TY ω) hx hb hts hin hown hK hP.1 k (get_pre hk) hc j hj (hts _ hw) (fun _ h => h) hv hdg (kk H locs ls hP hS hl)
theorem n_put (C : CN κ ω cc nL d own MC MS) {ix ci N j k a : Nat} {Cn : String} {T : u_T} {ty0 : Nat → FieldType} {fs : List Value} {v : Value} {ty : FieldType} (hdg : decode cc pc = .ok (.putfield ix, 3)) (hk : ms[k]? = some (a, .inr (ci, fs))) (hc : vwCl[ci]? = some (Cn, T, N)) (hj : j < N) (hin : ∀ w ∈ u_ws Cn T N, w ∈ TT) (hw : Cond.fieldLink own ix (T j).1 (T j).2.1 (T j).2.2.1 ∈ TT) (hty : ∀ k, k < N → parseFieldDescriptor (T k).2.2.1 = some (ty0 k)) (hnm : ∀ a, a < N → ∀ b, b < N → a ≠ b → (T a).2.1 ≠ (T b).2.1) (hfin : (T j).2.2.2 = false) (hd : parseFieldDescriptor (T j).2.2.1 = some ty) (hn : narrow ty v = v) (hfit : fits ty v = true) (hln : j < fs.length) (hms : ms.set k (a, .inr (ci, fs.set j v)) = ms') (hq : pc + 3 = q) (kk : EN κ ω nL Q pre ms' cs sl q lv st) : EN κ ω nL Q pre ms cs sl pc lv (v :: .ref a :: st) := by
  obtain ⟨p, l, e, R, s, m, args, below, meth, c, cells, slots⟩ := κ
  obtain ⟨⟨hx, hb, hml, hown, hts, hK, hlk, hR, hSX, hB⟩, hMC, hMS⟩ := C
  intro H locs ls hP hS hl
  subst hq
  obtain ⟨hR1, hR2, hR3, hR4⟩ := hR
  dsimp only at hMC hMS
  subst hms
  exact va_put (D := oD ω) (tys := TY ω) hx hb hts hin ty0 hty hnm hown hK hP.1 hP.2 hS k (get_pre hk) hc j hj (hts _ hw) (fun _ h => h) hfin hd hn hfit hln hdg (fun H1 locs1 hP1 hD1 hS1 => kk H1 locs1 ls (HW.set hk ⟨hP1, hD1⟩) hS1 hl)
theorem n_putF (C : CN κ ω cc nL d own MC MS) {ix ci N j k a : Nat} {Cn : String} {T : u_T} {ty0 : Nat → FieldType} {fs : List Value} {v : Value} {ty : FieldType} (hini : κ.2.2.2.2.2.2.2.2.1.name = "<init>") (hdg : decode cc pc = .ok (.putfield ix, 3)) (hk : ms[k]? = some (a, .inr (ci, fs))) (hc : vwCl[ci]? = some (Cn, T, N)) (hj : j < N) (hin : ∀ w ∈ u_ws Cn T N, w ∈ TT) (hw : Cond.fieldLink own ix (T j).1 (T j).2.1 (T j).2.2.1 ∈ TT) (hty : ∀ k, k < N → parseFieldDescriptor (T k).2.2.1 = some (ty0 k)) (hnm : ∀ a, a < N → ∀ b, b < N → a ≠ b → (T a).2.1 ≠ (T b).2.1) (hfin : (T j).2.2.2 = true) (hdc : (T j).1 = own) (hd : parseFieldDescriptor (T j).2.2.1 = some ty) (hn : narrow ty v = v) (hfit : fits ty v = true) (hln : j < fs.length) (hms : ms.set k (a, .inr (ci, fs.set j v)) = ms') (hq : pc + 3 = q) (kk : EN κ ω nL Q pre ms' cs sl q lv st) : EN κ ω nL Q pre ms cs sl pc lv (v :: .ref a :: st) := by
  obtain ⟨p, l, e, R, s, m, args, below, meth, c, cells, slots⟩ := κ
  obtain ⟨⟨hx, hb, hml, hown, hts, hK, hlk, hR, hSX, hB⟩, hMC, hMS⟩ := C
  intro H locs ls hP hS hl
  subst hq
  obtain ⟨hR1, hR2, hR3, hR4⟩ := hR
  dsimp only at hMC hMS
  subst hms
  exact va_putF (D := oD ω) (tys := TY ω) hx hb hts hin ty0 hty hnm hown hK hP.1 hP.2 hS k (get_pre hk) hc j hj (hts _ hw) (fun _ h => h) hfin hini hdc hd hn hfit hln hdg (fun H1 locs1 hP1 hD1 hS1 => kk H1 locs1 ls (HW.set hk ⟨hP1, hD1⟩) hS1 hl)
theorem n_aast (C : CN κ ω cc nL d own MC MS) {k kv ci t0 n a v : Nat} {cT : ClassId} {r : vw_C} {vs : List Value} {f : Nat → Option Nat} {i : Int32} (hdg : decode cc pc = .ok (.aastore, 1)) (hk : ms[k]? = some (a, .inl (cT, n, .inr (.inr (.inr (.inr f)))))) (ht : (TY ω)[t0]? = some (cT, .object r.1)) (hv : ms[kv]? = some (v, .inr (ci, vs))) (hc : vwCl[ci]? = some r) (hin : inb i n = true) (hms : ms.set k (a, .inl (cT, n, .inr (.inr (.inr (.inr (va_up f i.toNatClampNeg (some v))))))) = ms') (hq : pc + 1 = q) (kk : EN κ ω nL Q pre ms' cs sl q lv st) : EN κ ω nL Q pre ms cs sl pc lv (.ref v :: .int i :: .ref a :: st) := by
  obtain ⟨p, l, e, R, s, m, args, below, meth, c, cells, slots⟩ := κ
  obtain ⟨⟨hx, hb, hml, hown, hts, hK, hlk, hR, hSX, hB⟩, hMC, hMS⟩ := C
  intro H locs ls hP hS hl
  subst hq
  obtain ⟨hR1, hR2, hR3, hR4⟩ := hR
  dsimp only at hMC hMS
  subst hms
  exact va_astq (D := oD ω) (tys := TY ω) hx hb hK hP.1 hP.2 hS k t0 kv ci (get_pre hk) ht (get_pre hv) hc (inb_iff.mp hin) hdg (fun H1 locs1 hP1 hD1 hS1 => kk H1 locs1 ls (HW.set hk ⟨hP1, hD1⟩) hS1 hl)
/-- a row that is being filled -/
def fillF (Ls : List Int32) (i : Nat) : Nat → Int32 := fun j => if j < i then Ls.getD j 0 else 0
theorem n_fill (C : CN κ ω cc nL d own MC MS) {k n a j : Nat} {i x : Int32} {Ls : List Int32} (hdg : decode cc pc = .ok (.iastore, 1)) (hk : ms[k]? = some (a, .inl (oI ω, n, .inl (fillF Ls j)))) (hi : i = nI j) (hx0 : Ls.getD j 0 = x) (hjn : j < n) (hj : n < 1000) (hms : ms.set k (a, .inl (oI ω, n, .inl (fillF Ls (j + 1)))) = ms') (hq : pc + 1 = q) (kk : EN κ ω nL Q pre ms' cs sl q lv st) : EN κ ω nL Q pre ms cs sl pc lv (.int x :: .int i :: .ref a :: st) := by
  obtain ⟨p, l, e, R, s, m, args, below, meth, c, cells, slots⟩ := κ
  obtain ⟨⟨hx, hb, hml, hown, hts, hK, hlk, hR, hSX, hB⟩, hMC, hMS⟩ := C
  intro H locs ls hP hS hl
  subst hq
  obtain ⟨hR1, hR2, hR3, hR4⟩ := hR
  dsimp only at hMC hMS
  subst hms
  subst hi
  have hu : upd (fillF Ls j) (nI j).toNatClampNeg x = fillF Ls (j + 1) := by
    rw [nI_clamp (by omega), ← hx0]
    funext y
    simp only [upd, fillF]
    by_cases h1 : y = j
    · subst h1
      simp
    · by_cases h2 : y < j
      · rw [if_neg h1, if_pos h2, if_pos (by omega)]
      · rw [if_neg h1, if_neg h2, if_neg (by omega)]
  have hkk := va_iast (D := oD ω) (tys := TY ω) (p := p) (l := l) (e := e) (R := R) (m := m) (below := below) (meth := meth) (cells := cs) (slots := sl) (Q := Q) (pc := pc) (ls := ls) (rest := st) hx hb hK hP.1 hP.2 hS k 0 (get_pre hk) rfl (i := nI j) (x := x) (inb_iff.mp (by
    obtain h : inb (nI j) n = true := by
      rw [inb, nI_toInt (by omega)]
      simp
      omega
    exact h)) hdg (fun H1 locs1 hP1 hD1 hS1 => by
      rw [hu] at hP1 hD1
      exact kk H1 locs1 ls (HW.set hk ⟨hP1, hD1⟩) hS1 hl)
  exact hkk
/-- what a constructor comes to -/
def Gn (κ : Kx) (ω : Om) (out : (Nat → Nat) → va_W) : State → Prop := match κ with
  | (_, _, _, _, s, _, args, below, _, _, cells, slots) => MQ below (va_Qv (fun (_ : Nat → Nat) => True) (fun (u : Nat → Nat) t => HW ω (out u) t.heap) (oFr ω)) args s cells slots (oFr ω)
theorem n_ret (C : CN κ ω cc nL d own MC MS) {out : (Nat → Nat) → va_W} (u : Nat → Nat) (hdg : decode cc pc = .ok (.return_, 1)) (hret : κ.2.2.2.2.2.2.2.2.1.sig.returnType = none) (hcs : cs ≤ MC) (hsl : sl ≤ MS) (hw : (ms ++ pre).Perm (out u)) : EN κ ω nL (Gn κ ω out) pre ms cs sl pc lv [] := by
  obtain ⟨p, l, e, R, s, m, args, below, meth, c, cells, slots⟩ := κ
  obtain ⟨⟨hx, hb, hml, hown, hts, hK, hlk, hR, hSX, hB⟩, hMC, hMS⟩ := C
  intro H locs ls hP hS hl
  dsimp only at hMC hMS
  refine W.widen (k := cells) (n := slots) (by omega) (by omega) ?_
  exact W.vret hx hb hret (fun t ht hW => ⟨⟨u, rfl, trivial, show HW ω (out u) t.heap by rw [ht]; exact hP.perm hw⟩, hS.F ht⟩) hS.2.2 hdg hlk
def CTn (l : Launch) (ω : Om) (y : MethodName) (b : ByteArray) (maxL d mc mz : Nat) (av : List Value) (ws : va_W) (X : State → Prop) (out : (Nat → Nat) → va_W) : Prop :=
  Met l y (.code y b maxL none :: TT) ({ frames := d, cells := mc, slots := mz, locals := 64 * d } : Room) (va_Pc av (fun U => WDn ω ws U ∧ X U)) (va_Qv (fun (_ : Nat → Nat) => True) (fun (u : Nat → Nat) t => HW ω (out u) t.heap) (oFr ω)) mc mz (oFr ω)
theorem ct_n {l : Launch} {y : MethodName} {b : ByteArray} {maxL mc mz : Nat} {av : List Value} {pre ms : va_W} {X : State → Prop} {out : (Nat → Nat) → va_W} (hy : plainName y.cls = true) (hyn : y.name = "<init>") (hlen : (lg_sl av).length ≤ maxL) (body : ∀ κ : Kx, κ.2.1 = l → κ.2.2.2.2.2.2.2.2.1.sig.returnType = none → κ.2.2.2.2.2.2.2.2.1.name = "<init>" → X κ.2.2.2.2.1 → CN κ ω b maxL d y.cls mc mz → EN κ ω maxL (Gn κ ω out) pre ms 0 0 0 (lv_args 0 av) []) : CTn l ω y b maxL d mc mz av (ms ++ pre) X out := by
  refine Met.ofW (cc := b) (maxL := maxL) (ret := none) hy rfl ?_
  intro p e s m args below meth c s₁ B hml hv
  obtain ⟨rfl, ⟨hP, hK, hSX, hB⟩, hX⟩ := hv
  have hts := atoms_spec (ws := Cond.code y b maxL none :: TT) B.pre
  have hl := lv_entry av (n := maxL) hlen
  have hnm : meth.name = "<init>" := (name_of_methodNamed B.named B.method).1.trans hyn
  rw [lg_entry_eq]
  exact body (p, l, e, ({ frames := d, cells := mc, slots := mz, locals := 64 * d } : Room), s, m, av.toArray, below, meth, c, mc, mz) rfl B.returns hnm hX ⟨⟨B.exec, B.bytes, hml, findClass_of_methodNamed B.named, fun w h => hts w (List.mem_cons_of_mem _ h), hK, B.notSynchronized, ⟨Nat.le_refl _, Nat.le_refl _, Nat.le_refl _, Nat.le_refl _⟩, hSX, hB⟩, rfl, rfl⟩ s.heap [] _ hP va_S.rf hl
theorem CTn.blind {ω : Om} {ws : va_W} {av : List Value} {X : State → Prop} (hX : ∀ u U : State, U.vm = u.vm → X u → X U) : FrameBlind (va_Pc av (fun U => WDn ω ws U ∧ X U)) := by
  intro a U g mk q
  obtain ⟨q0, ⟨q1, q2, q3, q4⟩, q5⟩ := q
  exact ⟨q0, ⟨q1, va_K.moved (u := U) (U := U.calling g mk a) (Vm.Alike.refl U.vm) q2, SX.same (u := U) (U := U.calling g mk a) rfl q3, q4⟩, hX U (U.calling g mk a) rfl q5⟩
theorem n_callI (C : CN κ ω cc nL d own MC MS) {l : Launch} {y : MethodName} {b : ByteArray} {maxL d' mc mz ix a : Nat} {av sin : List Value} {ws : va_W} {X : State → Prop} {out ms1 : (Nat → Nat) → va_W} (hlau : κ.2.1 = l) (hM : CTn l ω y b maxL d' mc mz (.ref a :: av) ws X out) (hXs : ∀ u U : State, U.vm = u.vm → X u → X U) (hXw : ∀ U : State, κ.2.2.2.2.1.WarmedH U.vm → X U) (hdg : decode cc pc = .ok (.invokespecial ix, 3)) (hw1 : Cond.methodLink own ix y ∈ TT) (hw2 : Cond.instanceMethod y ∈ TT) (hw3 : Cond.initialized y.cls ∈ TT) (hw4 : Cond.code y b maxL none ∈ TT) (hyn : y.name = "<init>") (hdsc : y.cls ≠ "java/lang/invoke/MethodHandle" ∧ y.cls ≠ "java/lang/invoke/VarHandle" ∧ (parseMethodDescriptor y.desc).map (fun d => d.parameters.length) = some av.length) (hd : d' < d) (hmx : maxL ≤ 45) (hst : av.reverse ++ .ref a :: st = sin) (hcs : cs + mc ≤ MC) (hsl : sl + mz ≤ MS) (hp : (ms ++ pre).Perm ws) (hp2 : ∀ u, (out u).Perm (ms1 u ++ pre)) (hroom : (st.map fun v => v.category).sum ≤ 8) (hq : pc + 3 = q) (kk : ∀ u : Nat → Nat, EN κ ω nL Q pre (ms1 u) (cs + mc) (sl + mz) q lv st) : EN κ ω nL Q pre ms cs sl pc lv sin := by
  obtain ⟨p, l, e, R, s, m, args, below, meth, c, cells, slots⟩ := κ
  obtain ⟨⟨hx, hb, hml, hown, hts, hK, hlk, hR, hSX, hB⟩, hMC, hMS⟩ := C
  intro H locs ls hP hS hl
  subst hq
  subst hst
  dsimp only at hMC hMS hlau
  subst hlau
  obtain ⟨hR1, hR2, hR3, hR4⟩ := hR
  refine va_callv (va_runI (As := av) (rest := st) ⟨hx, hb, hml, hown, hts⟩ hM (cwI av.length hts (TT_good (in_ws0 hw4) (fun w h => h)) rfl rfl rfl (hts _ hw3) (hts _ hw1) (hts _ hw2) hyn hdsc ⟨by show d' + 1 ≤ R.frames; omega, by show 8 + (maxL + 11) + 64 * d' ≤ R.locals; omega⟩) ⟨CTn.blind hXs, fun U hU hW => ⟨rfl, ⟨by rw [hU]; exact hP.perm hp, va_K.moved hW.alike hK, by rw [hU]; exact SX.go hW hS hSX, by rw [hU]; exact Nat.le_trans hB hS.1⟩, hXw U hW⟩⟩ rfl rfl hl.1 rfl (lv_room hroom) hdg ⟨by omega, by omega⟩) hS (fun q _ h => h) (fun q h => h) (fun u t H1 locs1 ht hvm hw hB1 hz1 hk1 hS1 => ?_)
  subst ht
  exact kk u t.heap locs1 ls (HW.perm (hp2 u) hB1) hS1 hl
theorem n_callJ (C : CN κ ω cc nL d own MC MS) {l : Launch} {y : MethodName} {b : ByteArray} {maxL d' mc mz ix a : Nat} {host : String} {av sin : List Value} {ws : va_W} {X : State → Prop} {out ms1 : (Nat → Nat) → va_W} (hlau : κ.2.1 = l) (hM : CTn l ω y b maxL d' mc mz (.ref a :: av) ws X out) (hXs : ∀ u U : State, U.vm = u.vm → X u → X U) (hXw : ∀ U : State, κ.2.2.2.2.1.WarmedH U.vm → X U) (hdg : decode cc pc = .ok (.invokespecial ix, 3)) (hw1 : va_Nw (.methodLinkNest own ix y host) κ.2.2.2.2.1) (hw2 : Cond.instanceMethod y ∈ TT) (hw3 : Cond.initialized y.cls ∈ TT) (hw4 : Cond.code y b maxL none ∈ TT) (hyn : y.name = "<init>") (hdsc : y.cls ≠ "java/lang/invoke/MethodHandle" ∧ y.cls ≠ "java/lang/invoke/VarHandle" ∧ (parseMethodDescriptor y.desc).map (fun d => d.parameters.length) = some av.length) (hd : d' < d) (hmx : maxL ≤ 45) (hst : av.reverse ++ .ref a :: st = sin) (hcs : cs + mc ≤ MC) (hsl : sl + mz ≤ MS) (hp : (ms ++ pre).Perm ws) (hp2 : ∀ u, (out u).Perm (ms1 u ++ pre)) (hroom : (st.map fun v => v.category).sum ≤ 8) (hq : pc + 3 = q) (kk : ∀ u : Nat → Nat, EN κ ω nL Q pre (ms1 u) (cs + mc) (sl + mz) q lv st) : EN κ ω nL Q pre ms cs sl pc lv sin := by
  obtain ⟨p, l, e, R, s, m, args, below, meth, c, cells, slots⟩ := κ
  obtain ⟨⟨hx, hb, hml, hown, hts, hK, hlk, hR, hSX, hB⟩, hMC, hMS⟩ := C
  intro H locs ls hP hS hl
  subst hq
  subst hst
  dsimp only at hMC hMS hlau
  subst hlau
  obtain ⟨hR1, hR2, hR3, hR4⟩ := hR
  refine va_callv (va_runIN (host := host) (As := av) (rest := st) ⟨hx, hb, hml, hown, hts⟩ hM ⟨va_cnB av.length hts (TT_good (in_ws0 hw4) (fun w h => h)) rfl rfl rfl hw1 (hts _ hw3) hdsc ⟨by show d' + 1 ≤ R.frames; omega, by show 8 + (maxL + 11) + 64 * d' ≤ R.locals; omega⟩, hyn, hts _ hw2⟩ ⟨CTn.blind hXs, fun U hU hW => ⟨rfl, ⟨by rw [hU]; exact hP.perm hp, va_K.moved hW.alike hK, by rw [hU]; exact SX.go hW hS hSX, by rw [hU]; exact Nat.le_trans hB hS.1⟩, hXw U hW⟩⟩ rfl rfl hl.1 rfl (lv_room hroom) hdg ⟨by omega, by omega⟩) hS (fun q _ h => h) (fun q h => h) (fun u t H1 locs1 ht hvm hw hB1 hz1 hk1 hS1 => ?_)
  subst ht
  exact kk u t.heap locs1 ls (HW.perm (hp2 u) hB1) hS1 hl
end NRows
