/-! THE CLAIM OUT OF ONE WALK OF THE LAW'S BODY. Your part is whole_start (and what it stands on); all else here is the same for every law, but numbers. -/
def R_law : String := "HatsInRingLaw"
def lw_P (b : Addr) (xs : List Int32) (args : Array Value) (s : State) : Prop := args = #[.ref b] ∧ s.IntsAt b xs ∧ xs.length ≤ 3584 ∧ (Jvm.Cond.and given_1 narrow_1).before args s = true
def lw_Q (_ : Array Value) (s : State) (o : Outcome) (t : State) : Prop := o = .returned (some (.int 1)) ∧ Framed s o t [] 600000 7302250
def lw_Z (below : List Frame) (a : Array Value) (s : State) : State → Prop := fun t => ∃ o, t.status = .running ∧ Ended t below o ∧ lw_Q a s o t
/-- the law's own end, with 1 on the stack, nothing written that was there before, its room as the claim has it -/
theorem lw_ret {p : Program} {l : Launch} {e : Env} {s : State} {m : MethodId} {below : List Frame} {meth : Method} {c : Code} {b : Nat} (hx : p.tables.exec = Jvm.exec) (hb : c.code = code) (hr : meth.sig.returnType = ret) (hlocks : meth.locks = false) {pc : Nat} {H : Heap} {ls : Array Slot} (hdg : decode code pc = .ok (.ireturn, 1)) : W p l e room_1 s m #[Value.ref b] below meth c H [] 600000 7302250 (lw_Z below #[Value.ref b] s) (F0 m pc ls [.int 1]) := by
  intro T hT X
  obtain ⟨fs, hret, hrun, hended, hW, hframe⟩ := X.leave (v := some (.int 1)) (hlocks := hlocks) (fun h => by rw [hr] at h; cases h)
  have hmeth' : T.vm.method? m = some meth := X.method'
  refine ⟨T.setFrames fs, ?_, .returned (some (.int 1)), hrun, hended, rfl, ⟨_, rfl⟩, hW, hframe⟩
  jvm_step X.here [X.here.top, hx, hb, hdg, hmeth', hr, ret, narrow_b1]
  (try refine ⟨rfl, ?_⟩); (try refine ⟨rfl, ?_⟩)
  first | (intro acts; rw [hret _ acts rfl rfl rfl]) | rw [hret _ _ rfl rfl rfl]
  exact Steps.refl _
/-- what holds at the law's entry: the machine, the code, the tables' words (any of lw_tbl by 'hts w (by decide +kernel)'), the script of L ints xs at the cell b, what the Statement gives of the start (any of its parts by flat_of_before) -/
def lw_At (p : Program) (s : State) (m : MethodId) (meth : Method) (c : Code) (b L : Nat) (xs : Nat → Int32) : Prop :=
  p.tables.exec = Jvm.exec ∧ c.code = code ∧ meth.sig.returnType = ret ∧ c.maxLocals = 4 ∧ s.vm.findClass R_law = some m.cls ∧ (∀ w ∈ lw_tbl, w.before #[Value.ref b] s = true) ∧ va_X b L xs s s.heap ∧ b < s.heap.size ∧ meth.locks = false ∧ (Jvm.Cond.and given_1 narrow_1).before #[Value.ref b] s = true
def GLaw (κ : Kx) (b : Nat) (_ : Unit × Mem) : State → Prop := match κ with
  | (_, _, _, _, s, _, _, below, _, _, _, _) => lw_Z below #[Value.ref b] s
/-- what the law's own frame knows: the room, its argument, the script -/
def LX (κ : Kx) (ω : Om) (b L : Nat) (xs : Nat → Int32) : Prop := match κ with
  | (_, _, _, R, s, _, args, _, meth, _, cells, slots) => R = room_1 ∧ args = #[Value.ref b] ∧ meth.sig.returnType = ret ∧ va_X b L xs s s.heap ∧ b < s.heap.size ∧ oB ω = s.heap.size ∧ cells ≤ 600000 ∧ slots ≤ 7302250
section LawRows
variable {κ : Kx} {ω : Om} {cc : ByteArray} {nL d : Nat} {own : String} {α : Type} {G : α × Mem → State → Prop} {X A B : Option (α × Mem)} {I : Mem} {pc q : Nat} {lv : List (Nat × Value)} {st : List Value} {b L : Nat} {xs : Nat → Int32}
theorem e_slen (C : CX κ ω cc nL d own) (Z : LX κ ω b L xs) (hdg : decode cc pc = .ok (.arraylength, 1)) (hq : pc + 1 = q) (kk : EE κ ω nL G X I q lv (.int (nI L) :: st)) : EE κ ω nL G X I pc lv (.ref b :: st) := by
  obtain ⟨p, l, e, R, s, m, args, below, meth, c, cells, slots⟩ := κ
  obtain ⟨hx, hb, hml, hown, hts, hK, hlk, hR, hSX, hB⟩ := C
  obtain ⟨z1, z2, z3, z4, z5, z6, z7, z8⟩ := Z
  intro r hr H locs ls hP hS hl
  subst hq
  exact va_slen hx hb z4 z5 (fun h => by have h : oB ω ≤ b := h; omega) hS hdg (kk r hr H locs ls hP hS hl)
theorem e_sld (C : CX κ ω cc nL d own) (Z : LX κ ω b L xs) {i : Int32} (hdg : decode cc pc = .ok (.iaload, 1)) (hq : pc + 1 = q) (kk : EE κ ω nL G X I q lv (.int (xs i.toNatClampNeg) :: st)) : EE κ ω nL G (if inb i L = true then X else none) I pc lv (.int i :: .ref b :: st) := by
  refine e_grd (fun hi => ?_)
  obtain ⟨p, l, e, R, s, m, args, below, meth, c, cells, slots⟩ := κ
  obtain ⟨hx, hb, hml, hown, hts, hK, hlk, hR, hSX, hB⟩ := C
  obtain ⟨z1, z2, z3, z4, z5, z6, z7, z8⟩ := Z
  intro r hr H locs ls hP hS hl
  subst hq
  exact va_sld hx hb z4 z5 (fun h => by have h : oB ω ≤ b := h; omega) hS (inb_iff.mp hi) hdg (kk r hr H locs ls hP hS hl)
theorem e_lawret (C : CX κ ω code nL d own) (Z : LX κ ω b L xs) (hdg : decode code pc = .ok (.ireturn, 1)) : EE κ ω nL (GLaw κ b) (some ((), I)) I pc lv [.int 1] := by
  obtain ⟨p, l, e, R, s, m, args, below, meth, c, cells, slots⟩ := κ
  obtain ⟨hx, hb, hml, hown, hts, hK, hlk, hR, hSX, hB⟩ := C
  obtain ⟨z1, z2, z3, z4, z5, z6, z7, z8⟩ := Z
  intro r hr H locs ls hP hS hl
  subst z1
  subst z2
  refine va_forget (fun q hq => by have h := hS.2.2 q hq; have h : oB ω ≤ q.base := h; omega) ?_
  refine W.widen (k := 600000) (n := 7302250) z7 z8 ?_
  exact lw_ret hx hb z3 hlk hdg
end LawRows
