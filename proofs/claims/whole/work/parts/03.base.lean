/-! BASE: the tables' words that may be handed on; the world of one run (all cells, by places); memories; the judgement EE and its rows -/
def TT : List Cond := lw_tbl.filter goodWord
theorem TT_in {i : Nat} {w : Cond} (h : lw_tbl[i]? = some w) (hg : goodWord w = true) : w ∈ TT := List.mem_filter.mpr ⟨List.mem_of_getElem? h, hg⟩
theorem TT_good {big : List Cond} {ws : List Cond} (h1 : ∀ w ∈ ws, w ∈ TT) (h2 : ∀ w ∈ TT, w ∈ big) : GoodIn big ws := fun w h => ⟨h2 w (h1 w h), good_of_word (List.mem_filter.mp (h1 w h)).2⟩
/-- a memory: what the int places of the cells hold -/
abbrev Mem : Type := Nat → Nat → Int32
def wr (I : Mem) (k j : Nat) (x : Int32) : Mem := fun k' => if k' = k then upd (I k) j x else I k'
def lt1 {α β : Type} (x : α) (f : α → β) : β := f x
def bnd {α β : Type} (x : Option (α × Mem)) (f : α → Mem → Option (β × Mem)) : Option (β × Mem) := x.bind (fun z => f z.1 z.2)
theorem bnd_some {α β : Type} (v : α) (J : Mem) (f : α → Mem → Option (β × Mem)) : bnd (some (v, J)) f = f v J := rfl
/-- a world: addresses of places, where its addresses begin, classes and slots, array classes (int, Sheet, Text), how many places, the texts' addresses -/
abbrev Om : Type := (Nat → Nat) × Nat × va_G × ClassId × ClassId × ClassId × Nat × (Nat → Nat) × (Nat → Nat)
abbrev oA (ω : Om) (k : Nat) : Nat := ω.1 k
abbrev oB (ω : Om) : Nat := ω.2.1
abbrev oD (ω : Om) : va_G := ω.2.2.1
abbrev oI (ω : Om) : ClassId := ω.2.2.2.1
abbrev oS (ω : Om) : ClassId := ω.2.2.2.2.1
abbrev oT (ω : Om) : ClassId := ω.2.2.2.2.2.1
abbrev oN (ω : Om) : Nat := ω.2.2.2.2.2.2.1
abbrev oK (ω : Om) (i : Nat) : Nat := ω.2.2.2.2.2.2.2.1 i
abbrev oV (ω : Om) (i : Nat) : Nat := ω.2.2.2.2.2.2.2.2 i
def oFr (ω : Om) : Nat → Prop := fun q => oB ω ≤ q
/-- kind and length of each place -/
def layT : List (Nat × Nat) := [(4, 0), (8, 6), (1, 0), (6, 6), (6, 6), (6, 6), (6, 6), (6, 6), (6, 6), (6, 36), (1, 0), (6, 6), (6, 6), (6, 6), (6, 6), (6, 6), (6, 6), (6, 36), (1, 0), (6, 6), (6, 6), (6, 6), (6, 6), (6, 6), (6, 6), (6, 36), (0, 0), (6, 160), (7, 4), (6, 160),
  (3, 0), (6, 160), (6, 3), (3, 0), (6, 160), (6, 3), (3, 0), (6, 160), (6, 3), (3, 0), (6, 160), (6, 3), (3, 0), (6, 160), (6, 3), (3, 0), (6, 160), (6, 3), (2, 0), (6, 40), (2, 0), (6, 40), (2, 0), (6, 40), (2, 0), (6, 40),
  (5, 0), (6, 6), (6, 6), (6, 24), (6, 36), (6, 160), (6, 1200), (6, 24), (6, 60), (6, 3), (6, 4), (6, 4), (6, 160), (6, 26), (6, 96), (6, 200), (6, 200), (6, 6), (6, 61)]
def rfo (ω : Om) (x : Int32) (f : Nat → Nat) : Value := if x = 0 then .null else .ref (oA ω (f (x.toNatClampNeg - 1)))
def F_Rd (ω : Om) (f : Nat → Int32) : List Value := [rfo ω (f 0) (fun _ => 27), .int (f 1), .int (f 2), .int (f 3), .int (f 4), .int (f 5), rfo ω (f 6) (fun i => 30 + 3 * i)]
def F_Rg (ω : Om) (k : Nat) (f : Nat → Int32) : List Value := [.ref (oA ω 1), .ref (oA ω (k + 1)), .ref (oA ω (k + 2)), .ref (oA ω (k + 3)), .ref (oA ω (k + 4)), .ref (oA ω (k + 5)), .ref (oA ω (k + 6)), .ref (oA ω (k + 7)), .int (f 8), .int (f 9), .int (f 10)]
def F_Sh (ω : Om) (k : Nat) (f : Nat → Int32) : List Value := [.ref (oA ω (k + 1)), .int (f 1), .int (f 2)]
def F_Tx (ω : Om) (k : Nat) (f : Nat → Int32) : List Value := [.ref (oA ω 29), .ref (oA ω (k + 1)), .ref (oA ω (k + 2)), .int (f 3)]
def F_Ha (ω : Om) (f : Nat → Int32) : List Value := [.ref (oA ω 1), .ref (oA ω 2), .ref (oA ω 10), .ref (oA ω 18), .ref (oA ω 26), .ref (oA ω 27), .ref (oA ω 28), .int (f 7), .int (f 8), .int (f 9)]
def F_Mo (ω : Om) (f : Nat → Int32) : List Value := [.int (f 0), .ref (oA ω 57), .ref (oA ω 58), .ref (oA ω 59), .ref (oA ω 60), .int (f 5), .ref (oA ω 61), .int (f 7), .ref (oA ω 62), .ref (oA ω 63), .int (f 10), .int (f 11), .int (f 12), .ref (oA ω 64), .ref (oA ω 65), .ref (oA ω 66), .ref (oA ω 67), .ref (oA ω 68), .ref (oA ω 69), .int (f 19), .int (f 20), .int (f 21), .int (f 22), .ref (oA ω 70), .ref (oA ω 71), .int (f 25), .int (f 26), .int (f 27), .ref (oA ω 72), .ref (oA ω 73), .ref (oA ω 74), .int (f 31)]
def cellK (ω : Om) (k : Nat) (f : Nat → Int32) : va_E :=
  match layT.getD k (9, 0) with
  | (0, _) => .inr (0, F_Rd ω f)
  | (1, _) => .inr (1, F_Rg ω k f)
  | (2, _) => .inr (2, F_Sh ω k f)
  | (3, _) => .inr (3, F_Tx ω k f)
  | (4, _) => .inr (4, F_Ha ω f)
  | (5, _) => .inr (5, F_Mo ω f)
  | (6, n) => .inl (oI ω, n, .inl f)
  | (7, n) => .inl (oS ω, n, .inr (.inr (.inr (.inr (fun i => some (oA ω (48 + 2 * i)))))))
  | (_, n) => .inl (oT ω, n, .inr (.inr (.inr (.inr (fun i => some (oA ω (30 + 3 * i)))))))
def WL (ω : Om) (I : Mem) : va_W := (List.range (oN ω)).map (fun k => (oA ω k, cellK ω k (I k)))
theorem WL_get {ω : Om} {I : Mem} {k : Nat} (h : k < oN ω) : (WL ω I)[k]? = some (oA ω k, cellK ω k (I k)) := by
  simp [WL, h]
theorem WL_set {ω : Om} {I : Mem} {k j : Nat} {x : Int32} {e : va_E} (he : e = cellK ω k (upd (I k) j x)) : (WL ω I).set k (oA ω k, e) = WL ω (wr I k j x) := by
  subst he
  apply List.ext_getElem?
  intro i
  rw [List.getElem?_set]
  by_cases hi : k = i
  · subst hi
    by_cases hk : k < oN ω
    · simp [WL, wr, hk]
    · simp [WL, hk]
  · rw [if_neg hi]
    by_cases hk : i < oN ω
    · rw [WL_get hk, WL_get hk]
      simp [wr, Ne.symm hi]
    · simp [WL, hk]
def TY (ω : Om) : List (ClassId × FieldType) := [(oI ω, .int), (oS ω, .object RX3), (oT ω, .object RX4)]
def HP (ω : Om) (I : Mem) (H : Heap) : Prop := va_P (oD ω) vwCl (WL ω I) H ∧ va_D (oFr ω) (WL ω I)
/-- what the launch gives of the class statics and the texts -/
def above : List Int32 := [-1, 0, 0, 1, 2, 0]
def strL : List Nat := [26, 4, 4, 4, 2, 3, 3, 4, 5, 5, 2, 5, 4]
def strB : List (List Int32) := [[103, 111, 101, 115, 32, 49, 32, 59, 32, 104, 105, 116, 115, 32, 53, 32, 59, 32, 115, 111, 102, 116, 32, 48, 32, 59], [103, 111, 101, 115], [104, 105, 116, 115], [115, 111, 102, 116], [111, 114], [97, 110, 100], [110, 111, 116], [102, 101, 108, 116], [112, 114, 105, 100, 101], [114, 111, 117, 110, 100], [117, 112], [98, 108, 111, 119, 115], [109, 111, 114, 101]]
def strOwn (i : Nat) : String := if i = 0 then "HatsInRing" else "HatsInRing$Reader"
def strIx (i : Nat) : Nat := [51, 103, 109, 111, 113, 115, 117, 119, 121, 123, 125, 127, 129].getD i 0
def strTx (i : Nat) : String := ["goes 1 ; hits 5 ; soft 0 ;", "goes", "hits", "soft", "or", "and", "not", "felt", "pride", "round", "up", "blows", "more"].getD i ""
def SX (ω : Om) (U : State) (H : Heap) : Prop :=
  (∃ t : Nat, va_Z "HatsInRing$Kinds" "ABOVE" "[I" (.ref t) (oFr ω) U H ∧ va_T .int t 6 (fun i => .int (above.getD i 0)) (oFr ω) U H) ∧
  va_Z "java/lang/String" "COMPACT_STRINGS" "Z" (.int 1) (oFr ω) U H ∧
  va_Zq "jdk/internal/util/Preconditions" "SIOOBE_FORMATTER" "Ljava/util/function/BiFunction;" (oFr ω) U H ∧
  vk_S 13 strL strB (oK ω) (oV ω) (oFr ω) U H ∧
  (∀ i : Nat, i < 13 → vk_R (strOwn i) (strIx i) (strTx i) (oK ω i) U) ∧
  va_Nw (.methodLinkNest "HatsInRing$Kinds" 9 ⟨"HatsInRing", "within", "(III)Z"⟩ "HatsInRing") U
theorem SX.same {ω : Om} {u U : State} {H : Heap} (hv : U.vm = u.vm) (h : SX ω u H) : SX ω U H := by
  obtain ⟨⟨t, h1, h2⟩, h3, h4, h5, h6, h7⟩ := h
  have hA : u.vm.Alike U.vm := by rw [hv]; exact Vm.Alike.refl u.vm
  exact ⟨⟨t, h1.moved hA, h2.moved hA⟩, h3.moved hA, h4.moved hA, h5.moved hA, fun i hi => (h6 i hi).same hv, va_Nw.same rfl hv.symm h7⟩
theorem SX.go {ω : Om} {s U : State} {H : Heap} {locs : List Loc} (hW : s.WarmedH U.vm) (hS : va_S (oFr ω) s.heap H locs) (h : SX ω s s.heap) : SX ω U H := by
  obtain ⟨⟨t, h1, h2⟩, h3, h4, h5, h6, h7⟩ := h
  have hA : s.vm.Alike U.vm := hW.alike
  exact ⟨⟨t, (h1.kept hS.2.1).moved hA, (h2.kept hS.2.1).moved hA⟩, (h3.kept hS.2.1).moved hA, (h4.kept hS.2.1).moved hA, (h5.kept hS.2.1).moved hA, fun i hi => (h6 i hi).warm hW, va_Nw.warmM hW h7⟩
/-- a method's start -/
def WD (ω : Om) (I : Mem) (U : State) : Prop := HP ω I U.heap ∧ va_K (oD ω) vwCl (TY ω) U ∧ SX ω U U.heap ∧ oB ω ≤ U.heap.size
theorem WD.blind {ω : Om} {I : Mem} {av : List Value} : FrameBlind (va_Pc av (WD ω I)) := by
  intro a U g mk q
  obtain ⟨q0, q1, q2, q3, q4⟩ := q
  exact ⟨q0, q1, va_K.moved (u := U) (U := U.calling g mk a) (Vm.Alike.refl U.vm) q2, SX.same (u := U) (U := U.calling g mk a) rfl q3, q4⟩
abbrev RM (d : Nat) : Room := { frames := d, cells := 0, slots := 0, locals := 64 * d }
abbrev Kx : Type := Program × Launch × Env × Room × State × MethodId × Array Value × List Frame × Method × Code × Nat × Nat
def CX (κ : Kx) (ω : Om) (cc : ByteArray) (nL d : Nat) (own : String) : Prop :=
  match κ with
  | (p, l, e, R, s, m, args, below, meth, c, cells, slots) => p.tables.exec = Jvm.exec ∧ c.code = cc ∧ c.maxLocals = nL ∧ s.vm.findClass own = some m.cls ∧ (∀ w ∈ TT, w.before args s = true) ∧ va_K (oD ω) vwCl (TY ω) s ∧ meth.locks = false ∧ (d ≤ R.frames ∧ 64 * d ≤ R.locals ∧ cells ≤ R.cells ∧ slots ≤ R.slots) ∧ SX ω s s.heap ∧ oB ω ≤ s.heap.size
def EW (κ : Kx) (ω : Om) (nL : Nat) (Q : State → Prop) (I : Mem) (pc : Nat) (lv : List (Nat × Value)) (st : List Value) : Prop :=
  match κ with
  | (p, l, e, R, s, m, args, below, meth, c, cells, slots) => ∀ (H : Heap) (locs : List Loc) (ls : Array Slot), HP ω I H → va_S (oFr ω) s.heap H locs → lv_has ls nL lv → W p l e R s m args below meth c H locs cells slots Q (F0 m pc ls st)
/-- the pure answer X is what the machine comes to -/
def EE {α : Type} (κ : Kx) (ω : Om) (nL : Nat) (G : α × Mem → State → Prop) (X : Option (α × Mem)) (I : Mem) (pc : Nat) (lv : List (Nat × Value)) (st : List Value) : Prop :=
  ∀ r, X = some r → EW κ ω nL (G r) I pc lv st
def Gi (κ : Kx) (ω : Om) (r : Int32 × Mem) : State → Prop := match κ with
  | (_, _, _, _, s, _, args, below, _, _, cells, slots) => MQ below (va_Qi (fun (v : Int32) (_ : Unit) => v = r.1) (fun (_ : Unit) t => HP ω r.2 t.heap) (oFr ω)) args s cells slots (oFr ω)
def Gl (κ : Kx) (ω : Om) (r : Int64 × Mem) : State → Prop := match κ with
  | (_, _, _, _, s, _, args, below, _, _, cells, slots) => MQ below (va_Ql (fun (v : Int64) (_ : Unit) => v = r.1) (fun (_ : Unit) t => HP ω r.2 t.heap) (oFr ω)) args s cells slots (oFr ω)
def Gv (κ : Kx) (ω : Om) (r : Unit × Mem) : State → Prop := match κ with
  | (_, _, _, _, s, _, args, below, _, _, cells, slots) => MQ below (va_Qv (fun (_ : Unit) => True) (fun (_ : Unit) t => HP ω r.2 t.heap) (oFr ω)) args s cells slots (oFr ω)
def Gq (κ : Kx) (ω : Om) (r : Option Nat × Mem) : State → Prop := match κ with
  | (_, _, _, _, s, _, args, below, _, _, cells, slots) => MQ below (va_Qq (fun (v : Option Nat) (_ : Unit) => v = r.1.map (oA ω)) (fun (_ : Unit) t => HP ω r.2 t.heap) (oFr ω)) args s cells slots (oFr ω)
/-- contracts: the pure answer is the method's -/
def CTi (l : Launch) (ω : Om) (y : MethodName) (b : ByteArray) (maxL : Nat) (ret : Option FieldType) (d : Nat) (av : List Value) (X : Option (Int32 × Mem)) (I : Mem) : Prop :=
  ∀ r, X = some r → Met l y (.code y b maxL ret :: TT) (RM d) (va_Pc av (WD ω I)) (va_Qi (fun (v : Int32) (_ : Unit) => v = r.1) (fun (_ : Unit) t => HP ω r.2 t.heap) (oFr ω)) 0 0 (oFr ω)
def CTl (l : Launch) (ω : Om) (y : MethodName) (b : ByteArray) (maxL : Nat) (ret : Option FieldType) (d : Nat) (av : List Value) (X : Option (Int64 × Mem)) (I : Mem) : Prop :=
  ∀ r, X = some r → Met l y (.code y b maxL ret :: TT) (RM d) (va_Pc av (WD ω I)) (va_Ql (fun (v : Int64) (_ : Unit) => v = r.1) (fun (_ : Unit) t => HP ω r.2 t.heap) (oFr ω)) 0 0 (oFr ω)
def CTv (l : Launch) (ω : Om) (y : MethodName) (b : ByteArray) (maxL : Nat) (ret : Option FieldType) (d : Nat) (av : List Value) (X : Option (Unit × Mem)) (I : Mem) : Prop :=
  ∀ r, X = some r → Met l y (.code y b maxL ret :: TT) (RM d) (va_Pc av (WD ω I)) (va_Qv (fun (_ : Unit) => True) (fun (_ : Unit) t => HP ω r.2 t.heap) (oFr ω)) 0 0 (oFr ω)
def CTq (l : Launch) (ω : Om) (y : MethodName) (b : ByteArray) (maxL : Nat) (ret : Option FieldType) (d : Nat) (av : List Value) (X : Option (Option Nat × Mem)) (I : Mem) : Prop :=
  ∀ r, X = some r → Met l y (.code y b maxL ret :: TT) (RM d) (va_Pc av (WD ω I)) (va_Qq (fun (v : Option Nat) (_ : Unit) => v = r.1.map (oA ω)) (fun (_ : Unit) t => HP ω r.2 t.heap) (oFr ω)) 0 0 (oFr ω)
