/-! ROWS 2: Math, arraycopy, the reader's references, the static row, cells of each kind, named values -/
def om {α : Type} (v : Option Nat) (a : α) (f : Nat → α) : α := match v with
  | none => a
  | some k => f k
/-- a place of a row of six ints (a ring's) -/
def okA (a : Nat) : Bool := decide (a < 56) && (layT.getD a (9, 0) == (6, 6))
def isArr (ω : Om) (a n : Nat) : Prop := a < oN ω ∧ ∀ f, cellK ω a f = .inl (oI ω, n, .inl f)
theorem isArr_okA {ω : Om} {a : Nat} (hn : 56 ≤ oN ω) (h : okA a = true) : isArr ω a 6 := by
  simp only [okA, Bool.and_eq_true, decide_eq_true_eq, beq_iff_eq] at h
  exact ⟨by omega, fun f => by simp only [cellK, h.2]⟩
theorem cOb_Rg {ω : Om} {ρ : Nat} (h : ρ < 3) (f : Nat → Int32) : cellK ω (2 + 8 * ρ) f = .inr (1, F_Rg ω (2 + 8 * ρ) f) := by
  rcases (show ρ = 0 ∨ ρ = 1 ∨ ρ = 2 by omega) with rfl | rfl | rfl <;> rfl
theorem cOb_Tx {ω : Om} {τ : Nat} (h : τ < 6) (f : Nat → Int32) : cellK ω (30 + 3 * τ) f = .inr (3, F_Tx ω (30 + 3 * τ) f) := by
  rcases (show τ = 0 ∨ τ = 1 ∨ τ = 2 ∨ τ = 3 ∨ τ = 4 ∨ τ = 5 by omega) with rfl | rfl | rfl | rfl | rfl | rfl <;> rfl
theorem cOb_Sh {ω : Om} {σ : Nat} (h : σ < 4) (f : Nat → Int32) : cellK ω (48 + 2 * σ) f = .inr (2, F_Sh ω (48 + 2 * σ) f) := by
  rcases (show σ = 0 ∨ σ = 1 ∨ σ = 2 ∨ σ = 3 by omega) with rfl | rfl | rfl | rfl <;> rfl
theorem cAr_Rg {ω : Om} {ρ : Nat} (h : ρ < 3) (j : Nat) (hj : 0 < j ∧ j < 7) (f : Nat → Int32) : cellK ω (2 + 8 * ρ + j) f = .inl (oI ω, 6, .inl f) := by
  rcases (show ρ = 0 ∨ ρ = 1 ∨ ρ = 2 by omega) with rfl | rfl | rfl <;> rcases (show j = 1 ∨ j = 2 ∨ j = 3 ∨ j = 4 ∨ j = 5 ∨ j = 6 by omega) with rfl | rfl | rfl | rfl | rfl | rfl <;> rfl
theorem cAr_Rg7 {ω : Om} {ρ : Nat} (h : ρ < 3) (f : Nat → Int32) : cellK ω (2 + 8 * ρ + 7) f = .inl (oI ω, 36, .inl f) := by
  rcases (show ρ = 0 ∨ ρ = 1 ∨ ρ = 2 by omega) with rfl | rfl | rfl <;> rfl
theorem cAr_Tx1 {ω : Om} {τ : Nat} (h : τ < 6) (f : Nat → Int32) : cellK ω (30 + 3 * τ + 1) f = .inl (oI ω, 160, .inl f) := by
  rcases (show τ = 0 ∨ τ = 1 ∨ τ = 2 ∨ τ = 3 ∨ τ = 4 ∨ τ = 5 by omega) with rfl | rfl | rfl | rfl | rfl | rfl <;> rfl
theorem cAr_Tx2 {ω : Om} {τ : Nat} (h : τ < 6) (f : Nat → Int32) : cellK ω (30 + 3 * τ + 2) f = .inl (oI ω, 3, .inl f) := by
  rcases (show τ = 0 ∨ τ = 1 ∨ τ = 2 ∨ τ = 3 ∨ τ = 4 ∨ τ = 5 by omega) with rfl | rfl | rfl | rfl | rfl | rfl <;> rfl
theorem cAr_Sh1 {ω : Om} {σ : Nat} (h : σ < 4) (f : Nat → Int32) : cellK ω (48 + 2 * σ + 1) f = .inl (oI ω, 40, .inl f) := by
  rcases (show σ = 0 ∨ σ = 1 ∨ σ = 2 ∨ σ = 3 by omega) with rfl | rfl | rfl | rfl <;> rfl
theorem rfo_into {ω : Om} {x : Int32} (h : inb (x - 1) 6 = true) : rfo ω x (fun i => 30 + 3 * i) = .ref (oA ω (30 + 3 * (x - 1).toNatClampNeg)) := by
  have h1 := inb_iff.mp h
  obtain ⟨j, hj, e⟩ := vp_in_of h1 (by decide)
  have e2 : x = nI (j + 1) := by rw [← nI_1, ← e]; exact (Int32.sub_add_cancel x 1).symm
  have e3 : ¬ x = 0 := by rw [e2]; exact nI_ne0 (by omega) (by omega)
  have e4 : x.toNatClampNeg = j + 1 := by rw [e2]; exact nI_clamp (by omega)
  have e5 : (x - 1).toNatClampNeg = j := by rw [e]; exact nI_clamp (by omega)
  rw [rfo, if_neg e3, e4, e5]
  rfl
theorem rfo_put {ω : Om} {τ : Nat} (h : τ < 6) : rfo ω (nI (τ + 1)) (fun i => 30 + 3 * i) = .ref (oA ω (30 + 3 * τ)) := by
  rcases (show τ = 0 ∨ τ = 1 ∨ τ = 2 ∨ τ = 3 ∨ τ = 4 ∨ τ = 5 by omega) with rfl | rfl | rfl | rfl | rfl | rfl <;> rfl
/-- what arraycopy lays -/
def cpM (I : Mem) (k0 k1 : Nat) (sp dp n : Int32) : Mem := fun k => if k = k1 then va_cpy (I k0) (I k1) sp.toNatClampNeg dp.toNatClampNeg n.toNatClampNeg else I k
def cpok (sp dp n : Int32) (n0 n1 : Nat) : Bool := decide (¬ sp < 0 ∧ ¬ dp < 0 ∧ ¬ n < 0 ∧ sp.toNatClampNeg + n.toNatClampNeg ≤ n0 ∧ dp.toNatClampNeg + n.toNatClampNeg ≤ n1)
theorem WL_cp {ω : Om} {I : Mem} {k0 k1 : Nat} {sp dp n : Int32} {e : va_E} (he : e = cellK ω k1 (va_cpy (I k0) (I k1) sp.toNatClampNeg dp.toNatClampNeg n.toNatClampNeg)) : (WL ω I).set k1 (oA ω k1, e) = WL ω (cpM I k0 k1 sp dp n) := by
  subst he
  apply List.ext_getElem?
  intro i
  rw [List.getElem?_set]
  by_cases hi : k1 = i
  · subst hi
    by_cases hk : k1 < oN ω
    · simp [WL, cpM, hk]
    · simp [WL, hk]
  · rw [if_neg hi]
    by_cases hk : i < oN ω
    · rw [WL_get hk, WL_get hk]
      simp [cpM, Ne.symm hi]
    · simp [WL, hk]
section EErows2
variable {κ : Kx} {ω : Om} {cc : ByteArray} {nL d : Nat} {own : String} {α : Type} {G : α × Mem → State → Prop} {X A B : Option (α × Mem)} {I : Mem} {pc q : Nat} {lv : List (Nat × Value)} {st : List Value}
theorem e_nmi {x : Int32} {f : Int32 → Option (α × Mem)} (kk : ∀ v : Int32, EE κ ω nL G (f v) I pc lv (.int v :: st)) : EE κ ω nL G (lt1 x f) I pc lv (.int x :: st) := kk x
theorem e_nml {x : Int64} {f : Int64 → Option (α × Mem)} (kk : ∀ v : Int64, EE κ ω nL G (f v) I pc lv (.long v :: st)) : EE κ ω nL G (lt1 x f) I pc lv (.long x :: st) := kk x
theorem e_nmM {f : Mem → Option (α × Mem)} (kk : ∀ J : Mem, EE κ ω nL G (f J) J pc lv st) : EE κ ω nL G (lt1 I f) I pc lv st := kk I
theorem e_om {v : Option Nat} {g : Nat → Option (α × Mem)} (kn : EE κ ω nL G A I pc lv (.null :: st)) (ks : ∀ a : Nat, okA a = true → EE κ ω nL G (g a) I pc lv (.ref (oA ω a) :: st)) : EE κ ω nL G (om v A (fun a => if okA a = true then g a else none)) I pc lv (va_rf (v.map (oA ω)) :: st) := by
  cases v with
  | none => exact kn
  | some a => exact e_grd (fun h => ks a h)
theorem e_mmax (C : CX κ ω cc nL d own) {ix : Nat} {x y : Int32} (hdg : decode cc pc = .ok (.invokestatic ix, 3)) (hw1 : Cond.methodLink own ix Lib.Math.max.name ∈ TT) (hw2 : Cond.static Lib.Math.max.name ∈ TT) (hw3 : Cond.initialized "java/lang/Math" ∈ TT) (hw4 : Cond.code Lib.Math.max.name Lib.Math.max.code 2 (some .int) ∈ TT) (hd : 1 ≤ d) (hroom : (st.map fun v => v.category).sum ≤ 8) (hq : pc + 3 = q) (kk : EE κ ω nL G X I q lv (.int (if x < y then y else x) :: st)) : EE κ ω nL G X I pc lv (.int y :: .int x :: st) := by
  obtain ⟨p, l, e, R, s, m, args, below, meth, c, cells, slots⟩ := κ
  obtain ⟨hx, hb, hml, hown, hts, hK, hlk, hR, hSX, hB⟩ := C
  intro r hr H locs ls hP hS hl
  subst hq
  obtain ⟨hR1, hR2, hR3, hR4⟩ := hR
  exact va_mmax hx hb (hml.trans hl.1.symm) hown (hts _ hw1) (hts _ hw2) (hts _ hw3) (hts _ hw4) (by omega) (by omega) hR3 hR4 hdg (kk r hr H locs ls hP hS hl)
theorem e_mmin (C : CX κ ω cc nL d own) {ix : Nat} {x y : Int32} (hdg : decode cc pc = .ok (.invokestatic ix, 3)) (hw1 : Cond.methodLink own ix Lib.Math.min.name ∈ TT) (hw2 : Cond.static Lib.Math.min.name ∈ TT) (hw3 : Cond.initialized "java/lang/Math" ∈ TT) (hw4 : Cond.code Lib.Math.min.name Lib.Math.min.code 2 (some .int) ∈ TT) (hd : 1 ≤ d) (hroom : (st.map fun v => v.category).sum ≤ 8) (hq : pc + 3 = q) (kk : EE κ ω nL G X I q lv (.int (if y < x then y else x) :: st)) : EE κ ω nL G X I pc lv (.int y :: .int x :: st) := by
  obtain ⟨p, l, e, R, s, m, args, below, meth, c, cells, slots⟩ := κ
  obtain ⟨hx, hb, hml, hown, hts, hK, hlk, hR, hSX, hB⟩ := C
  intro r hr H locs ls hP hS hl
  subst hq
  obtain ⟨hR1, hR2, hR3, hR4⟩ := hR
  exact va_mmin hx hb (hml.trans hl.1.symm) hown (hts _ hw1) (hts _ hw2) (hts _ hw3) (hts _ hw4) (by omega) (by omega) hR3 hR4 hdg (kk r hr H locs ls hP hS hl)
theorem e_mabs (C : CX κ ω cc nL d own) {ix : Nat} {x : Int32} (hdg : decode cc pc = .ok (.invokestatic ix, 3)) (hw1 : Cond.methodLink own ix Lib.Math.abs.name ∈ TT) (hw2 : Cond.static Lib.Math.abs.name ∈ TT) (hw3 : Cond.initialized "java/lang/Math" ∈ TT) (hw4 : Cond.code Lib.Math.abs.name Lib.Math.abs.code 1 (some .int) ∈ TT) (hd : 1 ≤ d) (hroom : (st.map fun v => v.category).sum ≤ 8) (hq : pc + 3 = q) (kk : EE κ ω nL G X I q lv (.int (if 0 ≤ x then x else 0 - x) :: st)) : EE κ ω nL G X I pc lv (.int x :: st) := by
  obtain ⟨p, l, e, R, s, m, args, below, meth, c, cells, slots⟩ := κ
  obtain ⟨hx, hb, hml, hown, hts, hK, hlk, hR, hSX, hB⟩ := C
  intro r hr H locs ls hP hS hl
  subst hq
  obtain ⟨hR1, hR2, hR3, hR4⟩ := hR
  exact va_mabs hx hb (hml.trans hl.1.symm) hown (hts _ hw1) (hts _ hw2) (hts _ hw3) (hts _ hw4) (by omega) (by omega) hR3 hR4 hdg (kk r hr H locs ls hP hS hl)
theorem e_acopy (C : CX κ ω cc nL d own) {ix k0 k1 n0 n1 : Nat} {sp dp n : Int32} (hdg : decode cc pc = .ok (.invokestatic ix, 3)) (h0 : isArr ω k0 n0) (h1 : isArr ω k1 n1) (hw1 : Cond.methodLink own ix arraycopyName ∈ TT) (hw2 : Cond.native arraycopyName ∈ TT) (hw5 : Cond.static arraycopyName ∈ TT) (hw3 : Cond.initialized "java/lang/System" ∈ TT) (hd : 1 ≤ d) (hroom : (st.map fun v => v.category).sum ≤ 8) (hq : pc + 3 = q) (kk : EE κ ω nL G X (cpM I k0 k1 sp dp n) q lv st) : EE κ ω nL G (if cpok sp dp n n0 n1 = true then X else none) I pc lv (.int n :: .int dp :: .ref (oA ω k1) :: .int sp :: .ref (oA ω k0) :: st) := by
  refine e_grd (fun hi => ?_)
  obtain ⟨p, l, e, R, s, m, args, below, meth, c, cells, slots⟩ := κ
  obtain ⟨hx, hb, hml, hown, hts, hK, hlk, hR, hSX, hB⟩ := C
  intro r hr H locs ls hP hS hl
  subst hq
  obtain ⟨hR1, hR2, hR3, hR4⟩ := hR
  obtain ⟨a1, a2, a3, a4, a5⟩ := of_decide_eq_true hi
  have h9 : nativeFrameWords "java/lang/System" "arraycopy" 5 + 11 ≤ 56 := by decide +kernel
  have h10 : (st.map fun v => v.category).sum + (nativeFrameWords "java/lang/System" "arraycopy" 5 + 11) ≤ R.locals := by omega
  refine va_copyi (ty := .int) hx hb (hml.trans hl.1.symm) hown (hts _ hw1) (hts _ hw2) (hts _ hw5) (hts _ hw3) hK hP.1 hP.2 hS k0 k1 0 0 ((WL_get h0.1).trans (congrArg (fun z => some (oA ω k0, z)) (h0.2 _))) ((WL_get h1.1).trans (congrArg (fun z => some (oA ω k1, z)) (h1.2 _))) rfl rfl rfl a1 a2 a3 a4 a5 (fun i hi => rfl) (by omega) h10 hdg (fun H1 locs1 hP1 hD1 hS1 => ?_)
  rw [WL_cp (h1.2 _).symm] at hP1 hD1
  exact kk r hr H1 locs1 ls ⟨hP1, hD1⟩ hS1 hl
theorem e_bytes (C : CX κ ω cc nL d own) {ix : Nat} (hN : 56 ≤ oN ω) (hdg : decode cc pc = .ok (.getfield ix, 3)) (hin : ∀ w ∈ u_ws RX1 TX1 7, w ∈ TT) (hw : Cond.fieldLink own ix (TX1 0).1 (TX1 0).2.1 (TX1 0).2.2.1 ∈ TT) (hq : pc + 3 = q) (kk : EE κ ω nL G X I q lv (.ref (oA ω 27) :: st)) : EE κ ω nL G (if I 26 0 = 1 then X else none) I pc lv (.ref (oA ω 26) :: st) := by
  refine e_grd (fun hi => ?_)
  refine e_getf C (k := 26) (j := 0) (v := .ref (oA ω 27)) hdg (by omega) rfl rfl (by decide) hin hw ?_ hq kk
  show some (rfo ω (I 26 0) (fun _ => 27)) = _
  rw [hi]
  rfl
theorem e_into (C : CX κ ω cc nL d own) {ix : Nat} (hN : 56 ≤ oN ω) (hdg : decode cc pc = .ok (.getfield ix, 3)) (hin : ∀ w ∈ u_ws RX1 TX1 7, w ∈ TT) (hw : Cond.fieldLink own ix (TX1 6).1 (TX1 6).2.1 (TX1 6).2.2.1 ∈ TT) (hq : pc + 3 = q) (kk : (I 26 6 - 1).toNatClampNeg < 6 → EE κ ω nL G X I q lv (.ref (oA ω (30 + 3 * (I 26 6 - 1).toNatClampNeg)) :: st)) : EE κ ω nL G (if inb (I 26 6 - 1) 6 = true then X else none) I pc lv (.ref (oA ω 26) :: st) := by
  refine e_grd (fun hi => ?_)
  have h6 : (I 26 6 - 1).toNatClampNeg < 6 := by
    obtain ⟨j, hj, e⟩ := vp_in_of (inb_iff.mp hi) (by decide)
    rw [e, nI_clamp (by omega)]
    exact hj
  refine e_getf C (k := 26) (j := 6) (v := .ref (oA ω (30 + 3 * (I 26 6 - 1).toNatClampNeg))) hdg (by omega) rfl rfl (by decide) hin hw ?_ hq (kk h6)
  show some (rfo ω (I 26 6) (fun i => 30 + 3 * i)) = _
  rw [rfo_into hi]
theorem inb_lt {i : Int32} {n : Nat} (h : inb i n = true) (hn : n < 2 ^ 31) : i.toNatClampNeg < n := by
  obtain ⟨j, hj, e⟩ := vp_in_of (inb_iff.mp h) hn
  rw [e, nI_clamp (by omega)]
  exact hj
theorem e_aldT1 (C : CX κ ω cc nL d own) {i : Int32} (hN : 56 ≤ oN ω) (hdg : decode cc pc = .ok (.aaload, 1)) (hq : pc + 1 = q) (kk : i.toNatClampNeg < 6 → EE κ ω nL G X I q lv (.ref (oA ω (30 + 3 * i.toNatClampNeg)) :: st)) : EE κ ω nL G (if inb i 6 = true then X else none) I pc lv (.int i :: .ref (oA ω 1) :: st) := by
  refine e_grd (fun hi => ?_)
  have h := e_aldT C (X := X) (I := I) (i := i) (lv := lv) (st := st) hN hdg hq (kk (inb_lt hi (by decide))) (G := G)
  rw [if_pos hi] at h
  exact h
theorem e_aldS1 (C : CX κ ω cc nL d own) {i : Int32} (hN : 56 ≤ oN ω) (hdg : decode cc pc = .ok (.aaload, 1)) (hq : pc + 1 = q) (kk : i.toNatClampNeg < 4 → EE κ ω nL G X I q lv (.ref (oA ω (48 + 2 * i.toNatClampNeg)) :: st)) : EE κ ω nL G (if inb i 4 = true then X else none) I pc lv (.int i :: .ref (oA ω 28) :: st) := by
  refine e_grd (fun hi => ?_)
  have h := e_aldS C (X := X) (I := I) (i := i) (lv := lv) (st := st) hN hdg hq (kk (inb_lt hi (by decide))) (G := G)
  rw [if_pos hi] at h
  exact h
theorem e_above (C : CX κ ω cc nL d own) {ix : Nat} (hdg : decode cc pc = .ok (.getstatic ix, 3)) (hw : Cond.fieldLink own ix "HatsInRing$Kinds" "ABOVE" "[I" ∈ TT) (hq : pc + 3 = q) (kk : ∀ t : Nat, va_T .int t 6 (fun i => .int (above.getD i 0)) (oFr ω) κ.2.2.2.2.1 κ.2.2.2.2.1.heap → EE κ ω nL G X I q lv (.ref t :: st)) : EE κ ω nL G X I pc lv st := by
  obtain ⟨p, l, e, R, s, m, args, below, meth, c, cells, slots⟩ := κ
  obtain ⟨hx, hb, hml, hown, hts, hK, hlk, hR, hSX, hB⟩ := C
  intro r hr H locs ls hP hS hl
  subst hq
  obtain ⟨t, hZ, hT⟩ := hSX.1
  exact va_gets hx hb hZ hS hown (hts _ hw) (fun _ h => h) hdg (kk t hT r hr H locs ls hP hS hl)
theorem e_aldA (C : CX κ ω cc nL d own) {t : Nat} {i : Int32} (hT : va_T .int t 6 (fun i => .int (above.getD i 0)) (oFr ω) κ.2.2.2.2.1 κ.2.2.2.2.1.heap) (hdg : decode cc pc = .ok (.iaload, 1)) (hq : pc + 1 = q) (kk : EE κ ω nL G X I q lv (.int (above.getD i.toNatClampNeg 0) :: st)) : EE κ ω nL G (if inb i 6 = true then X else none) I pc lv (.int i :: .ref t :: st) := by
  refine e_grd (fun hi => ?_)
  obtain ⟨p, l, e, R, s, m, args, below, meth, c, cells, slots⟩ := κ
  obtain ⟨hx, hb, hml, hown, hts, hK, hlk, hR, hSX, hB⟩ := C
  intro r hr H locs ls hP hS hl
  subst hq
  exact va_ti hx hb hT hS (inb_iff.mp hi) rfl hdg (kk r hr H locs ls hP hS hl)
theorem e_ldcS (C : CX κ ω cc nL d own) {ix i : Nat} (hi : i < 13) (ho : strOwn i = own) (hx1 : strIx i = ix) (hdg : decode cc pc = .ok (.ldc ix, 2)) (hq : pc + 2 = q) (kk : EE κ ω nL G X I q lv (.ref (oK ω i) :: st)) : EE κ ω nL G X I pc lv st := by
  obtain ⟨p, l, e, R, s, m, args, below, meth, c, cells, slots⟩ := κ
  obtain ⟨hx, hb, hml, hown, hts, hK, hlk, hR, hSX, hB⟩ := C
  intro r hr H locs ls hP hS hl
  subst hq
  subst ho
  subst hx1
  exact va_ldcS hx hb hown (hSX.2.2.2.2.1 i hi) hdg (kk r hr H locs ls hP hS hl)
theorem e_callWi (C : CX κ ω cc nL d own) {l : Launch} {y : MethodName} {b : ByteArray} {maxL d' ix j : Nat} {ret : Option FieldType} {av sin : List Value} {x : Option (Int32 × Mem)} {f : Int32 → Mem → Option (α × Mem)} (hlau : κ.2.1 = l) (hC : CTi l ω y b maxL ret d' (.ref (oK ω j) :: av) x I) (hdg : decode cc pc = .ok (.invokevirtual ix, 3)) (hw1 : Cond.methodLink own ix y ∈ TT) (hw2 : Cond.instanceMethod y ∈ TT) (hw5 : Cond.selects y.cls y y ∈ TT) (hw3 : Cond.initialized y.cls ∈ TT) (hw4 : Cond.code y b maxL ret ∈ TT) (hdsc : y.cls ≠ "java/lang/invoke/MethodHandle" ∧ y.cls ≠ "java/lang/invoke/VarHandle" ∧ (parseMethodDescriptor y.desc).map (fun d => d.parameters.length) = some av.length) (hd : d' < d) (hmx : maxL ≤ 45) (hst : av.reverse ++ .ref (oK ω j) :: st = sin) (hj : j < 13) (hcls : y.cls = "java/lang/String") (hroom : (st.map fun v => v.category).sum ≤ 8) (hq : pc + 3 = q) (kk : ∀ (v : Int32) (J : Mem), EE κ ω nL G (f v J) J q lv (.int v :: st)) : EE κ ω nL G (bnd x f) I pc lv sin := by
  obtain ⟨p, l, e, R, s, m, args, below, meth, c, cells, slots⟩ := κ
  obtain ⟨hx, hb, hml, hown, hts, hK, hlk, hR, hSX, hB⟩ := C
  intro r hr
  subst hst
  subst hq
  dsimp only at hlau
  subst hlau
  obtain ⟨hR1, hR2, hR3, hR4⟩ := hR
  obtain ⟨z, hz, hr⟩ := Option.bind_eq_some_iff.mp hr
  intro H locs ls hP hS hl
  refine va_calli (va_runV (C := y.cls) (As := av) (rest := st) ⟨hx, hb, hml, hown, hts⟩ (hC z hz) (cwV av.length hts (TT_good (in_wsV hw1 hw2 hw5 hw3 hw4) (fun w h => h)) rfl rfl rfl ⟨rfl, hdsc⟩ ⟨by show d' + 1 ≤ R.frames; omega, by show 8 + (maxL + 11) + 64 * d' ≤ R.locals; omega⟩) ⟨WD.blind, by rw [hcls]; exact vk_recv hSX.2.2.2.1 hj hS, fun U hU hW => ⟨rfl, by rw [hU]; exact hP, va_K.moved hW.alike hK, by rw [hU]; exact SX.go hW hS hSX, by rw [hU]; exact Nat.le_trans hB hS.1⟩⟩ rfl rfl hl.1 rfl (lv_room hroom) hdg ⟨hR3, hR4⟩) hS (fun q _ h => h) (fun q h => h) (fun u1 u t H1 locs1 ht hvm hw hB hz1 hk1 hS1 => ?_)
  obtain ⟨v, J⟩ := z
  subst ht
  cases hw
  exact kk v J r hr t.heap locs1 ls hB hS1 hl
end EErows2
