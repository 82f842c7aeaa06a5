/-! PURE 45: the class's reader is the parser -/
section RdPR
variable {tx : Nat → Nat} {tp : Nat}
theorem tk1 {t : Int32} : tkK t = 1 ↔ t = -6 := ⟨fun h => by rcases (tk_op h (by omega)).1 with rfl | rfl | rfl | rfl | rfl | rfl | rfl <;> first | rfl | exact absurd h (by decide), fun h => by rw [h]; decide⟩
theorem tk2 {t : Int32} : tkK t = 2 ↔ t = -7 := ⟨fun h => by rcases (tk_op h (by omega)).1 with rfl | rfl | rfl | rfl | rfl | rfl | rfl <;> first | rfl | exact absurd h (by decide), fun h => by rw [h]; decide⟩
theorem tk6 {t : Int32} : tkK t = 6 ↔ t = -20 := ⟨fun h => by rcases (tk_op h (by omega)).1 with rfl | rfl | rfl | rfl | rfl | rfl | rfl <;> first | rfl | exact absurd h (by decide), fun h => by rw [h]; decide⟩
theorem tk5 {t : Int32} : tkK t = 5 ↔ t = -18 ∨ t = -19 := ⟨fun h => by rcases (tk_op h (by omega)).1 with rfl | rfl | rfl | rfl | rfl | rfl | rfl <;> first | exact Or.inl rfl | exact Or.inr rfl | exact absurd h (by decide), fun h => by rcases h with rfl | rfl <;> decide⟩
theorem tk4 {t : Int32} : tkK t = 4 ↔ t = -21 ∨ t = -22 := ⟨fun h => by rcases (tk_op h (by omega)).1 with rfl | rfl | rfl | rfl | rfl | rfl | rfl <;> first | exact Or.inl rfl | exact Or.inr rfl | exact absurd h (by decide), fun h => by rcases h with rfl | rfl <;> decide⟩
/-- first one, then the loop -/
theorem two_PR {τ kind w' a : Nat} {o : Int32} {gR : Nat → Int32 → Mem → Option (Unit × Mem)} {F : Nat → Int32 → Mem → Option (Unit × Mem)} {R : Nat → Res} (hτ : τ < 6) (hk : kind = 1 ∨ kind = 2 ∨ kind = 4 ∨ kind = 5 ∨ kind = 6) (h1 : ∀ n x J, x < 160 → tkK (J 26 4) = kind → F (n + 1) (nI x) J = bnd (f_X1_next J) fun _ J3 => bnd (gR w' o J3) fun _ J4 => if inb (J4 26 6 - 1) 6 = true then bnd (f_X4_write (J4 26 6 - 1).toNatClampNeg (J 26 4) J4) fun _ J6 => F n (nI (x + 1)) J6 else none) (h2 : ∀ n x J, (160 ≤ x ∧ x ≤ 1000 ∨ x < 160 ∧ ¬ tkK (J 26 4) = kind) → F (n + 1) (nI x) J = some ((), J)) (hR : ∀ b, b ≤ tp → GoR tp b (R b)) (IH : ∀ b J L, SC tx tp J τ b L → ∃ K, gR w' o J = some ((), K) ∧ Out tx tp K τ L (R b) ∧ FrR τ J K) {J : Mem} {L : List Nat} (h : SC tx tp J τ a L) : ∃ K, (bnd (gR w' o J) fun _ J1 => F FU 0 J1) = some ((), K) ∧ Out tx tp K τ L (thenR (R a) fun a1 c => lpR tx tp kind R 160 a1 c) ∧ FrR τ J K := by
  obtain ⟨J1, e1, o1, f1⟩ := IH a J L h
  rw [e1, bnd_some]
  cases hr : R a with
  | inl f =>
    rw [hr] at o1
    have o1' : SB J1 τ f := o1
    have e2 := h2 4095 0 J1 (Or.inr ⟨by omega, by rw [o1'.1, tkK_b]; omega⟩)
    exact ⟨J1, e2, o1', f1⟩
  | inr p =>
    obtain ⟨a1, c1⟩ := p
    rw [hr] at o1
    obtain ⟨K, e, oo, f⟩ := loop_PR hτ hk h1 h2 hR IH 160 0 FU a1 c1 J1 L (by omega) (by show _ < 4096; omega) o1
    exact ⟨K, e, oo, f1.tr f⟩
theorem le160 {x : Nat} (h : x < 160) : ¬ (160 : Int32) ≤ nI x := fun hh => by
  have := (nI_le' (a := 160) (by omega) (by omega)).mp hh
  omega
theorem ge160 {x : Nat} (h : 160 ≤ x) (h2 : x ≤ 1000) : (160 : Int32) ≤ nI x := (nI_le' (a := 160) (by omega) (by omega)).mpr h
end RdPR
