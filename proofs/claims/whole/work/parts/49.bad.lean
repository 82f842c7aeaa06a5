/-! PURE 40: once refused, the class's reader stays so -/
theorem s1_refuse {J : Mem} (h4 : J 26 4 = -2) (h5 : ¬ J 26 5 = -1) : f_X1_refuse J = some ((), J) := by
  have e : wr J 26 4 (-2) = J := by
    have := wr_id J 26 4
    rw [h4] at this
    exact this
  rw [f_X1_refuse, if_neg h5, f_X1_refuse_b16, lt1_eq, e]
theorem s1_expect_bad {J : Mem} {a : Int32} (h4 : J 26 4 = -2) (h5 : ¬ J 26 5 = -1) (ha : ¬ a = -2) : f_X1_expect a J = some ((), J) := by
  rw [f_X1_expect, h4, if_neg (fun h => ha h.symm), s1_refuse h4 h5, bnd_some]
theorem rd_bad {J : Mem} (h4 : J 26 4 = -2) (h5 : ¬ J 26 5 = -1) : ∀ (d g w : Nat) (o : Int32), w + d = 5 → d < g → f_rd g w o J = some ((), J) := by
  have n1 : ∀ x : Int32, x = -6 ∨ x = -7 ∨ x = -8 ∨ x = -15 ∨ x = -18 ∨ x = -19 ∨ x = -20 ∨ x = -21 ∨ x = -22 → ¬ (-2 : Int32) = x := by
    rintro x (rfl | rfl | rfl | rfl | rfl | rfl | rfl | rfl | rfl) <;> decide
  intro d
  induction d with
  | zero =>
    intro g w o hw hg
    obtain ⟨g, rfl⟩ : ∃ m, g = m + 1 := ⟨g - 1, by omega⟩
    obtain rfl : w = 5 := by omega
    rw [f_rd, if_neg (by decide), if_neg (by decide), if_neg (by decide), if_neg (by decide), if_neg (by decide), if_pos rfl, B_X1_readOne, h4, if_neg (by decide), f_X5_isName, if_pos (by decide), bnd_some, if_pos rfl, h4, if_neg (by decide), f_X1_readOne_b72, h4, if_neg (by decide), f_X1_readOne_b106, s1_refuse h4 h5, bnd_some]
  | succ d ih =>
    intro g w o hw hg
    obtain ⟨g, rfl⟩ : ∃ m, g = m + 1 := ⟨g - 1, by omega⟩
    have hR : ∀ o, f_rd g (w + 1) o J = some ((), J) := fun o => ih g (w + 1) o (by omega) (by omega)
    rcases (show w = 0 ∨ w = 1 ∨ w = 2 ∨ w = 3 ∨ w = 4 by omega) with rfl | rfl | rfl | rfl | rfl
    · rw [f_rd, if_pos rfl, B_X1_readE, hR, bnd_some, show FU = 4095 + 1 from rfl, f_X1_readE_b7, if_neg (by decide), h4, if_neg (by decide)]
    · rw [f_rd, if_neg (by decide), if_pos rfl, B_X1_readAnd, hR, bnd_some, show FU = 4095 + 1 from rfl, f_X1_readAnd_b7, if_neg (by decide), h4, if_neg (by decide)]
    · rw [f_rd, if_neg (by decide), if_neg (by decide), if_pos rfl, B_X1_readNot, h4, if_neg (by decide), f_X1_readNot_b35, hR, bnd_some, h4, if_neg (by decide), if_neg (by decide)]
    · rw [f_rd, if_neg (by decide), if_neg (by decide), if_neg (by decide), if_pos rfl, B_X1_readSum, hR, bnd_some, show FU = 4095 + 1 from rfl, f_X1_readSum_b7, if_neg (by decide), h4, if_neg (by decide), if_neg (by decide)]
    · rw [f_rd, if_neg (by decide), if_neg (by decide), if_neg (by decide), if_neg (by decide), if_pos rfl, B_X1_readTerm, hR, bnd_some, show FU = 4095 + 1 from rfl, f_X1_readTerm_b7, if_neg (by decide), h4, if_neg (by decide)]
/-! the tokens as the parser sees them -/
/-- kinds of tokens: 0 an operand (number, name), 1 or, 2 and, 3 not, 4 < =, 5 + -, 6 *, 7 open, 8 close, 9 else -/
def tkK (t : Int32) : Nat := if 0 ≤ t then 0 else if t = -6 then 1 else if t = -7 then 2 else if t = -8 then 3 else if t = -21 then 4 else if t = -22 then 4 else if t = -18 then 5 else if t = -19 then 5 else if t = -20 then 6 else if t = -15 then 7 else if t = -16 then 8 else if -9 < t then 9 else if t < -14 then 9 else 0
/-- the model's code of an operand or a sign between -/
def tkM (t : Int32) : Nat := if 0 ≤ t then 100000 + t.toNatClampNeg else if t = -6 then 11 else if t = -7 then 12 else if t = -8 then 13 else if t = -21 then 14 else if t = -22 then 15 else if t = -18 then 16 else if t = -19 then 17 else if t = -20 then 18 else (-9 - t).toNatClampNeg
