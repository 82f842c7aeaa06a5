/-! PURE 34: tokens; the class's next -/
section Lex
variable (tx : Nat → Nat) (tp : Nat)
/-- past blanks, past letters, past digits -/
def skF : Nat → Nat → Nat
  | 0, a => a
  | k + 1, a => if a < tp ∧ (tx a = 32 ∨ tx a = 10) then skF k (a + 1) else a
def weF : Nat → Nat → Nat
  | 0, a => a
  | k + 1, a => if a < tp ∧ 97 ≤ tx a ∧ tx a ≤ 122 then weF k (a + 1) else a
def nuF (s : Nat) : Nat → Nat → Int32 → Nat × Int32
  | 0, a, v => (a, v)
  | k + 1, a, v => if a < tp ∧ 48 ≤ tx a ∧ tx a ≤ 57 then nuF s k (a + 1) (if 4 ≤ a - s then -2 else v * 10 + nI (tx a) - 48) else (a, v)
/-- the word i stands from s to e -/
def spS (s e i : Nat) : Bool := decide (e - s = strL.getD i 0) && (List.range (strL.getD i 0)).all (fun x => decide (nI (tx (s + x)) = (strB.getD i []).getD x 0))
def fwF (s e : Nat) : Nat → Nat → Int32
  | 0, _ => -2
  | k + 1, i => if spS tx s e i = true then 0 - nI (2 + i) else fwF s e k (i + 1)
def sgC (b : Nat) : Int32 := if b = 40 then -15 else if b = 41 then -16 else if b = 42 then -20 else if b = 43 then -18 else if b = 45 then -19 else if b = 59 then -17 else if b = 60 then -21 else if b = 61 then -22 else -2
/-- the token at a: its start, the class's code, the place after -/
def LX1 (s : Nat) : Int32 × Nat := if s < tp then (if 97 ≤ tx s ∧ tx s ≤ 122 then (fwF tx s (weF tx tp (tp - s) s) 12 1, weF tx tp (tp - s) s) else if 48 ≤ tx s ∧ tx s ≤ 57 then ((nuF tx tp s (tp - s) s 0).2, (nuF tx tp s (tp - s) s 0).1) else (sgC (tx s), s + 1)) else (-1, s)
def LXs (a : Nat) : Nat := skF tx tp (tp - a) a
end Lex
section LexC
variable {tx : Nat → Nat} {tp : Nat}
theorem skF_b : ∀ (k a : Nat), a ≤ tp → a ≤ skF tx tp k a ∧ skF tx tp k a ≤ tp
  | 0, a, h => ⟨Nat.le_refl _, h⟩
  | k + 1, a, h => by
    rw [skF]
    split
    · have := skF_b k (a + 1) (by omega)
      omega
    · omega
theorem weF_b : ∀ (k a : Nat), a ≤ tp → a ≤ weF tx tp k a ∧ weF tx tp k a ≤ tp
  | 0, a, h => ⟨Nat.le_refl _, h⟩
  | k + 1, a, h => by
    rw [weF]
    split
    · have := weF_b k (a + 1) (by omega)
      omega
    · omega
theorem nuF_b {s : Nat} : ∀ (k a : Nat) (v : Int32), a ≤ tp → a ≤ (nuF tx tp s k a v).1 ∧ (nuF tx tp s k a v).1 ≤ tp
  | 0, a, _, h => ⟨Nat.le_refl _, h⟩
  | k + 1, a, v, h => by
    rw [nuF]
    split
    · have := nuF_b (s := s) k (a + 1) (if 4 ≤ a - s then -2 else v * 10 + nI (tx a) - 48) (by omega)
      omega
    · exact ⟨Nat.le_refl _, h⟩
/-- the class's reader stands at a -/
def RdC (tx : Nat → Nat) (tp : Nat) (J : Mem) (a : Nat) : Prop := J 26 0 = 1 ∧ J 26 1 = nI tp ∧ J 26 2 = nI a ∧ a ≤ tp ∧ tp ≤ 160 ∧ ∀ k, k < tp → J 27 k = nI (tx k) ∧ tx k < 256
theorem s1_isLetter {b : Nat} (hb : b < 256) (I : Mem) : f_X1_isLetter (nI b) I = some (if 97 ≤ b ∧ b ≤ 122 then 1 else 0, I) := by
  rw [f_X1_isLetter, show (97 : Int32) = nI 97 from rfl, show (122 : Int32) = nI 122 from rfl]
  by_cases h1 : b < 97
  · rw [if_pos ((nI_lt' (by omega) (by omega)).mpr h1), if_neg (by omega)]
  · rw [if_neg (by rw [nI_lt' (by omega) (by omega)]; exact h1)]
    by_cases h2 : 122 < b
    · rw [if_pos ((nI_lt' (by omega) (by omega)).mpr h2), if_neg (by omega)]
    · rw [if_neg (by rw [nI_lt' (by omega) (by omega)]; exact h2), if_pos (by omega)]
theorem s1_isDigit {b : Nat} (hb : b < 256) (I : Mem) : f_X1_isDigit (nI b) I = some (if 48 ≤ b ∧ b ≤ 57 then 1 else 0, I) := by
  rw [f_X1_isDigit, show (48 : Int32) = nI 48 from rfl, show (57 : Int32) = nI 57 from rfl]
  by_cases h1 : b < 48
  · rw [if_pos ((nI_lt' (by omega) (by omega)).mpr h1), if_neg (by omega)]
  · rw [if_neg (by rw [nI_lt' (by omega) (by omega)]; exact h1)]
    by_cases h2 : 57 < b
    · rw [if_pos ((nI_lt' (by omega) (by omega)).mpr h2), if_neg (by omega)]
    · rw [if_neg (by rw [nI_lt' (by omega) (by omega)]; exact h2), if_pos (by omega)]
theorem s5_ofSign {b : Nat} (hb : b < 256) (I : Mem) : f_X5_ofSign (nI b) I = some (sgC b, I) := by
  by_cases h : 40 ≤ b ∧ b ≤ 61
  · rcases (show b = 40 ∨ b = 41 ∨ b = 42 ∨ b = 43 ∨ b = 44 ∨ b = 45 ∨ b = 46 ∨ b = 47 ∨ b = 48 ∨ b = 49 ∨ b = 50 ∨ b = 51 ∨ b = 52 ∨ b = 53 ∨ b = 54 ∨ b = 55 ∨ b = 56 ∨ b = 57 ∨ b = 58 ∨ b = 59 ∨ b = 60 ∨ b = 61 by omega) with rfl | rfl | rfl | rfl | rfl | rfl | rfl | rfl | rfl | rfl | rfl | rfl | rfl | rfl | rfl | rfl | rfl | rfl | rfl | rfl | rfl | rfl <;> rfl
  · have n : ∀ k, 40 ≤ k → k ≤ 61 → ¬ nI b = nI k := fun k h1 h2 e => by
      have := (nI_eq' (by omega) (by omega)).mp e
      omega
    rw [f_X5_ofSign, if_neg (show ¬ nI b = (40 : Int32) from n 40 (by omega) (by omega)), if_neg (show ¬ nI b = (41 : Int32) from n 41 (by omega) (by omega)), if_neg (show ¬ nI b = (42 : Int32) from n 42 (by omega) (by omega)), if_neg (show ¬ nI b = (43 : Int32) from n 43 (by omega) (by omega)), if_neg (show ¬ nI b = (44 : Int32) from n 44 (by omega) (by omega)), if_neg (show ¬ nI b = (45 : Int32) from n 45 (by omega) (by omega)), if_neg (show ¬ nI b = (46 : Int32) from n 46 (by omega) (by omega)), if_neg (show ¬ nI b = (47 : Int32) from n 47 (by omega) (by omega)), if_neg (show ¬ nI b = (48 : Int32) from n 48 (by omega) (by omega)), if_neg (show ¬ nI b = (49 : Int32) from n 49 (by omega) (by omega)), if_neg (show ¬ nI b = (50 : Int32) from n 50 (by omega) (by omega)), if_neg (show ¬ nI b = (51 : Int32) from n 51 (by omega) (by omega)), if_neg (show ¬ nI b = (52 : Int32) from n 52 (by omega) (by omega)), if_neg (show ¬ nI b = (53 : Int32) from n 53 (by omega) (by omega)), if_neg (show ¬ nI b = (54 : Int32) from n 54 (by omega) (by omega)), if_neg (show ¬ nI b = (55 : Int32) from n 55 (by omega) (by omega)), if_neg (show ¬ nI b = (56 : Int32) from n 56 (by omega) (by omega)), if_neg (show ¬ nI b = (57 : Int32) from n 57 (by omega) (by omega)), if_neg (show ¬ nI b = (58 : Int32) from n 58 (by omega) (by omega)), if_neg (show ¬ nI b = (59 : Int32) from n 59 (by omega) (by omega)), if_neg (show ¬ nI b = (60 : Int32) from n 60 (by omega) (by omega)), if_neg (show ¬ nI b = (61 : Int32) from n 61 (by omega) (by omega)), sgC, if_neg (by omega), if_neg (by omega), if_neg (by omega), if_neg (by omega), if_neg (by omega), if_neg (by omega), if_neg (by omega), if_neg (by omega)]
theorem s1_spells {J : Mem} {s e i : Nat} (hi : i < 13) (h : RdC tx tp J e) (hs : s ≤ e) (h3 : J 26 3 = nI s) : f_X1_spells i J = some (if spS tx s e i = true then 1 else 0, J) := by
  obtain ⟨r0, r1, r2, r3, r4, r5⟩ := h
  have hl : ∀ i : Fin 13, strL.getD i.1 0 ≤ 26 := by decide
  have hl' : strL.getD i 0 ≤ 26 := hl ⟨i, hi⟩
  have hsub : nI e - nI s = nI (e - s) := by
    rw [i_eq, ti_sub] <;> rw [ti_nI (by omega), ti_nI (by omega)]
    · rw [ti_nI (by omega)]; omega
    · omega
    · omega
  have key : ∀ (k n x : Nat), x + k = strL.getD i 0 → e - s = strL.getD i 0 → k < n → f_X1_spells_b20 i n (nI x) J = some (if (List.range' x k).all (fun x => decide (nI (tx (s + x)) = (strB.getD i []).getD x 0)) = true then 1 else 0, J) := by
    intro k
    induction k with
    | zero =>
      intro n x hx _ hn
      obtain ⟨n, rfl⟩ : ∃ m, n = m + 1 := ⟨n - 1, by omega⟩
      rw [f_X1_spells_b20, f_J0_length_8abf5, bnd_some, if_pos ((nI_le' (by omega) (by omega)).mpr (by omega))]
      rfl
    | succ k ih =>
      intro n x hx he hn
      obtain ⟨n, rfl⟩ : ∃ m, n = m + 1 := ⟨n - 1, by omega⟩
      rw [f_X1_spells_b20, f_J0_length_8abf5, bnd_some, if_neg (by rw [nI_le' (by omega) (by omega)]; omega), if_pos r0, h3, nI_add, if_pos (inb_t (by omega) (by omega)), f_J0_charAt_5068e, if_pos (inb_t (by omega) (by omega)), bnd_some, cl_nI (by omega), cl_nI (by omega), (r5 _ (by omega)).1, nI_1, List.range'_succ, List.all_cons]
      by_cases hq : nI (tx (s + x)) = (strB.getD i []).getD x 0
      · rw [if_pos hq, ih n (x + 1) (by omega) he (by omega), decide_eq_true hq, Bool.true_and]
      · rw [if_neg hq, decide_eq_false hq, Bool.false_and]
        rfl
  rw [f_X1_spells, f_J0_length_8abf5, bnd_some, r2, h3, hsub]
  by_cases he : e - s = strL.getD i 0
  · rw [if_pos (by rw [he]), spS, decide_eq_true he, Bool.true_and, List.range_eq_range']
    exact key (strL.getD i 0) FU 0 (by omega) he (by show _ < 4096; omega)
  · rw [if_neg (fun hh => he ((nI_eq' (by omega) (by omega)).mp hh)), spS, decide_eq_false he, Bool.false_and]
    rfl
end LexC
