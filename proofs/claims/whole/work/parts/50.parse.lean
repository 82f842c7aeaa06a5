/-! PURE 41: the parser, as a function of the tape -/
section Parse
variable (tx : Nat → Nat) (tp : Nat)
/-- the token that stands from a: its code, its kind; the place after it -/
def tkA (a : Nat) : Int32 := (LX1 tx tp (LXs tx tp a)).1
def nxA (a : Nat) : Nat := (LX1 tx tp (LXs tx tp a)).2
/-- refused at a place, or read to a place with its codes -/
abbrev Res : Type := Nat ⊕ (Nat × List Nat)
def thenR (r : Res) (f : Nat → List Nat → Res) : Res := match r with
  | .inl x => .inl x
  | .inr (a, c) => f a c
/-- one after the other, as long as a sign of the kind stands between -/
def lpR (kind : Nat) (R : Nat → Res) : Nat → Nat → List Nat → Res
  | 0, a, c => .inr (a, c)
  | n + 1, a, c => if tkK (tkA tx tp a) = kind then thenR (R (nxA tx tp a)) fun a' c' => lpR kind R n a' (c ++ c' ++ [tkM (tkA tx tp a)]) else .inr (a, c)
def PR : Nat → Nat → Nat → Nat → Res
  | 0, _, _, _ => .inl 0
  | g + 1, w, o, a =>
    if w = 0 then thenR (PR g 1 o a) fun a1 c => lpR tx tp 1 (PR g 1 o) 160 a1 c
    else if w = 1 then thenR (PR g 2 o a) fun a1 c => lpR tx tp 2 (PR g 2 o) 160 a1 c
    else if w = 2 then (if tkK (tkA tx tp a) = 3 ∧ o < 5 then thenR (PR g 2 (o + 1) (nxA tx tp a)) fun a1 c => .inr (a1, c ++ [13])
      else thenR (PR g 3 o a) fun a1 c => if tkK (tkA tx tp a1) = 4 then thenR (PR g 3 o (nxA tx tp a1)) fun a2 c2 => .inr (a2, c ++ c2 ++ [tkM (tkA tx tp a1)]) else .inr (a1, c))
    else if w = 3 then thenR (PR g 4 o a) fun a1 c => lpR tx tp 5 (PR g 4 o) 160 a1 c
    else if w = 4 then thenR (PR g 5 o a) fun a1 c => lpR tx tp 6 (PR g 5 o) 160 a1 c
    else if tkK (tkA tx tp a) = 0 then .inr (nxA tx tp a, [tkM (tkA tx tp a)])
    else if tkA tx tp a = -19 ∧ o < 5 then thenR (PR g 5 (o + 1) (nxA tx tp a)) fun a1 c => .inr (a1, c ++ [19])
    else if tkK (tkA tx tp a) = 7 ∧ o < 5 then thenR (PR g 0 (o + 1) (nxA tx tp a)) fun a1 c => if tkK (tkA tx tp a1) = 8 then .inr (nxA tx tp a1, c) else .inl (LXs tx tp a1)
    else .inl (LXs tx tp a)
end Parse
section ParseB
variable {tx : Nat → Nat} {tp : Nat}
theorem LXs_b {a : Nat} (h : a ≤ tp) : a ≤ LXs tx tp a ∧ LXs tx tp a ≤ tp := skF_b _ _ h
theorem nxA_b {a : Nat} (h : a ≤ tp) : a ≤ nxA tx tp a ∧ nxA tx tp a ≤ tp ∧ LXs tx tp a ≤ nxA tx tp a := by
  obtain ⟨h1, h2⟩ := LXs_b (tx := tx) h
  unfold nxA LX1
  by_cases hs : LXs tx tp a < tp
  · rw [if_pos hs]
    by_cases hl : 97 ≤ tx (LXs tx tp a) ∧ tx (LXs tx tp a) ≤ 122
    · rw [if_pos hl]
      have := weF_b (tx := tx) (tp := tp) (tp - LXs tx tp a) (LXs tx tp a) h2
      exact ⟨by show a ≤ weF tx tp _ _; omega, this.2, this.1⟩
    · rw [if_neg hl]
      by_cases hd : 48 ≤ tx (LXs tx tp a) ∧ tx (LXs tx tp a) ≤ 57
      · rw [if_pos hd]
        have := nuF_b (tx := tx) (tp := tp) (s := LXs tx tp a) (tp - LXs tx tp a) (LXs tx tp a) 0 h2
        exact ⟨by show a ≤ (nuF tx tp _ _ _ _).1; omega, this.2, this.1⟩
      · rw [if_neg hd]
        exact ⟨by show a ≤ _ + 1; omega, by show _ + 1 ≤ tp; omega, by show _ ≤ _ + 1; omega⟩
  · rw [if_neg hs]
    exact ⟨h1, h2, Nat.le_refl _⟩
end ParseB
