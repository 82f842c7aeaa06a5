/-! PURE 47: the class's reader is the parser -/
section RdAll
variable {tx : Nat → Nat} {tp : Nat}
theorem tk3 {t : Int32} : tkK t = 3 ↔ t = -8 := by
  constructor
  · intro h
    unfold tkK at h
    by_cases q : t = -8
    · exact q
    · exfalso
      rw [if_neg q] at h
      repeat (split at h; omega)
      omega
  · rintro rfl
    decide
theorem rd_bad' {J : Mem} {τ f g w : Nat} {o : Int32} (h : SB J τ f) (hw : w ≤ 5) (hg : 5 - w < g) : f_rd g w o J = some ((), J) := rd_bad h.1 (by rw [h.2.1]; exact ne_m1 (by have := h.2.2.1; omega)) (5 - w) g w o (by omega) hg
/-- a sign before, then one, then the code is written -/
theorem pre_PR {τ a g w' x o : Nat} {J : Mem} {L : List Nat} {r : Res} (hτ : τ < 6) (h : SC tx tp J τ a L) (hk : tkK (tkA tx tp a) ≠ 9) (IH : ∀ J, SC tx tp J τ (nxA tx tp a) L → ∃ K, f_rd g w' (nI o) J = some ((), K) ∧ Out tx tp K τ L r ∧ FrR τ J K) (hg : GoR tp (nxA tx tp a) r) : ∃ K, (bnd (f_X1_next J) fun _ J7 => bnd (f_rd g w' (nI o) J7) fun _ J8 => if inb (J8 26 6 - 1) 6 = true then (bnd (f_X4_write ((J8 26 6 - 1).toNatClampNeg) (ctk x) J8) fun _ J10 => some ((), J10)) else none) = some ((), K) ∧ Out tx tp K τ L (thenR r fun a1 c => .inr (a1, c ++ [x])) ∧ FrR τ J K := by
  have ha := h.2.2.2.2.2.2
  have hl := h.2.2.2.2.2.1
  have hp := nxA_p (tx := tx) ha hk
  obtain ⟨J3, e3, s3, f3⟩ := sc_next hτ h
  obtain ⟨J4, e4, o4, f4⟩ := IH J3 s3
  rw [e3, bnd_some, e4, bnd_some]
  cases r with
  | inl f =>
    have o4' : SB J4 τ f := o4
    obtain ⟨i1, i2⟩ := in_text hτ o4'.2.2.2.1
    obtain ⟨J6, e6, s6, f6⟩ := sb_write (v := ctk x) hτ o4'
    rw [if_pos i1, i2, e6, bnd_some]
    exact ⟨J6, rfl, s6, f3.tr (f4.tr f6)⟩
  | inr q =>
    obtain ⟨a2, c2⟩ := q
    have o4' : SC tx tp J4 τ a2 (L ++ c2) := o4
    obtain ⟨i1, i2⟩ := in_text hτ o4'.2.2.1
    have hgg := (hg a2 c2 rfl).1
    obtain ⟨J6, e6, s6, f6⟩ := sc_write (x := x) hτ o4' (by rw [List.length_append]; omega)
    rw [if_pos i1, i2, e6, bnd_some]
    refine ⟨J6, rfl, ?_, f3.tr (f4.tr f6)⟩
    show SC tx tp J6 τ a2 (L ++ (c2 ++ [x]))
    rw [← List.append_assoc]
    exact s6
end RdAll
