/-! PURE 47: the class's reader is the parser -/
section RdAll
variable {tx : Nat → Nat} {tp : Nat}
theorem tk3 {t : Int32} : tkK t = 3 ↔ t = -8 := by
  constructor
  · intro h
    unfold tkK at h
    by_cases q : t = -8
    · exact q
    · exfalso
      rw [if_neg q] at h
      repeat (split at h; omega)
      omega
  · rintro rfl
    decide
theorem rd_bad' {J : Mem} {τ f g w : Nat} {o : Int32} (h : SB J τ f) (hw : w ≤ 5) (hg : 5 - w < g) : f_rd g w o J = some ((), J) := rd_bad h.1 (by rw [h.2.1]; exact ne_m1 (by have := h.2.2.1; omega)) (5 - w) g w o (by omega) hg
end RdAll
