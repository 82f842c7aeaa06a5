/-! PURE 1: numbers, memories -/
theorem i_lt (a b : Int32) : a < b ↔ a.toInt < b.toInt := Int32.lt_iff_toInt_lt
theorem i_le (a b : Int32) : a ≤ b ↔ a.toInt ≤ b.toInt := Int32.le_iff_toInt_le
theorem i_eq (a b : Int32) : a = b ↔ a.toInt = b.toInt := Int32.toInt_inj.symm
theorem ti_lo (a : Int32) : -2147483648 ≤ a.toInt := by have := Int32.le_toInt a; omega
theorem ti_hi (a : Int32) : a.toInt < 2147483648 := by have := Int32.toInt_lt a; omega
theorem ti_add {a b : Int32} (h1 : -2147483648 ≤ a.toInt + b.toInt) (h2 : a.toInt + b.toInt < 2147483648) : (a + b).toInt = a.toInt + b.toInt := by
  rw [Int32.toInt_add]
  exact Int.bmod_eq_of_le (by omega) (by omega)
theorem ti_sub {a b : Int32} (h1 : -2147483648 ≤ a.toInt - b.toInt) (h2 : a.toInt - b.toInt < 2147483648) : (a - b).toInt = a.toInt - b.toInt := by
  rw [Int32.toInt_sub]
  exact Int.bmod_eq_of_le (by omega) (by omega)
theorem ti_mul {a b : Int32} (h1 : -2147483648 ≤ a.toInt * b.toInt) (h2 : a.toInt * b.toInt < 2147483648) : (a * b).toInt = a.toInt * b.toInt := by
  rw [Int32.toInt_mul]
  exact Int.bmod_eq_of_le (by omega) (by omega)
theorem ti_nI {n : Nat} (h : n < 2147483648) : (nI n).toInt = (n : Int) := nI_toInt h
theorem inb_nI {p n : Nat} (hp : p < 2147483648) : inb (nI p) n = decide (p < n) := by
  rw [inb, ti_nI hp]
  simp
theorem inb_t {p n : Nat} (h : p < n) (hp : n ≤ 2147483648) : inb (nI p) n = true := by
  rw [inb_nI (by omega)]
  exact decide_eq_true h
theorem cl_nI {n : Nat} (h : n < 2147483648) : (nI n).toNatClampNeg = n := nI_clamp h
theorem nI_lt' {a b : Nat} (ha : a < 2147483648) (hb : b < 2147483648) : nI a < nI b ↔ a < b := nI_ltI ha hb
theorem nI_le' {a b : Nat} (ha : a < 2147483648) (hb : b < 2147483648) : nI a ≤ nI b ↔ a ≤ b := nI_leI ha hb
theorem nI_eq' {a b : Nat} (ha : a < 2147483648) (hb : b < 2147483648) : nI a = nI b ↔ a = b := nI_eq ha hb
theorem nI_of_toInt {x : Int32} (h : 0 ≤ x.toInt) : ∃ n : Nat, n < 2147483648 ∧ x = nI n ∧ (n : Int) = x.toInt := by
  obtain ⟨j, hj, e⟩ := nI_of (x := x) (by rw [i_lt]; exact Int.not_lt.mpr (by simpa using h))
  exact ⟨j, by omega, e, by rw [e, ti_nI (by omega)]⟩
theorem l0 : (0 : Int32) = nI 0 := rfl
theorem l1 : (1 : Int32) = nI 1 := rfl
theorem lN' (n : Nat) : (OfNat.ofNat n : Int32) = nI n := rfl
theorem wr_get (I : Mem) (k j : Nat) (x : Int32) (k' j' : Nat) : wr I k j x k' j' = if k' = k then (if j' = j then x else I k' j') else I k' j' := by
  by_cases h : k' = k
  · subst h
    simp [wr, upd]
  · simp [wr, h]
theorem wr_s (I : Mem) (k j : Nat) (x : Int32) : wr I k j x k j = x := by simp [wr_get]
theorem wr_k (I : Mem) {k k' : Nat} (j : Nat) (x : Int32) (h : k' ≠ k) : wr I k j x k' = I k' := by simp [wr, h]
theorem wr_j (I : Mem) (k : Nat) {j j' : Nat} (x : Int32) (h : j' ≠ j) : wr I k j x k j' = I k j' := by simp [wr_get, h]
theorem lt1_eq {α β : Type} (x : α) (f : α → β) : lt1 x f = f x := rfl
/-- within(v, a, b) -/
def wth (v a b : Int32) : Int32 := if a ≤ v then (if v ≤ b then 1 else 0) else 0
theorem s6_within (v a b : Int32) (I : Mem) : f_X6_within v a b I = some (wth v a b, I) := by
  unfold f_X6_within wth
  by_cases h1 : v < a
  · have : ¬ a ≤ v := by rw [i_le]; rw [i_lt] at h1; omega
    simp [h1, this]
  · have h2 : a ≤ v := by rw [i_le]; rw [i_lt] at h1; omega
    by_cases h3 : b < v
    · have : ¬ v ≤ b := by rw [i_le]; rw [i_lt] at h3; omega
      simp [h1, h2, h3, this]
    · have : v ≤ b := by rw [i_le]; rw [i_lt] at h3; omega
      simp [h1, h2, h3, this]
