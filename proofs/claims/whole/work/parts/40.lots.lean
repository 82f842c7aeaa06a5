/-! PURE 31: longs; lowest terms -/
theorem tl_add {a b : Int64} (h1 : -9223372036854775808 ≤ a.toInt + b.toInt) (h2 : a.toInt + b.toInt < 9223372036854775808) : (a + b).toInt = a.toInt + b.toInt := by
  rw [Int64.toInt_add]
  exact Int.bmod_eq_of_le (by omega) (by omega)
theorem tl_sub {a b : Int64} (h1 : -9223372036854775808 ≤ a.toInt - b.toInt) (h2 : a.toInt - b.toInt < 9223372036854775808) : (a - b).toInt = a.toInt - b.toInt := by
  rw [Int64.toInt_sub]
  exact Int.bmod_eq_of_le (by omega) (by omega)
theorem tl_mul {a b : Int64} (h1 : -9223372036854775808 ≤ a.toInt * b.toInt) (h2 : a.toInt * b.toInt < 9223372036854775808) : (a * b).toInt = a.toInt * b.toInt := by
  rw [Int64.toInt_mul]
  exact Int.bmod_eq_of_le (by omega) (by omega)
theorem tl_div {a b : Int64} (h1 : 0 ≤ a.toInt) (h2 : 0 < b.toInt) : (a / b).toInt = a.toInt / b.toInt := by
  have hh := Int64.toInt_lt a
  have hq : a.toInt / b.toInt ≤ a.toInt := Int.ediv_le_self _ h1
  have hq0 : 0 ≤ a.toInt / b.toInt := Int.ediv_nonneg h1 (by omega)
  rw [Int64.toInt_div, Int.tdiv_eq_ediv_of_nonneg h1]
  exact Int.bmod_eq_of_le (by omega) (by omega)
theorem tl_rem {a b : Int64} (h1 : 0 ≤ a.toInt) (h2 : 0 < b.toInt) : (a - a / b * b).toInt = a.toInt % b.toInt := by
  have hh := Int64.toInt_lt a
  have e1 := tl_div h1 h2
  have hq0 : 0 ≤ a.toInt / b.toInt := Int.ediv_nonneg h1 (by omega)
  have hm : a.toInt / b.toInt * b.toInt ≤ a.toInt := Int.ediv_mul_le _ (by omega)
  have hm0 : 0 ≤ a.toInt / b.toInt * b.toInt := Int.mul_nonneg hq0 (by omega)
  have e2 : (a / b * b).toInt = a.toInt / b.toInt * b.toInt := by
    rw [tl_mul] <;> rw [e1] <;> omega
  rw [tl_sub] <;> rw [e2]
  · have := Int.mul_ediv_add_emod a.toInt b.toInt
    rw [Int.mul_comm] at this
    omega
  · omega
  · omega
theorem l_eq (a b : Int64) : a = b ↔ a.toInt = b.toInt := Int64.toInt_inj.symm
def nL (n : Nat) : Int64 := (nI n).toInt64
theorem tl_nL {n : Nat} (h : n < 2147483648) : (nL n).toInt = (n : Int) := by rw [nL, Int32.toInt_toInt64, ti_nI h]
theorem nL_add {a b : Nat} (h : a + b < 2147483648) : nL a + nL b = nL (a + b) := by
  rw [l_eq, tl_add] <;> rw [tl_nL (by omega), tl_nL (by omega)]
  · rw [tl_nL h]; omega
  · omega
  · omega
theorem nL_div {a b : Nat} (ha : a < 2147483648) (hb : b < 2147483648) (h0 : 0 < b) : nL a / nL b = nL (a / b) := by
  have hq : a / b ≤ a := Nat.div_le_self _ _
  rw [l_eq, tl_div (by rw [tl_nL ha]; omega) (by rw [tl_nL hb]; omega), tl_nL ha, tl_nL hb, tl_nL (by omega)]
  rfl
theorem nL_rem {a b : Nat} (ha : a < 2147483648) (hb : b < 2147483648) (h0 : 0 < b) : nL a - nL a / nL b * nL b = nL (a % b) := by
  have hq : a % b < b := Nat.mod_lt _ h0
  rw [l_eq, tl_rem (by rw [tl_nL ha]; omega) (by rw [tl_nL hb]; omega), tl_nL ha, tl_nL hb, tl_nL (by omega)]
  rfl
theorem nL_0 {n : Nat} (h : n < 2147483648) : nL n = 0 ↔ n = 0 := by
  rw [l_eq, tl_nL h, show (0 : Int64).toInt = 0 from rfl]
  omega
theorem s6_lowest {c n : Nat} (hn : n ≤ 1000) (hc : c ≤ 1000) (h0 : 0 < n) (w : Int32) (I : Mem) : f_X6_lowestTerms_b19 (nI c) (nI n) w FU (nI n) I = some (if w = 0 then nL (c / Nat.gcd c n) else nL (n / Nat.gcd c n), I) := by
  have fin : ∀ g : Nat, 0 < g → g ≤ 1000 → f_X6_lowestTerms_b42 (nI c) (nI n) w (nI g) I = some (if w = 0 then nL (c / g) else nL (n / g), I) := by
    intro g hg hg2
    have hne : ¬ nI g = 0 := fun h => by have := (nI_eq' (b := 0) (by omega) (by omega)).mp h; omega
    rw [f_X6_lowestTerms_b42, f_X6_lowestTerms_b51, f_X6_lowestTerms_b51, if_neg hne, if_neg hne, pk_div (by omega) (by omega) (by omega), pk_div (by omega) (by omega) (by omega), some_if]
    rfl
  have key : ∀ (k m : Nat), 0 < k → k ≤ n → k < m → (∀ d, k < d → ¬ (d ∣ c ∧ d ∣ n)) → f_X6_lowestTerms_b19 (nI c) (nI n) w m (nI k) I = some (if w = 0 then nL (c / Nat.gcd c n) else nL (n / Nat.gcd c n), I) := by
    intro k
    induction k with
    | zero => intro m h; omega
    | succ k ih =>
      intro m _ hkn hm hd
      obtain ⟨m, rfl⟩ : ∃ m', m = m' + 1 := ⟨m - 1, by omega⟩
      have hgp : 0 < Nat.gcd c n := Nat.gcd_pos_of_pos_right _ h0
      have hgle : Nat.gcd c n ≤ k + 1 := Nat.not_lt.mp (fun hlt => hd _ hlt ⟨Nat.gcd_dvd_left _ _, Nat.gcd_dvd_right _ _⟩)
      rw [f_X6_lowestTerms_b19]
      by_cases h1 : k + 1 ≤ 1
      · rw [if_pos (show nI (k + 1) ≤ (1 : Int32) from (nI_le' (b := 1) (by omega) (by omega)).mpr h1), fin _ (by omega) (by omega), show Nat.gcd c n = k + 1 by omega]
      · have hne : ¬ nI (k + 1) = 0 := fun h => by have := (nI_eq' (b := 0) (by omega) (by omega)).mp h; omega
        have hdn : nI (k + 1) + (-1) = nI k := by
          rw [i_eq, ti_add] <;> rw [ti_nI (by omega), show (-1 : Int32).toInt = -1 from rfl]
          · rw [ti_nI (by omega)]; omega
          · omega
          · omega
        have e0 : ∀ x : Nat, x ≤ 1000 → (nI x - nI x / nI (k + 1) * nI (k + 1) = 0 ↔ x % (k + 1) = 0) := by
          intro x hx
          rw [pk_rem (by omega) (by omega) (by omega)]
          exact nI_eq' (b := 0) (by have := Nat.mod_le x (k + 1); omega) (by omega)
        have nx : ¬ (c % (k + 1) = 0 ∧ n % (k + 1) = 0) → f_X6_lowestTerms_b19 (nI c) (nI n) w m (nI k) I = some (if w = 0 then nL (c / Nat.gcd c n) else nL (n / Nat.gcd c n), I) := by
          intro hno
          refine ih m (by omega) (by omega) (by omega) (fun d hd1 hd2 => ?_)
          by_cases hdk : d = k + 1
          · exact hno ⟨Nat.mod_eq_zero_of_dvd (hdk ▸ hd2.1), Nat.mod_eq_zero_of_dvd (hdk ▸ hd2.2)⟩
          · exact hd d (by omega) hd2
        rw [if_neg (show ¬ nI (k + 1) ≤ (1 : Int32) from fun h => h1 ((nI_le' (b := 1) (by omega) (by omega)).mp h)), if_neg hne, hdn]
        by_cases q1 : c % (k + 1) = 0
        · rw [if_pos ((e0 c hc).mpr q1), if_neg hne]
          by_cases q2 : n % (k + 1) = 0
          · have hge : k + 1 ∣ Nat.gcd c n := Nat.dvd_gcd (Nat.dvd_of_mod_eq_zero q1) (Nat.dvd_of_mod_eq_zero q2)
            have := Nat.le_of_dvd hgp hge
            rw [if_pos ((e0 n hn).mpr q2), fin _ (by omega) (by omega), show Nat.gcd c n = k + 1 by omega]
          · rw [if_neg (fun h => q2 ((e0 n hn).mp h))]
            exact nx (fun h => q2 h.2)
        · rw [if_neg (fun h => q1 ((e0 c hc).mp h))]
          exact nx (fun h => q1 h.1)
  refine key n FU h0 (Nat.le_refl _) (by show _ < 4096; omega) (fun d hd h => ?_)
  have := Nat.le_of_dvd h0 h.2
  omega
theorem cmp0 {n : Nat} (h : n < 2147483648) : lg_cmp (nL n) 0 = 0 ↔ n = 0 := by
  rw [← nL_0 h]
  unfold lg_cmp
  by_cases h1 : 0 < nL n
  · have hne : ¬ nL n = 0 := by
      intro hh
      rw [hh] at h1
      exact absurd h1 (by decide)
    rw [if_pos (show nL n > 0 from h1)]
    exact ⟨fun q => absurd q (by decide), fun q => absurd q hne⟩
  · rw [if_neg (show ¬ nL n > 0 from h1)]
    by_cases h2 : nL n = 0
    · rw [if_pos h2]
      exact ⟨fun _ => h2, fun _ => rfl⟩
    · rw [if_neg h2]
      exact ⟨fun q => absurd q (by decide), fun q => absurd q h2⟩
theorem s7_lowest {c n : Nat} (hn : n ≤ 1000) (hc : c ≤ 1000) (h0 : 0 < n) {w : Int32} (hw : w = 0 ∨ w = 1) (I : Mem) : f_X7_lowest (nL c) (nL n) w I = some (if w = 0 then nL (c / Nat.gcd c n) else nL (n / Nat.gcd c n), I) := by
  rw [f_X7_lowest]
  by_cases hc0 : c = 0
  · rw [if_pos ((cmp0 (by omega)).mpr hc0), hc0, Nat.gcd_zero_left, Nat.div_self h0, Nat.zero_div]
    rcases hw with rfl | rfl <;> rfl
  · rw [if_neg (fun h => hc0 ((cmp0 (by omega)).mp h))]
    have key : ∀ (m y x : Nat), y < m → x ≤ 1000 → y ≤ 1000 → 0 < x → Nat.gcd x y = Nat.gcd c n → f_X7_lowest_b16 (nL c) (nL n) w m (nL y) (nL x) I = some (if w = 0 then nL (c / Nat.gcd c n) else nL (n / Nat.gcd c n), I) := by
      intro m
      induction m with
      | zero => intro y x h; omega
      | succ m ih =>
        intro y x hy hx hy2 hx0 hg
        rw [f_X7_lowest_b16]
        by_cases h : y = 0
        · have hxg : x = Nat.gcd c n := by rw [← hg, h, Nat.gcd_zero_right]
          have hne : ¬ nL x = 0 := fun hh => by have := (nL_0 (by omega)).mp hh; omega
          rw [if_pos ((cmp0 (by omega)).mpr h), f_X7_lowest_b51, f_X7_lowest_b51, if_neg hne, if_neg hne, nL_div (by omega) (by omega) hx0, nL_div (by omega) (by omega) hx0, some_if, ← hxg]
        · have hne : ¬ nL y = 0 := fun hh => h ((nL_0 (by omega)).mp hh)
          have hml : x % y < y := Nat.mod_lt _ (by omega)
          rw [if_neg (fun hh => h ((cmp0 (by omega)).mp hh)), if_neg hne, lt1_eq, nL_rem (by omega) (by omega) (by omega)]
          exact ih (x % y) y (by omega) (by omega) (by omega) (by omega) (by rw [← hg, Nat.gcd_comm x y, Nat.gcd_rec y x]; exact Nat.gcd_comm _ _)
    exact key FU n c (by show _ < 4096; omega) hc hn (by omega) rfl
