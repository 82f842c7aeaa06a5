/-! PURE 2: rings as values; far, nearest, up -/
/-- fields by hats (0 kind, 1 more, 2 place, 3 felt, 4 pride, 5 blows, 6 + q tally), how many, round, law -/
abbrev RS : Type := (Nat → Nat → Int32) × Nat × Int32 × Nat
def lp {β : Type} (g : Nat → β → β) : Nat → Nat → β → β
  | 0, _, b => b
  | k + 1, p, b => lp g k (p + 1) (g p b)
/-- the class's ring ρ is S -/
def CR (I : Mem) (ρ : Nat) (S : RS) : Prop := I (2 + 8 * ρ) 8 = nI S.2.1 ∧ I (2 + 8 * ρ) 9 = S.2.2.1 ∧ I (2 + 8 * ρ) 10 = nI S.2.2.2 ∧ (∀ p, p < S.2.1 → I (2 + 8 * ρ + 1) p = S.1 0 p ∧ I (2 + 8 * ρ + 2) p = S.1 1 p ∧ I (2 + 8 * ρ + 3) p = S.1 2 p ∧ I (2 + 8 * ρ + 4) p = S.1 3 p ∧ I (2 + 8 * ρ + 5) p = S.1 4 p ∧ I (2 + 8 * ρ + 6) p = S.1 5 p) ∧ ∀ p q, p < S.2.1 → q < S.2.1 → I (2 + 8 * ρ + 7) (p * 6 + q) = S.1 (6 + q) p
/-- the model's hats are S -/
def MR (I : Mem) (S : RS) : Prop := I 56 0 = nI S.2.1 ∧ I 56 5 = S.2.2.1 ∧ I 56 11 = nI S.2.2.2 ∧ (∀ p, p < S.2.1 → I 57 p = S.1 0 p ∧ I 58 p = S.1 1 p ∧ I 59 (4 * p) = S.1 2 p ∧ I 59 (4 * p + 1) = S.1 3 p ∧ I 59 (4 * p + 2) = S.1 4 p ∧ I 59 (4 * p + 3) = S.1 5 p) ∧ ∀ p q, p < S.2.1 → q < S.2.1 → I 60 (6 * p + q) = S.1 (6 + q) p
/-- its numbers are as told -/
def GS (S : RS) : Prop := S.2.1 ≤ 6 ∧ S.2.2.2 < 6 ∧ 0 ≤ S.2.2.1.toInt ∧ S.2.2.1.toInt ≤ 2000 ∧ (∀ p, p < S.2.1 → (0 ≤ (S.1 0 p).toInt ∧ (S.1 0 p).toInt ≤ 5) ∧ (0 ≤ (S.1 1 p).toInt ∧ (S.1 1 p).toInt ≤ 9) ∧ (0 ≤ (S.1 2 p).toInt ∧ (S.1 2 p).toInt ≤ 63) ∧ (0 ≤ (S.1 3 p).toInt ∧ (S.1 3 p).toInt ≤ 99) ∧ (0 ≤ (S.1 4 p).toInt ∧ (S.1 4 p).toInt ≤ 99) ∧ (0 ≤ (S.1 5 p).toInt ∧ (S.1 5 p).toInt ≤ 99)) ∧ ∀ p q, p < S.2.1 → q < S.2.1 → 0 ≤ (S.1 (6 + q) p).toInt ∧ (S.1 (6 + q) p).toInt ≤ 99
theorem s7_in (v a b : Int32) (I : Mem) : f_X7_in v a b I = some (wth v a b, I) := s6_within v a b I
theorem wth_01 (v a b : Int32) : wth v a b = 0 ∨ wth v a b = 1 := by
  unfold wth
  split
  · split
    · exact Or.inr rfl
    · exact Or.inl rfl
  · exact Or.inl rfl
theorem z01 {w : Int32} (h : w = 0 ∨ w = 1) (I : Mem) : (if w = 0 then some (w, I) else if w = 1 then some (w, I) else none) = some (w, I) := by
  rcases h with rfl | rfl <;> rfl
theorem s6_isHat (a : Int32) (I : Mem) : f_X6_isHat a I = some (wth a 0 (I 2 8 - 1), I) := by
  simp only [f_X6_isHat, s6_within, bnd_some, z01 (wth_01 _ _ _)]
theorem s7_isOne (a : Int32) (I : Mem) : f_X7_isOne a I = some (wth a 0 (I 56 0 - 1), I) := by
  simp only [f_X7_isOne, s7_in, bnd_some, z01 (wth_01 _ _ _)]
theorem hat_or (a : Int32) {N : Nat} (hN : N ≤ 1000) : (∃ p, p < N ∧ a = nI p ∧ wth a 0 (nI N - 1) = 1) ∨ ((∀ p, p < N → a ≠ nI p) ∧ wth a 0 (nI N - 1) = 0) := by
  have e1 : (nI N - 1).toInt = (N : Int) - 1 := by
    rw [ti_sub] <;> rw [ti_nI (by omega)] <;> simp <;> omega
  have e0 : (0 : Int32).toInt = 0 := rfl
  by_cases h1 : (0 : Int32) ≤ a
  · by_cases h2 : a ≤ nI N - 1
    · refine Or.inl ?_
      have h1' := (i_le _ _).mp h1
      have h2' := (i_le _ _).mp h2
      rw [e1] at h2'
      rw [e0] at h1'
      obtain ⟨n, hn, e, hn2⟩ := nI_of_toInt h1'
      exact ⟨n, by omega, e, by simp [wth, h1, h2]⟩
    · refine Or.inr ⟨fun p hp e => h2 ?_, by simp [wth, h2]⟩
      rw [i_le, e1, e, ti_nI (by omega)]
      omega
  · refine Or.inr ⟨fun p hp e => h1 ?_, by simp [wth, h1]⟩
    rw [i_le, e0, e, ti_nI (by omega)]
    omega
/-- how FAR, by places -/
def farS (x y : Int32) : Int32 := (if 0 ≤ (x - x / 8 * 8) - (y - y / 8 * 8) then (x - x / 8 * 8) - (y - y / 8 * 8) else 0 - ((x - x / 8 * 8) - (y - y / 8 * 8))) + (if 0 ≤ x / 8 - y / 8 then x / 8 - y / 8 else 0 - (x / 8 - y / 8))
theorem s2_far {ρ p q : Nat} {I : Mem} (hp : p < 6) (hq : q < 6) : f_X2_far ρ (nI p) (nI q) I = some (farS (I (2 + 8 * ρ + 3) p) (I (2 + 8 * ρ + 3) q), I) := by
  simp (disch := omega) only [f_X2_far, inb_t, cl_nI, if_true, farS]
theorem fact4 (p : Nat) : (4 : Int32) * nI p = nI (4 * p) := by rw [show (4 : Int32) = nI 4 from rfl, pk_mul]
theorem s7_far {p q : Nat} {I : Mem} (hp : p < 6) (hq : q < 6) : f_X7_farOf (nI p) (nI q) I = some (farS (I 59 (4 * p)) (I 59 (4 * q)), I) := by
  have hneg : ∀ x : Int32, -x = 0 - x := fun x => (Int32.zero_sub x).symm
  simp (disch := omega) only [f_X7_farOf, fact4, inb_t, cl_nI, if_true, lt1_eq, f_X7_farOf_b59, f_X7_farOf_b72, farS, hneg]
  split <;> split <;> simp_all
theorem ti_div8 {x : Int32} (h : 0 ≤ x.toInt) (h2 : x.toInt ≤ 63) : (x / 8).toInt = x.toInt / 8 := by
  obtain ⟨n, hn, e, e2⟩ := nI_of_toInt h
  subst e
  rw [show (8 : Int32) = nI 8 from rfl, pk_div (by omega) (by omega) (by omega), ti_nI (by omega), ti_nI (by omega)]
  omega
theorem ti_m8 {x : Int32} (h : 0 ≤ x.toInt) (h2 : x.toInt ≤ 63) : (x - x / 8 * 8).toInt = x.toInt % 8 := by
  obtain ⟨n, hn, e, e2⟩ := nI_of_toInt h
  subst e
  rw [show (8 : Int32) = nI 8 from rfl, pk_rem (by omega) (by omega) (by omega), ti_nI (by omega), ti_nI (by omega)]
  omega
theorem ti_abs {d : Int32} (h1 : -100 ≤ d.toInt) (h2 : d.toInt ≤ 100) : (if 0 ≤ d then d else 0 - d).toInt = if 0 ≤ d.toInt then d.toInt else -d.toInt := by
  have e0 : (0 : Int32).toInt = 0 := rfl
  by_cases h : (0 : Int32) ≤ d
  · have h' := (i_le _ _).mp h
    rw [e0] at h'
    rw [if_pos h, if_pos h']
  · have h' : ¬ 0 ≤ d.toInt := fun q => h ((i_le _ _).mpr (by rw [e0]; exact q))
    rw [if_neg h, if_neg h', ti_sub] <;> rw [e0] <;> omega
theorem far_b {x y : Int32} (hx : 0 ≤ x.toInt ∧ x.toInt ≤ 63) (hy : 0 ≤ y.toInt ∧ y.toInt ≤ 63) : 0 ≤ (farS x y).toInt ∧ (farS x y).toInt ≤ 14 := by
  have a1 := ti_m8 hx.1 hx.2
  have a2 := ti_m8 hy.1 hy.2
  have b1 := ti_div8 hx.1 hx.2
  have b2 := ti_div8 hy.1 hy.2
  have c1 : ((x - x / 8 * 8) - (y - y / 8 * 8)).toInt = x.toInt % 8 - y.toInt % 8 := by rw [ti_sub] <;> omega
  have c2 : (x / 8 - y / 8).toInt = x.toInt / 8 - y.toInt / 8 := by rw [ti_sub] <;> omega
  have d1 := ti_abs (d := (x - x / 8 * 8) - (y - y / 8 * 8)) (by omega) (by omega)
  have d2 := ti_abs (d := x / 8 - y / 8) (by omega) (by omega)
  unfold farS
  rw [ti_add] <;> rw [d1, d2, c1, c2] <;> split <;> split <;> omega
theorem s7_isUp {p : Nat} {I : Mem} (hp : p < 6) : f_X7_isUp (nI p) I = some (if I 59 (4 * p + 1) ≤ 0 then 0 else 1, I) := by
  simp (disch := omega) only [f_X7_isUp, fact4, nI_1, inb_t, cl_nI, if_true, lt1_eq]
  split <;> rfl
/-- the bits, the number of those UP -/
def upb (S : RS) : Int32 := lp (fun p b => if S.1 3 p ≤ 0 then b else b ||| (1 <<< (nI p &&& 31))) S.2.1 0 0
def upn (S : RS) : Int32 := lp (fun p b => if S.1 3 p ≤ 0 then b else b + 1) S.2.1 0 0
theorem s2_upCount {I : Mem} {ρ : Nat} {S : RS} (h : CR I ρ S) (hg : GS S) : f_X2_upCount ρ I = some (upn S, I) := by
  have hN := hg.1
  have key : ∀ (k n p : Nat) (b : Int32), p + k = S.2.1 → k < n → f_X2_upCount_b4 ρ n (nI p) b I = some (lp (fun p b => if S.1 3 p ≤ 0 then b else b + 1) k p b, I) := by
    intro k
    induction k with
    | zero =>
      intro n p b hp hn
      obtain ⟨n, rfl⟩ : ∃ m, n = m + 1 := ⟨n - 1, by omega⟩
      rw [f_X2_upCount_b4, h.1, if_pos ((nI_le' (by omega) (by omega)).mpr (by omega))]
      rfl
    | succ k ih =>
      intro n p b hp hn
      obtain ⟨n, rfl⟩ : ∃ m, n = m + 1 := ⟨n - 1, by omega⟩
      rw [f_X2_upCount_b4, h.1, if_neg (by rw [nI_le' (by omega) (by omega)]; omega), if_pos (inb_t (by omega) (by omega)), cl_nI (by omega), (h.2.2.2.1 p (by omega)).2.2.2.1, lp, nI_1]
      by_cases hu : S.1 3 p ≤ 0
      · rw [if_pos hu, if_pos hu, ih n (p + 1) b (by omega) (by omega)]
      · rw [if_neg hu, if_neg hu, ih n (p + 1) (b + 1) (by omega) (by omega)]
  exact key S.2.1 FU 0 0 (by omega) (by show _ < 4096; omega)
theorem s2_upBits {I : Mem} {ρ : Nat} {S : RS} (h : CR I ρ S) (hg : GS S) : f_X2_upBits ρ I = some (upb S, I) := by
  have hN := hg.1
  have key : ∀ (k n p : Nat) (b : Int32), p + k = S.2.1 → k < n → f_X2_upBits_b4 ρ n (nI p) b I = some (lp (fun p b => if S.1 3 p ≤ 0 then b else b ||| (1 <<< (nI p &&& 31))) k p b, I) := by
    intro k
    induction k with
    | zero =>
      intro n p b hp hn
      obtain ⟨n, rfl⟩ : ∃ m, n = m + 1 := ⟨n - 1, by omega⟩
      rw [f_X2_upBits_b4, h.1, if_pos ((nI_le' (by omega) (by omega)).mpr (by omega))]
      rfl
    | succ k ih =>
      intro n p b hp hn
      obtain ⟨n, rfl⟩ : ∃ m, n = m + 1 := ⟨n - 1, by omega⟩
      rw [f_X2_upBits_b4, h.1, if_neg (by rw [nI_le' (by omega) (by omega)]; omega), if_pos (inb_t (by omega) (by omega)), cl_nI (by omega), (h.2.2.2.1 p (by omega)).2.2.2.1, lp, nI_1, lt1_eq]
      by_cases hu : S.1 3 p ≤ 0
      · rw [if_pos hu, if_pos hu, ih n (p + 1) b (by omega) (by omega)]
      · rw [if_neg hu, if_neg hu, ih n (p + 1) _ (by omega) (by omega)]
  exact key S.2.1 FU 0 0 (by omega) (by show _ < 4096; omega)
theorem s7_upSet {I : Mem} {S : RS} (h : MR I S) (hg : GS S) : f_X7_upSet I = some (upb S, I) := by
  have hN := hg.1
  have key : ∀ (k n p : Nat) (b : Int32), p + k = S.2.1 → k < n → f_X7_upSet_b4 n (nI p) b I = some (lp (fun p b => if S.1 3 p ≤ 0 then b else b ||| (1 <<< (nI p &&& 31))) k p b, I) := by
    intro k
    induction k with
    | zero =>
      intro n p b hp hn
      obtain ⟨n, rfl⟩ : ∃ m, n = m + 1 := ⟨n - 1, by omega⟩
      rw [f_X7_upSet_b4, h.1, if_pos ((nI_le' (by omega) (by omega)).mpr (by omega))]
      rfl
    | succ k ih =>
      intro n p b hp hn
      obtain ⟨n, rfl⟩ : ∃ m, n = m + 1 := ⟨n - 1, by omega⟩
      rw [f_X7_upSet_b4, h.1, if_neg (by rw [nI_le' (by omega) (by omega)]; omega), s7_isUp (by omega), bnd_some, (h.2.2.2.1 p (by omega)).2.2.2.1, lp]
      by_cases hu : S.1 3 p ≤ 0
      · rw [if_pos hu, if_pos hu, if_pos rfl, f_X7_upSet_b28, lt1_eq, nI_1, show b ||| 0 = b from Int32.or_zero, ih n (p + 1) b (by omega) (by omega)]
      · rw [if_neg hu, if_neg hu, if_neg (by decide), f_X7_upSet_b28, lt1_eq, nI_1, ih n (p + 1) _ (by omega) (by omega)]
  exact key S.2.1 FU 0 0 (by omega) (by show _ < 4096; omega)
/-- how many ones a set has -/
def onesS (a : Int32) : Int32 := lp (fun p b => b + ((a >>> (nI p &&& 31)) &&& 1)) 6 0 0
theorem s7_onesOf (a : Int32) (I : Mem) : f_X7_onesOf a I = some (onesS a, I) := by
  have key : ∀ (k n p : Nat) (b : Int32), p + k = 6 → k < n → f_X7_onesOf_b4 a n (nI p) b I = some (lp (fun p b => b + ((a >>> (nI p &&& 31)) &&& 1)) k p b, I) := by
    intro k
    induction k with
    | zero =>
      intro n p b hp hn
      obtain ⟨n, rfl⟩ : ∃ m, n = m + 1 := ⟨n - 1, by omega⟩
      rw [f_X7_onesOf_b4, show (6 : Int32) = nI 6 from rfl, if_pos ((nI_le' (by omega) (by omega)).mpr (by omega))]
      rfl
    | succ k ih =>
      intro n p b hp hn
      obtain ⟨n, rfl⟩ : ∃ m, n = m + 1 := ⟨n - 1, by omega⟩
      rw [f_X7_onesOf_b4, show (6 : Int32) = nI 6 from rfl, if_neg (by rw [nI_le' (by omega) (by omega)]; omega), lt1_eq, nI_1, ih n (p + 1) _ (by omega) (by omega), lp]
  exact key 6 FU 0 0 (by omega) (by show _ < 4096; omega)
theorem lp_congr {β : Type} {g h : Nat → β → β} : ∀ (k p : Nat) (b : β), (∀ j b, p ≤ j → j < p + k → g j b = h j b) → lp g k p b = lp h k p b := by
  intro k
  induction k with
  | zero => intro p b _; rfl
  | succ k ih =>
    intro p b hh
    rw [lp, lp, hh p b (Nat.le_refl _) (by omega)]
    exact ih (p + 1) _ (fun j b h1 h2 => hh j b (by omega) (by omega))
theorem ones_up (u : Nat → Bool) {N : Nat} (hN : N ≤ 6) : onesS (lp (fun p b => if u p = true then b ||| (1 <<< (nI p &&& 31)) else b) N 0 0) = lp (fun p b => if u p = true then b + 1 else b) N 0 0 := by
  rcases (show N = 0 ∨ N = 1 ∨ N = 2 ∨ N = 3 ∨ N = 4 ∨ N = 5 ∨ N = 6 by omega) with rfl | rfl | rfl | rfl | rfl | rfl | rfl
  · simp only [lp]; decide
  · cases h0 : u 0 <;> simp only [lp, h0] <;> decide
  · cases h0 : u 0 <;> cases h1 : u 1 <;> simp only [lp, h0, h1] <;> decide
  · cases h0 : u 0 <;> cases h1 : u 1 <;> cases h2 : u 2 <;> simp only [lp, h0, h1, h2] <;> decide
  · cases h0 : u 0 <;> cases h1 : u 1 <;> cases h2 : u 2 <;> cases h3 : u 3 <;> simp only [lp, h0, h1, h2, h3] <;> decide
  · cases h0 : u 0 <;> cases h1 : u 1 <;> cases h2 : u 2 <;> cases h3 : u 3 <;> cases h4 : u 4 <;> simp only [lp, h0, h1, h2, h3, h4] <;> decide
  · cases h0 : u 0 <;> cases h1 : u 1 <;> cases h2 : u 2 <;> cases h3 : u 3 <;> cases h4 : u 4 <;> cases h5 : u 5 <;> simp only [lp, h0, h1, h2, h3, h4, h5] <;> decide
theorem ones_upb {S : RS} (hg : GS S) : onesS (upb S) = upn S := by
  have h := ones_up (fun p => decide (¬ S.1 3 p ≤ 0)) hg.1
  have e1 : upb S = lp (fun p b => if (decide (¬ S.1 3 p ≤ 0)) = true then b ||| (1 <<< (nI p &&& 31)) else b) S.2.1 0 0 := lp_congr _ _ _ (fun j b _ _ => by by_cases hh : S.1 3 j ≤ 0 <;> simp [hh])
  have e2 : upn S = lp (fun p b => if (decide (¬ S.1 3 p ≤ 0)) = true then b + 1 else b) S.2.1 0 0 := lp_congr _ _ _ (fun j b _ _ => by by_cases hh : S.1 3 j ≤ 0 <;> simp [hh])
  rw [e1, e2]
  exact h
