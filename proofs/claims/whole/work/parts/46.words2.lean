/-! PURE 37: both know the same words -/
section W2
variable {tx : Nat → Nat} {tp : Nat}
def pmL : List Nat := [1, 2, 3, 7, 8, 9, 10, 11, 12, 4, 5, 6]
def pm (j : Nat) : Nat := pmL.getD j 0
theorem weF_l : ∀ (k a : Nat), a + k = tp → ∀ x, a ≤ x → x < weF tx tp k a → 97 ≤ tx x ∧ tx x ≤ 122
  | 0, a, _, x, h1, h2 => absurd h2 (by show ¬ x < a; omega)
  | k + 1, a, h, x, h1, h2 => by
    rw [weF] at h2
    by_cases hc : a < tp ∧ 97 ≤ tx a ∧ tx a ≤ 122
    · rw [if_pos hc] at h2
      by_cases hx : x = a
      · rw [hx]; exact hc.2
      · exact weF_l k (a + 1) (by omega) x (by omega) h2
    · rw [if_neg hc] at h2
      omega
theorem sp_iff {s e i : Nat} : spS tx s e i = true ↔ e - s = strL.getD i 0 ∧ ∀ x, x < strL.getD i 0 → nI (tx (s + x)) = (strB.getD i []).getD x 0 := by
  rw [spS, Bool.and_eq_true, decide_eq_true_eq, List.all_eq_true]
  constructor
  · intro h
    exact ⟨h.1, fun x hx => of_decide_eq_true (h.2 x (List.mem_range.mpr hx))⟩
  · intro h
    exact ⟨h.1, fun x hx => decide_eq_true (h.2 x (List.mem_range.mp hx))⟩
theorem mw_iff {s e j : Nat} : mwS tx s e j = true ↔ e - s ≤ 8 ∧ ∀ x, x < 8 → nI (wtab.getD (8 * j + x) 0) = if e ≤ s + x then 32 else nI (tx (s + x)) := by
  rw [mwS, Bool.and_eq_true, decide_eq_true_eq, List.all_eq_true]
  constructor
  · intro h
    exact ⟨h.1, fun x hx => of_decide_eq_true (h.2 x (by rw [List.mem_range']; exact ⟨x, hx, by omega⟩))⟩
  · intro h
    refine ⟨h.1, fun x hx => decide_eq_true (h.2 x ?_)⟩
    rw [List.mem_range'] at hx
    obtain ⟨i, hi, e⟩ := hx
    omega
theorem tabs : ∀ j : Fin 12, strL.getD (pm j.1) 0 ≤ 7 ∧ ∀ x : Fin 8, (x.1 < strL.getD (pm j.1) 0 → nI (wtab.getD (8 * j.1 + x.1) 0) = (strB.getD (pm j.1) []).getD x.1 0 ∧ ¬ nI (wtab.getD (8 * j.1 + x.1) 0) = 32) ∧ (strL.getD (pm j.1) 0 ≤ x.1 → nI (wtab.getD (8 * j.1 + x.1) 0) = 32) := by decide
theorem mw_sp {s e j : Nat} (hj : j < 12) (hs : s ≤ e) (hl : ∀ x, s ≤ x → x < e → 97 ≤ tx x ∧ tx x ≤ 122) : mwS tx s e j = true ↔ spS tx s e (pm j) = true := by
  obtain ⟨t1, t2⟩ := tabs ⟨j, hj⟩
  have t1' : strL.getD (pm j) 0 ≤ 7 := t1
  have u1 : ∀ x, x < 8 → x < strL.getD (pm j) 0 → nI (wtab.getD (8 * j + x) 0) = (strB.getD (pm j) []).getD x 0 ∧ ¬ nI (wtab.getD (8 * j + x) 0) = 32 := fun x h8 h => (t2 ⟨x, h8⟩).1 h
  have u2 : ∀ x, x < 8 → strL.getD (pm j) 0 ≤ x → nI (wtab.getD (8 * j + x) 0) = 32 := fun x h8 h => (t2 ⟨x, h8⟩).2 h
  rw [mw_iff, sp_iff]
  constructor
  · rintro ⟨h8, h⟩
    have hL : e - s = strL.getD (pm j) 0 := by
      rcases Nat.lt_trichotomy (e - s) (strL.getD (pm j) 0) with q | q | q
      · have h' := h (e - s) (by omega)
        rw [if_pos (by omega)] at h'
        exact absurd h' (u1 (e - s) (by omega) q).2
      · exact q
      · have h' := h (strL.getD (pm j) 0) (by omega)
        rw [u2 _ (by omega) (Nat.le_refl _), if_neg (by omega)] at h'
        obtain ⟨l1, l2⟩ := hl (s + strL.getD (pm j) 0) (by omega) (by omega)
        have := (nI_eq' (a := 32) (by omega) (by omega)).mp h'
        omega
    refine ⟨hL, fun x hx => ?_⟩
    have h' := h x (by omega)
    rw [if_neg (by omega)] at h'
    rw [← h', (u1 x (by omega) hx).1]
  · rintro ⟨hL, h⟩
    refine ⟨by omega, fun x hx => ?_⟩
    by_cases q : x < strL.getD (pm j) 0
    · rw [if_neg (by omega), h x q]
      exact (u1 x hx q).1
    · rw [if_pos (by omega)]
      exact u2 x hx (by omega)
theorem fw_or {s e : Nat} : ∀ (k i : Nat), (∃ i', i ≤ i' ∧ i' < i + k ∧ spS tx s e i' = true ∧ fwF tx s e k i = 0 - nI (2 + i')) ∨ ((∀ i', i ≤ i' → i' < i + k → ¬ spS tx s e i' = true) ∧ fwF tx s e k i = -2)
  | 0, i => Or.inr ⟨fun i' h1 h2 => by omega, rfl⟩
  | k + 1, i => by
    rw [fwF]
    by_cases h : spS tx s e i = true
    · rw [if_pos h]
      exact Or.inl ⟨i, Nat.le_refl _, by omega, h, rfl⟩
    · rw [if_neg h]
      rcases fw_or (s := s) (e := e) k (i + 1) with ⟨i', h1, h2, h3, h4⟩ | ⟨h1, h2⟩
      · exact Or.inl ⟨i', by omega, by omega, h3, h4⟩
      · refine Or.inr ⟨fun i' q1 q2 => ?_, h2⟩
        by_cases q : i' = i
        · rw [q]; exact h
        · exact h1 i' (by omega) (by omega)
theorem mw_or {s e : Nat} : ∀ (k j : Nat), j + k = 12 → (∃ j', j ≤ j' ∧ j' < 12 ∧ mwS tx s e j' = true ∧ mwF tx s e k j = j') ∨ ((∀ j', j ≤ j' → j' < 12 → ¬ mwS tx s e j' = true) ∧ mwF tx s e k j = 12)
  | 0, j, h => Or.inr ⟨fun j' h1 h2 => by omega, rfl⟩
  | k + 1, j, hk => by
    rw [mwF]
    by_cases h : mwS tx s e j = true
    · rw [if_pos h]
      exact Or.inl ⟨j, Nat.le_refl _, by omega, h, rfl⟩
    · rw [if_neg h]
      rcases mw_or (s := s) (e := e) k (j + 1) (by omega) with ⟨j', h1, h2, h3, h4⟩ | ⟨h1, h2⟩
      · exact Or.inl ⟨j', by omega, h2, h3, h4⟩
      · refine Or.inr ⟨fun j' q1 q2 => ?_, h2⟩
        by_cases q : j' = j
        · rw [q]; exact h
        · exact h1 j' (by omega) q2
theorem sp_uni {s e i i' : Nat} (h1 : i < 13) (h2 : i' < 13) (hi : 1 ≤ i) (hi' : 1 ≤ i') (h : spS tx s e i = true) (h' : spS tx s e i' = true) : i = i' := by
  have hd : ∀ a b : Fin 13, 1 ≤ a.1 → 1 ≤ b.1 → a.1 = b.1 ∨ ¬ strL.getD a.1 0 = strL.getD b.1 0 ∨ ∃ x : Fin 5, x.1 < strL.getD a.1 0 ∧ ¬ (strB.getD a.1 []).getD x.1 0 = (strB.getD b.1 []).getD x.1 0 := by decide
  rw [sp_iff] at h h'
  rcases hd ⟨i, h1⟩ ⟨i', h2⟩ hi hi' with q | q | ⟨x, q1, q2⟩
  · exact q
  · exact absurd (h.1.symm.trans h'.1) q
  · have e1 := h.2 x.1 q1
    have e2 := h'.2 x.1 (by rw [← h'.1, h.1]; exact q1)
    exact absurd (e1.symm.trans e2) q2
/-- the word from s to e: both codes -/
theorem word2 {s e : Nat} (hs : s ≤ e) (hl : ∀ x, s ≤ x → x < e → 97 ≤ tx x ∧ tx x ≤ 122) : (fwF tx s e 12 1 = -2 ∧ mwF tx s e 12 0 = 12) ∨ ∃ j, j < 12 ∧ mwF tx s e 12 0 = j ∧ fwF tx s e 12 1 = 0 - nI (2 + pm j) := by
  have hp : ∀ j : Fin 12, 1 ≤ pm j.1 ∧ pm j.1 < 13 := by decide
  have hq : ∀ i : Fin 13, 1 ≤ i.1 → ∃ j : Fin 12, pm j.1 = i.1 := by decide
  rcases mw_or (tx := tx) (s := s) (e := e) 12 0 (by omega) with ⟨j, _, h2, h3, h4⟩ | ⟨h1, h2⟩
  · have hsp := (mw_sp h2 hs hl).mp h3
    rcases fw_or (tx := tx) (s := s) (e := e) 12 1 with ⟨i, g1, g2, g3, g4⟩ | ⟨g1, g2⟩
    · have hi := sp_uni (by omega) (hp ⟨j, h2⟩).2 g1 (hp ⟨j, h2⟩).1 g3 hsp
      exact Or.inr ⟨j, h2, h4, by rw [g4, hi]⟩
    · exact absurd hsp (g1 (pm j) (hp ⟨j, h2⟩).1 (by have := (hp ⟨j, h2⟩).2; show pm j < 13; exact this))
  · rcases fw_or (tx := tx) (s := s) (e := e) 12 1 with ⟨i, g1, g2, g3, g4⟩ | ⟨g1, g2⟩
    · obtain ⟨j, hj⟩ := hq ⟨i, by omega⟩ g1
      have hj' : pm j.1 = i := hj
      exact absurd ((mw_sp j.2 hs hl).mpr (by rw [hj']; exact g3)) (h1 j.1 (by omega) j.2)
    · exact Or.inl ⟨g2, h2⟩
end W2
