/-! PURE 35: words, numbers, next of the class -/
section LexD
variable {tx : Nat → Nat} {tp : Nat}
theorem fwF_s (s e k i : Nat) : fwF tx s e (k + 1) i = if spS tx s e i = true then 0 - nI (2 + i) else fwF tx s e k (i + 1) := rfl
theorem s1_word9 {J : Mem} {s e : Nat} (h : RdC tx tp J e) (hs : s ≤ e) (h3 : J 26 3 = nI s) : f_X1_nextWord_b39 J = some (fwF tx s e 12 1, J) := by
  rw [f_X1_nextWord_b39]
  rw [s1_spells (i := 1) (by omega) h hs h3, bnd_some, fwF_s]
  by_cases q1 : spS tx s e 1 = true
  · rw [if_pos q1, if_pos q1, if_neg (show ¬ (1 : Int32) = 0 by decide)]
    rfl
  rw [if_neg q1, if_neg q1, if_pos (show (0 : Int32) = 0 from rfl)]
  rw [s1_spells (i := 2) (by omega) h hs h3, bnd_some, fwF_s]
  by_cases q2 : spS tx s e 2 = true
  · rw [if_pos q2, if_pos q2, if_neg (show ¬ (1 : Int32) = 0 by decide)]
    rfl
  rw [if_neg q2, if_neg q2, if_pos (show (0 : Int32) = 0 from rfl)]
  rw [s1_spells (i := 3) (by omega) h hs h3, bnd_some, fwF_s]
  by_cases q3 : spS tx s e 3 = true
  · rw [if_pos q3, if_pos q3, if_neg (show ¬ (1 : Int32) = 0 by decide)]
    rfl
  rw [if_neg q3, if_neg q3, if_pos (show (0 : Int32) = 0 from rfl)]
  rw [s1_spells (i := 4) (by omega) h hs h3, bnd_some, fwF_s]
  by_cases q4 : spS tx s e 4 = true
  · rw [if_pos q4, if_pos q4, if_neg (show ¬ (1 : Int32) = 0 by decide)]
    rfl
  rw [if_neg q4, if_neg q4, if_pos (show (0 : Int32) = 0 from rfl)]
  rw [s1_spells (i := 5) (by omega) h hs h3, bnd_some, fwF_s]
  by_cases q5 : spS tx s e 5 = true
  · rw [if_pos q5, if_pos q5, if_neg (show ¬ (1 : Int32) = 0 by decide)]
    rfl
  rw [if_neg q5, if_neg q5, if_pos (show (0 : Int32) = 0 from rfl)]
  rw [s1_spells (i := 6) (by omega) h hs h3, bnd_some, fwF_s]
  by_cases q6 : spS tx s e 6 = true
  · rw [if_pos q6, if_pos q6, if_neg (show ¬ (1 : Int32) = 0 by decide)]
    rfl
  rw [if_neg q6, if_neg q6, if_pos (show (0 : Int32) = 0 from rfl)]
  rw [s1_spells (i := 7) (by omega) h hs h3, bnd_some, fwF_s]
  by_cases q7 : spS tx s e 7 = true
  · rw [if_pos q7, if_pos q7, if_neg (show ¬ (1 : Int32) = 0 by decide)]
    rfl
  rw [if_neg q7, if_neg q7, if_pos (show (0 : Int32) = 0 from rfl)]
  rw [s1_spells (i := 8) (by omega) h hs h3, bnd_some, fwF_s]
  by_cases q8 : spS tx s e 8 = true
  · rw [if_pos q8, if_pos q8, if_neg (show ¬ (1 : Int32) = 0 by decide)]
    rfl
  rw [if_neg q8, if_neg q8, if_pos (show (0 : Int32) = 0 from rfl)]
  rw [s1_spells (i := 9) (by omega) h hs h3, bnd_some, fwF_s]
  by_cases q9 : spS tx s e 9 = true
  · rw [if_pos q9, if_pos q9, if_neg (show ¬ (1 : Int32) = 0 by decide)]
    rfl
  rw [if_neg q9, if_neg q9, if_pos (show (0 : Int32) = 0 from rfl)]
  rw [s1_spells (i := 10) (by omega) h hs h3, bnd_some, fwF_s]
  by_cases q10 : spS tx s e 10 = true
  · rw [if_pos q10, if_pos q10, if_neg (show ¬ (1 : Int32) = 0 by decide)]
    rfl
  rw [if_neg q10, if_neg q10, if_pos (show (0 : Int32) = 0 from rfl)]
  rw [s1_spells (i := 11) (by omega) h hs h3, bnd_some, fwF_s]
  by_cases q11 : spS tx s e 11 = true
  · rw [if_pos q11, if_pos q11, if_neg (show ¬ (1 : Int32) = 0 by decide)]
    rfl
  rw [if_neg q11, if_neg q11, if_pos (show (0 : Int32) = 0 from rfl)]
  rw [s1_spells (i := 12) (by omega) h hs h3, bnd_some, fwF_s]
  by_cases q12 : spS tx s e 12 = true
  · rw [if_pos q12, if_pos q12, if_neg (show ¬ (1 : Int32) = 0 by decide)]
    rfl
  rw [if_neg q12, if_neg q12, if_pos (show (0 : Int32) = 0 from rfl)]
  rfl
theorem RdC_at {J : Mem} {a b : Nat} (h : RdC tx tp J a) (hb : b ≤ tp) : RdC tx tp (wr J 26 2 (nI b)) b := ⟨by rw [wr_j _ _ _ (by omega)]; exact h.1, by rw [wr_j _ _ _ (by omega)]; exact h.2.1, wr_s _ _ _ _, hb, h.2.2.2.2.1, fun k hk => by rw [wr_k _ _ _ (by omega)]; exact h.2.2.2.2.2 k hk⟩
theorem RdC_w {J : Mem} {a j : Nat} {v : Int32} (h : RdC tx tp J a) (hj : 2 < j) : RdC tx tp (wr J 26 j v) a := ⟨by rw [wr_j _ _ _ (by omega)]; exact h.1, by rw [wr_j _ _ _ (by omega)]; exact h.2.1, by rw [wr_j _ _ _ (by omega)]; exact h.2.2.1, h.2.2.2.1, h.2.2.2.2.1, fun k hk => by rw [wr_k _ _ _ (by omega)]; exact h.2.2.2.2.2 k hk⟩
theorem s1_word {s : Nat} : ∀ (k n a : Nat) (J : Mem), a + k = tp → k < n → s ≤ a → RdC tx tp J a → J 26 3 = nI s → ∃ K, f_X1_nextWord_b0 n J = some (fwF tx s (weF tx tp k a) 12 1, K) ∧ RdC tx tp K (weF tx tp k a) ∧ (∀ j, j ≠ 2 → K 26 j = J 26 j) ∧ ∀ c, c ≠ 26 → K c = J c := by
  intro k
  induction k with
  | zero =>
    intro n a J ha hn hs h h3
    obtain ⟨n, rfl⟩ : ∃ m, n = m + 1 := ⟨n - 1, by omega⟩
    have ht := h.2.2.2.2.1
    rw [f_X1_nextWord_b0, h.2.1, h.2.2.1, if_pos ((nI_le' (by omega) (by omega)).mpr (by omega)), s1_word9 h hs h3, weF]
    exact ⟨J, rfl, h, fun _ _ => rfl, fun _ _ => rfl⟩
  | succ k ih =>
    intro n a J ha hn hs h h3
    obtain ⟨n, rfl⟩ : ∃ m, n = m + 1 := ⟨n - 1, by omega⟩
    have ht := h.2.2.2.2.1
    obtain ⟨hb, hb2⟩ := h.2.2.2.2.2 a (by omega)
    rw [f_X1_nextWord_b0, h.2.1, h.2.2.1, if_neg (by rw [nI_le' (by omega) (by omega)]; omega), if_pos h.1, if_pos (inb_t (by omega) (by omega)), cl_nI (by omega), hb, s1_isLetter hb2, bnd_some, weF]
    by_cases hl : 97 ≤ tx a ∧ tx a ≤ 122
    · rw [if_pos hl, if_neg (show ¬ (1 : Int32) = 0 by decide), lt1_eq, h.2.2.1, nI_1, if_pos ⟨by omega, hl⟩]
      obtain ⟨K, e, r, f1, f2⟩ := ih n (a + 1) (wr J 26 2 (nI (a + 1))) (by omega) (by omega) (by omega) (RdC_at h (by omega)) (by rw [wr_j _ _ _ (by omega)]; exact h3)
      exact ⟨K, e, r, fun j hj => (f1 j hj).trans (wr_j _ _ _ hj), fun c hc => (f2 c hc).trans (wr_k _ _ _ hc)⟩
    · rw [if_neg hl, if_pos rfl, if_neg (fun hh => hl hh.2), s1_word9 h hs h3]
      exact ⟨J, rfl, h, fun _ _ => rfl, fun _ _ => rfl⟩
theorem nI_sb {a b : Nat} (h : b ≤ a) (ha : a < 2147483648) : nI a - nI b = nI (a - b) := by
  rw [i_eq, ti_sub] <;> rw [ti_nI (by omega), ti_nI (by omega)]
  · rw [ti_nI (by omega)]; omega
  · omega
  · omega
theorem s1_num {s : Nat} : ∀ (k n a : Nat) (v : Int32) (J : Mem), a + k = tp → k < n → s ≤ a → RdC tx tp J a → J 26 3 = nI s → ∃ K, f_X1_nextNumber_b2 n v J = some ((nuF tx tp s k a v).2, K) ∧ RdC tx tp K (nuF tx tp s k a v).1 ∧ (∀ j, j ≠ 2 → K 26 j = J 26 j) ∧ ∀ c, c ≠ 26 → K c = J c := by
  intro k
  induction k with
  | zero =>
    intro n a v J ha hn hs h h3
    obtain ⟨n, rfl⟩ : ∃ m, n = m + 1 := ⟨n - 1, by omega⟩
    have ht := h.2.2.2.2.1
    rw [f_X1_nextNumber_b2, h.2.1, h.2.2.1, if_pos ((nI_le' (by omega) (by omega)).mpr (by omega)), nuF]
    exact ⟨J, rfl, h, fun _ _ => rfl, fun _ _ => rfl⟩
  | succ k ih =>
    intro n a v J ha hn hs h h3
    obtain ⟨n, rfl⟩ : ∃ m, n = m + 1 := ⟨n - 1, by omega⟩
    have ht := h.2.2.2.2.1
    obtain ⟨hb, hb2⟩ := h.2.2.2.2.2 a (by omega)
    rw [f_X1_nextNumber_b2, h.2.1, h.2.2.1, if_neg (by rw [nI_le' (by omega) (by omega)]; omega), if_pos h.1, if_pos (inb_t (by omega) (by omega)), cl_nI (by omega), hb, s1_isDigit hb2, bnd_some, nuF]
    by_cases hl : 48 ≤ tx a ∧ tx a ≤ 57
    · rw [if_pos hl, if_neg (show ¬ (1 : Int32) = 0 by decide), h3, h.2.2.1, nI_sb hs (by omega), if_pos (show a < tp ∧ 48 ≤ tx a ∧ tx a ≤ 57 from ⟨by omega, hl⟩), f_X1_nextNumber_b63, f_X1_nextNumber_b63, lt1_eq, lt1_eq, if_pos h.1, if_pos (inb_t (by omega) (by omega)), h.2.2.1, nI_1, cl_nI (by omega), hb]
      have go : ∀ v', ∃ K, f_X1_nextNumber_b2 n v' (wr J 26 2 (nI (a + 1))) = some ((nuF tx tp s k (a + 1) v').2, K) ∧ RdC tx tp K (nuF tx tp s k (a + 1) v').1 ∧ (∀ j, j ≠ 2 → K 26 j = J 26 j) ∧ ∀ c, c ≠ 26 → K c = J c := by
        intro v'
        obtain ⟨K, e, r, f1, f2⟩ := ih n (a + 1) v' (wr J 26 2 (nI (a + 1))) (by omega) (by omega) (by omega) (RdC_at h (by omega)) (by rw [wr_j _ _ _ (by omega)]; exact h3)
        exact ⟨K, e, r, fun j hj => (f1 j hj).trans (wr_j _ _ _ hj), fun c hc => (f2 c hc).trans (wr_k _ _ _ hc)⟩
      by_cases h4 : 4 ≤ a - s
      · rw [if_pos (show (4 : Int32) ≤ nI (a - s) from (nI_le' (a := 4) (by omega) (by omega)).mpr h4), if_pos h4]
        exact go _
      · rw [if_neg (show ¬ (4 : Int32) ≤ nI (a - s) from fun hh => h4 ((nI_le' (a := 4) (by omega) (by omega)).mp hh)), if_neg h4]
        exact go _
    · rw [if_neg hl, if_pos rfl, if_neg (fun hh => hl hh.2)]
      exact ⟨J, rfl, h, fun _ _ => rfl, fun _ _ => rfl⟩
/-- after next: the token at s -/
def TkC (tx : Nat → Nat) (tp : Nat) (K : Mem) (s : Nat) : Prop := K 26 3 = nI s ∧ K 26 4 = (LX1 tx tp s).1 ∧ RdC tx tp K (LX1 tx tp s).2
theorem s1_next5 {J : Mem} {s : Nat} (h : RdC tx tp J s) : ∃ K, f_X1_next_b52 J = some ((), K) ∧ TkC tx tp K s ∧ (∀ j, j ≠ 2 → j ≠ 3 → j ≠ 4 → K 26 j = J 26 j) ∧ ∀ c, c ≠ 26 → K c = J c := by
  have ht := h.2.2.2.2.1
  have ht2 := h.2.2.2.1
  have h' : RdC tx tp (wr J 26 3 (nI s)) s := RdC_w h (by omega)
  have h3 : wr J 26 3 (nI s) 26 3 = nI s := wr_s _ _ _ _
  rw [f_X1_next_b52, lt1_eq, h.2.2.1, h'.2.2.1, h'.2.1, if_pos h'.1]
  unfold TkC LX1
  by_cases hs : s < tp
  · obtain ⟨hb, hb2⟩ := h'.2.2.2.2.2 s hs
    rw [if_pos ((nI_lt' (by omega) (by omega)).mpr hs), if_pos hs, if_pos (inb_t (by omega) (by omega)), cl_nI (by omega), hb, s1_isLetter hb2, bnd_some]
    by_cases hl : 97 ≤ tx s ∧ tx s ≤ 122
    · obtain ⟨K, e, r, f1, f2⟩ := s1_word (s := s) (tp - s) FU s (wr J 26 3 (nI s)) (by omega) (by show _ < 4096; omega) (Nat.le_refl _) h' h3
      rw [if_pos hl, if_neg (show ¬ (1 : Int32) = 0 by decide), f_X1_nextWord, e, bnd_some, lt1_eq]
      simp only [if_pos hl]
      exact ⟨_, rfl, ⟨by rw [wr_j _ _ _ (by omega), f1 3 (by omega)]; exact h3, wr_s _ _ _ _, RdC_w r (by omega)⟩, fun j a b c => by rw [wr_j _ _ _ c, f1 j a, wr_j _ _ _ b], fun c hc => by rw [wr_k _ _ _ hc, f2 c hc, wr_k _ _ _ hc]⟩
    · rw [if_neg hl, if_pos rfl, if_pos h'.1, h'.2.2.1, if_pos (inb_t (by omega) (by omega)), cl_nI (by omega), hb, s1_isDigit hb2, bnd_some]
      simp only [if_neg hl]
      by_cases hd : 48 ≤ tx s ∧ tx s ≤ 57
      · obtain ⟨K, e, r, f1, f2⟩ := s1_num (s := s) (tp - s) FU s 0 (wr J 26 3 (nI s)) (by omega) (by show _ < 4096; omega) (Nat.le_refl _) h' h3
        rw [if_pos hd, if_neg (show ¬ (1 : Int32) = 0 by decide), f_X1_nextNumber, e, bnd_some, lt1_eq]
        simp only [if_pos hd]
        exact ⟨_, rfl, ⟨by rw [wr_j _ _ _ (by omega), f1 3 (by omega)]; exact h3, wr_s _ _ _ _, RdC_w r (by omega)⟩, fun j a b c => by rw [wr_j _ _ _ c, f1 j a, wr_j _ _ _ b], fun c hc => by rw [wr_k _ _ _ hc, f2 c hc, wr_k _ _ _ hc]⟩
      · rw [if_neg hd, if_pos rfl, if_pos h'.1, h'.2.2.1, if_pos (inb_t (by omega) (by omega)), cl_nI (by omega), hb, s5_ofSign hb2, bnd_some, lt1_eq, lt1_eq]
        simp only [if_neg hd]
        have h4 := RdC_w (j := 4) (v := sgC (tx s)) h' (by omega)
        rw [h4.2.2.1, nI_1]
        exact ⟨_, rfl, ⟨by rw [wr_j _ _ _ (by omega), wr_j _ _ _ (by omega)]; exact h3, by rw [wr_j _ _ _ (by omega), wr_s], RdC_at h4 (by omega)⟩, fun j a b c => by rw [wr_j _ _ _ a, wr_j _ _ _ c, wr_j _ _ _ b], fun c hc => by rw [wr_k _ _ _ hc, wr_k _ _ _ hc, wr_k _ _ _ hc]⟩
  · rw [if_neg (by rw [nI_lt' (by omega) (by omega)]; exact hs), lt1_eq]
    simp only [if_neg hs]
    exact ⟨_, rfl, ⟨by rw [wr_j _ _ _ (by omega)]; exact h3, wr_s _ _ _ _, RdC_w h' (by omega)⟩, fun j a b c => by rw [wr_j _ _ _ c, wr_j _ _ _ b], fun c hc => by rw [wr_k _ _ _ hc, wr_k _ _ _ hc]⟩
theorem s1_next {J : Mem} {a : Nat} (h : RdC tx tp J a) : ∃ K, f_X1_next J = some ((), K) ∧ TkC tx tp K (LXs tx tp a) ∧ (∀ j, j ≠ 2 → j ≠ 3 → j ≠ 4 → K 26 j = J 26 j) ∧ ∀ c, c ≠ 26 → K c = J c := by
  have key : ∀ (k n a : Nat) (J : Mem), a + k = tp → k < n → RdC tx tp J a → ∃ K, f_X1_next_b0 n J = some ((), K) ∧ TkC tx tp K (skF tx tp k a) ∧ (∀ j, j ≠ 2 → j ≠ 3 → j ≠ 4 → K 26 j = J 26 j) ∧ ∀ c, c ≠ 26 → K c = J c := by
    intro k
    induction k with
    | zero =>
      intro n a J ha hn h
      obtain ⟨n, rfl⟩ : ∃ m, n = m + 1 := ⟨n - 1, by omega⟩
      have ht := h.2.2.2.2.1
      rw [f_X1_next_b0, h.2.1, h.2.2.1, if_pos ((nI_le' (by omega) (by omega)).mpr (by omega)), skF]
      exact s1_next5 h
    | succ k ih =>
      intro n a J ha hn h
      obtain ⟨n, rfl⟩ : ∃ m, n = m + 1 := ⟨n - 1, by omega⟩
      have ht := h.2.2.2.2.1
      obtain ⟨hb, hb2⟩ := h.2.2.2.2.2 a (by omega)
      have go : ∃ K, f_X1_next_b39 (f_X1_next_b0 n) J = some ((), K) ∧ TkC tx tp K (skF tx tp k (a + 1)) ∧ (∀ j, j ≠ 2 → j ≠ 3 → j ≠ 4 → K 26 j = J 26 j) ∧ ∀ c, c ≠ 26 → K c = J c := by
        obtain ⟨K, e, r, f1, f2⟩ := ih n (a + 1) (wr J 26 2 (nI (a + 1))) (by omega) (by omega) (RdC_at h (by omega))
        rw [f_X1_next_b39, lt1_eq, h.2.2.1, nI_1]
        exact ⟨K, e, r, fun j q1 q2 q3 => (f1 j q1 q2 q3).trans (wr_j _ _ _ q1), fun c hc => (f2 c hc).trans (wr_k _ _ _ hc)⟩
      have e32 : nI (tx a) = (32 : Int32) ↔ tx a = 32 := nI_eq' (b := 32) (by omega) (by omega)
      have e10 : nI (tx a) = (10 : Int32) ↔ tx a = 10 := nI_eq' (b := 10) (by omega) (by omega)
      rw [f_X1_next_b0, h.2.1, h.2.2.1, if_neg (by rw [nI_le' (by omega) (by omega)]; omega), if_pos h.1, if_pos (inb_t (by omega) (by omega)), cl_nI (by omega), hb, skF]
      by_cases h1 : tx a = 32
      · rw [if_pos (e32.mpr h1), if_pos (show a < tp ∧ (tx a = 32 ∨ tx a = 10) from ⟨by omega, Or.inl h1⟩)]
        exact go
      · rw [if_neg (fun hh => h1 (e32.mp hh)), if_pos h.1, if_pos (inb_t (by omega) (by omega))]
        by_cases h2 : tx a = 10
        · rw [if_pos (e10.mpr h2), if_pos (show a < tp ∧ (tx a = 32 ∨ tx a = 10) from ⟨by omega, Or.inr h2⟩)]
          exact go
        · rw [if_neg (fun hh => h2 (e10.mp hh)), if_neg (by omega)]
          exact s1_next5 h
  have ht := h.2.2.2.2.1
  have ha := h.2.2.2.1
  exact key (tp - a) FU a J (by omega) (by show _ < 4096; omega) h
end LexD
