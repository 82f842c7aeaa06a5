/-! PURE 39: the model's next, whole -/
section NextM2
variable {tx : Nat → Nat} {tp : Nat}
/-- after next: the model's token at s -/
def TkM (tx : Nat → Nat) (tp : Nat) (K : Mem) (s : Nat) : Prop := K 56 20 = nI s ∧ RdM tx tp K (LX1 tx tp s).2 ∧ tkR (LX1 tx tp s).1 (K 56 21) (K 56 22)
theorem s7_b146 {J : Mem} {s e : Nat} (h : RdM tx tp J e) (hs : s ≤ e) (h20 : J 56 20 = nI s) (hl : ∀ x, s ≤ x → x < e → 97 ≤ tx x ∧ tx x ≤ 122) : ∃ K, f_X7_next_b146 J = some ((), K) ∧ RdM tx tp K e ∧ tkR (fwF tx s e 12 1) (K 56 21) (K 56 22) ∧ K 56 20 = nI s ∧ FrX J K := by
  have mk : ∀ x y : Int32, RdM tx tp (wr (wr J 56 21 x) 56 22 y) e ∧ wr (wr J 56 21 x) 56 22 y 56 21 = x ∧ wr (wr J 56 21 x) 56 22 y 56 22 = y ∧ wr (wr J 56 21 x) 56 22 y 56 20 = nI s ∧ FrX J (wr (wr J 56 21 x) 56 22 y) := fun x y => ⟨RdM_w (RdM_w h (by omega)) (by omega), by rw [wr_j _ _ _ (by omega), wr_s], wr_s _ _ _ _, by rw [wr_j _ _ _ (by omega), wr_j _ _ _ (by omega)]; exact h20, (FrX.w (by omega)).tr (FrX.w (by omega))⟩
  have hX : ∀ (x2 s0 : Int32), f_X7_next_b195 x2 s0 J = some ((), wr (wr J 56 21 s0) 56 22 (if (3 : Int32) ≤ x2 then x2 - 3 else x2)) := by
    intro x2 s0
    rw [f_X7_next_b195, lt1_eq, f_X7_next_b211, f_X7_next_b211, lt1_eq, lt1_eq]
    split <;> rfl
  rw [f_X7_next_b146, h20, h.2.1, s7_word h hs h.2.2.1, bnd_some, hX, hX, hX, hX]
  rcases word2 (tx := tx) hs hl with ⟨e1, e2⟩ | ⟨j, hj, e1, e2⟩
  · rw [e1, e2, if_pos (by decide), if_pos (by decide), if_pos (by decide)]
    obtain ⟨a1, a2, a3, a4, a5⟩ := mk (-1) (if (3 : Int32) ≤ nI 12 then nI 12 - 3 else nI 12)
    exact ⟨_, rfl, a1, Or.inr (Or.inl ⟨rfl, a2⟩), a4, a5⟩
  · rw [e1, e2]
    have tk : ∀ x y : Int32, x = (if j < 3 then 3 else if j < 9 then 2 else nI (j - 5)) → y = nI (if 3 ≤ j then j - 3 else j) → ∃ K, some ((), wr (wr J 56 21 x) 56 22 y) = some ((), K) ∧ RdM tx tp K e ∧ tkR (0 - nI (2 + pm j)) (K 56 21) (K 56 22) ∧ K 56 20 = nI s ∧ FrX J K := by
      intro x y hx hy
      obtain ⟨a1, a2, a3, a4, a5⟩ := mk x y
      exact ⟨_, rfl, a1, Or.inr (Or.inr (Or.inr (Or.inl ⟨j, hj, rfl, a2.trans hx, a3.trans hy⟩))), a4, a5⟩
    have hd : ∀ j : Fin 12, (if (3 : Int32) ≤ nI j.1 then nI j.1 - 3 else nI j.1) = nI (if 3 ≤ j.1 then j.1 - 3 else j.1) := by decide
    have hd' : (if (3 : Int32) ≤ nI j then nI j - 3 else nI j) = nI (if 3 ≤ j then j - 3 else j) := hd ⟨j, hj⟩
    rw [hd']
    by_cases q1 : 3 ≤ j
    · rw [if_pos (show (3 : Int32) ≤ nI j from (nI_le' (a := 3) (by omega) (by omega)).mpr q1)]
      by_cases q2 : 9 ≤ j
      · have h12 : ¬ nI j = (12 : Int32) := fun hh => by have := (nI_eq' (b := 12) (by omega) (by omega)).mp hh; omega
        rw [if_pos (show (9 : Int32) ≤ nI j from (nI_le' (a := 9) (by omega) (by omega)).mpr q2), if_neg h12]
        have e4 : (4 : Int32) + nI j - 9 = nI (j - 5) := by
          rw [show (4 : Int32) = nI 4 from rfl, nI_add, show (9 : Int32) = nI 9 from rfl, nI_sb (by omega) (by omega), show 4 + j - 9 = j - 5 by omega]
        exact tk _ _ (by rw [e4, if_neg (by omega), if_neg (by omega)]) rfl
      · rw [if_neg (show ¬ (9 : Int32) ≤ nI j from fun hh => q2 ((nI_le' (a := 9) (by omega) (by omega)).mp hh))]
        exact tk _ _ (by rw [if_neg (by omega), if_pos (by omega)]) rfl
    · rw [if_neg (show ¬ (3 : Int32) ≤ nI j from fun hh => q1 ((nI_le' (a := 3) (by omega) (by omega)).mp hh))]
      exact tk _ _ (by rw [if_pos (by omega)]) rfl
theorem s7_b103 {s : Nat} : ∀ (k n a : Nat) (J : Mem), a + k = tp → k < n → s ≤ a → RdM tx tp J a → J 56 20 = nI s → (∀ x, s ≤ x → x < weF tx tp k a → 97 ≤ tx x ∧ tx x ≤ 122) → ∃ K, f_X7_next_b103 n J = some ((), K) ∧ RdM tx tp K (weF tx tp k a) ∧ tkR (fwF tx s (weF tx tp k a) 12 1) (K 56 21) (K 56 22) ∧ K 56 20 = nI s ∧ FrX J K := by
  intro k
  induction k with
  | zero =>
    intro n a J ha hn hs h h20 hl
    obtain ⟨n, rfl⟩ : ∃ m, n = m + 1 := ⟨n - 1, by omega⟩
    have ht := h.2.2.2.1
    rw [f_X7_next_b103, h.1, h.2.1, if_pos ((nI_le' (by omega) (by omega)).mpr (by omega))]
    exact s7_b146 h hs h20 hl
  | succ k ih =>
    intro n a J ha hn hs h h20 hl
    obtain ⟨n, rfl⟩ : ∃ m, n = m + 1 := ⟨n - 1, by omega⟩
    have ht := h.2.2.2.1
    obtain ⟨hb, hb2⟩ := h.2.2.2.2.1 a (by omega)
    rw [f_X7_next_b103, h.1, h.2.1, if_neg (by rw [nI_le' (by omega) (by omega)]; omega), if_pos (inb_t (by omega) (by omega)), cl_nI (by omega), hb, show (97 : Int32) = nI 97 from rfl, show (122 : Int32) = nI 122 from rfl, s7_inb (by omega) (by omega) (by omega), bnd_some]
    by_cases hq : 97 ≤ tx a ∧ tx a ≤ 122
    · have hw : weF tx tp (k + 1) a = weF tx tp k (a + 1) := by rw [weF, if_pos ⟨by omega, hq⟩]
      rw [hw] at hl ⊢
      obtain ⟨K, e, r, t, q, f⟩ := ih n (a + 1) (wr J 56 19 (nI (a + 1))) (by omega) (by omega) (by omega) (RdM_at h (by omega)) (by rw [wr_j _ _ _ (by omega)]; exact h20) hl
      rw [if_pos hq, if_neg (show ¬ (1 : Int32) = 0 by decide), lt1_eq, h.2.1, nI_1]
      exact ⟨K, e, r, t, q, (FrX.w (by omega)).tr f⟩
    · have hw : weF tx tp (k + 1) a = a := by rw [weF, if_neg (fun hh => hq hh.2)]
      rw [hw] at hl ⊢
      rw [if_neg hq, if_pos rfl]
      exact s7_b146 h hs h20 hl
theorem s7_next5 {J : Mem} {s : Nat} (h : RdM tx tp J s) : ∃ K, f_X7_next_b52 J = some ((), K) ∧ TkM tx tp K s ∧ FrX J K := by
  have ht := h.2.2.2.1
  have hsp := h.2.2.1
  have h3 : RdM tx tp (wr (wr (wr J 56 20 (nI s)) 56 21 0) 56 22 0) s := RdM_w (RdM_w (RdM_w h (by omega)) (by omega)) (by omega)
  have f3 : FrX J (wr (wr (wr J 56 20 (nI s)) 56 21 0) 56 22 0) := (FrX.w (by omega)).tr ((FrX.w (by omega)).tr (FrX.w (by omega)))
  have w20 : wr (wr (wr J 56 20 (nI s)) 56 21 0) 56 22 0 56 20 = nI s := by rw [wr_j _ _ _ (by omega), wr_j _ _ _ (by omega), wr_s]
  have w21 : wr (wr (wr J 56 20 (nI s)) 56 21 0) 56 22 0 56 21 = 0 := by rw [wr_j _ _ _ (by omega), wr_s]
  have w22 : wr (wr (wr J 56 20 (nI s)) 56 21 0) 56 22 0 56 22 = 0 := wr_s _ _ _ _
  rw [f_X7_next_b52, lt1_eq, lt1_eq, lt1_eq, h.2.1]
  generalize wr (wr (wr J 56 20 (nI s)) 56 21 0) 56 22 0 = M at h3 f3 w20 w21 w22 ⊢
  rw [h3.2.1, h3.1]
  unfold TkM LX1
  by_cases hs : s < tp
  · obtain ⟨hb, hb2⟩ := h3.2.2.2.2.1 s hs
    rw [if_neg (show ¬ nI s = nI tp from fun hh => by have := (nI_eq' (by omega) (by omega)).mp hh; omega), if_pos (inb_t (by omega) (by omega)), lt1_eq, cl_nI (by omega), hb, show (97 : Int32) = nI 97 from rfl, show (122 : Int32) = nI 122 from rfl, s7_inb (by omega) (by omega) (by omega), bnd_some]
    by_cases hl : 97 ≤ tx s ∧ tx s ≤ 122
    · obtain ⟨K, e, r, t, q, f⟩ := s7_b103 (s := s) (tp - s) FU s M (by omega) (by show _ < 4096; omega) (Nat.le_refl _) h3 w20 (fun x h1 h2 => weF_l (tp - s) s (by omega) x h1 h2)
      rw [if_pos hl, if_neg (show ¬ (1 : Int32) = 0 by decide), e]
      simp only [if_pos hs, if_pos hl]
      exact ⟨K, rfl, ⟨q, r, t⟩, f3.tr f⟩
    · rw [if_neg hl, if_pos rfl, show (48 : Int32) = nI 48 from rfl, show (57 : Int32) = nI 57 from rfl, s7_inb (by omega) (by omega) (by omega), bnd_some]
      simp only [if_pos hs, if_neg hl]
      by_cases hd : 48 ≤ tx s ∧ tx s ≤ 57
      · obtain ⟨K, e, r, t, q, f⟩ := s7_num (tx := tx) (s := s) (tp - s) FU s 0 0 M (by omega) (by show _ < 4096; omega) (Nat.le_refl _) h3 (fun _ => ⟨w22, rfl, by rw [Nat.sub_self]; decide⟩) (fun hh => by omega)
        rw [Nat.sub_self] at e
        have e' : f_X7_next_b230 FU 0 M = some ((), K) := e
        rw [if_pos hd, if_neg (show ¬ (1 : Int32) = 0 by decide), e']
        simp only [if_pos hd]
        exact ⟨K, rfl, ⟨q.trans w20, r, t⟩, f3.tr f⟩
      · rw [if_neg hd, if_pos rfl]
        simp only [if_neg hd]
        have mk : ∀ x : Int32, RdM tx tp (wr (wr M 56 21 x) 56 19 (nI (s + 1))) (s + 1) ∧ wr (wr M 56 21 x) 56 19 (nI (s + 1)) 56 21 = x ∧ wr (wr M 56 21 x) 56 19 (nI (s + 1)) 56 20 = nI s ∧ FrX J (wr (wr M 56 21 x) 56 19 (nI (s + 1))) := fun x => ⟨RdM_at (RdM_w h3 (by omega)) (by omega), by rw [wr_j _ _ _ (by omega), wr_s], by rw [wr_j _ _ _ (by omega), wr_j _ _ _ (by omega)]; exact w20, f3.tr ((FrX.w (by omega)).tr (FrX.w (by omega)))⟩
        have h90 : ∀ x : Int32, f_X7_next_b390 x M = some ((), wr (wr M 56 21 x) 56 19 (nI (s + 1))) := by
          intro x
          rw [f_X7_next_b390, lt1_eq, wr_j _ _ _ (by omega), h3.2.1, nI_1, lt1_eq]
        have h74 : f_X7_next_b374 (nI (tx s)) M = some ((), wr (wr M 56 21 (nI (tx s))) 56 19 (nI (s + 1))) := by
          rw [f_X7_next_b374, f_X7_next_b379, if_neg (by decide), h90]
        have h79 : f_X7_next_b379 (nI (tx s)) 0 M = some ((), wr (wr M 56 21 (-1)) 56 19 (nI (s + 1))) := by
          rw [f_X7_next_b379, if_pos rfl, h90]
        rw [h74, h79]
        by_cases hg : tx s = 40 ∨ tx s = 41 ∨ tx s = 42 ∨ tx s = 43 ∨ tx s = 45 ∨ tx s = 59 ∨ tx s = 60 ∨ tx s = 61
        · obtain ⟨a1, a2, a3, a4⟩ := mk (nI (tx s))
          refine ⟨wr (wr M 56 21 (nI (tx s))) 56 19 (nI (s + 1)), ?_, ⟨a3, a1, Or.inr (Or.inr (Or.inr (Or.inr ⟨tx s, hg, rfl, a2⟩)))⟩, a4⟩
          rcases hg with q | q | q | q | q | q | q | q <;> rw [q] <;> rfl
        · obtain ⟨a1, a2, a3, a4⟩ := mk (-1)
          have ne : ∀ k : Nat, k < 1000 → tx s ≠ k → ¬ nI (tx s) = nI k := fun k hk hne hh => hne ((nI_eq' (by omega) (by omega)).mp hh)
          refine ⟨wr (wr M 56 21 (-1)) 56 19 (nI (s + 1)), ?_, ⟨a3, a1, Or.inr (Or.inl ⟨?_, a2⟩)⟩, a4⟩
          · rw [if_neg (show ¬ nI (tx s) = (40 : Int32) from ne 40 (by omega) (by omega)), if_neg (show ¬ nI (tx s) = (41 : Int32) from ne 41 (by omega) (by omega)), if_neg (show ¬ nI (tx s) = (59 : Int32) from ne 59 (by omega) (by omega)), if_neg (show ¬ nI (tx s) = (43 : Int32) from ne 43 (by omega) (by omega)), if_neg (show ¬ nI (tx s) = (45 : Int32) from ne 45 (by omega) (by omega)), if_neg (show ¬ nI (tx s) = (42 : Int32) from ne 42 (by omega) (by omega)), if_neg (show ¬ nI (tx s) = (60 : Int32) from ne 60 (by omega) (by omega)), if_neg (show ¬ nI (tx s) = (61 : Int32) from ne 61 (by omega) (by omega))]
          · rw [sgC, if_neg (by omega), if_neg (by omega), if_neg (by omega), if_neg (by omega), if_neg (by omega), if_neg (by omega), if_neg (by omega), if_neg (by omega)]
  · have he : s = tp := by omega
    rw [if_pos (by rw [he])]
    simp only [if_neg hs]
    exact ⟨M, rfl, ⟨w20, h3, Or.inl ⟨rfl, w21⟩⟩, f3⟩
theorem s7_next {J : Mem} {a : Nat} (h : RdM tx tp J a) : ∃ K, f_X7_next J = some ((), K) ∧ TkM tx tp K (LXs tx tp a) ∧ FrX J K := by
  have key : ∀ (k n a : Nat) (J : Mem), a + k = tp → k < n → RdM tx tp J a → ∃ K, f_X7_next_b0 n J = some ((), K) ∧ TkM tx tp K (skF tx tp k a) ∧ FrX J K := by
    intro k
    induction k with
    | zero =>
      intro n a J ha hn h
      obtain ⟨n, rfl⟩ : ∃ m, n = m + 1 := ⟨n - 1, by omega⟩
      have ht := h.2.2.2.1
      rw [f_X7_next_b0, h.1, h.2.1, if_pos ((nI_le' (by omega) (by omega)).mpr (by omega)), skF]
      exact s7_next5 h
    | succ k ih =>
      intro n a J ha hn h
      obtain ⟨n, rfl⟩ : ∃ m, n = m + 1 := ⟨n - 1, by omega⟩
      have ht := h.2.2.2.1
      obtain ⟨hb, hb2⟩ := h.2.2.2.2.1 a (by omega)
      have go : ∃ K, f_X7_next_b39 (f_X7_next_b0 n) J = some ((), K) ∧ TkM tx tp K (skF tx tp k (a + 1)) ∧ FrX J K := by
        obtain ⟨K, e, r, f⟩ := ih n (a + 1) (wr J 56 19 (nI (a + 1))) (by omega) (by omega) (RdM_at h (by omega))
        rw [f_X7_next_b39, lt1_eq, h.2.1, nI_1]
        exact ⟨K, e, r, (FrX.w (by omega)).tr f⟩
      have e32 : nI (tx a) = (32 : Int32) ↔ tx a = 32 := nI_eq' (b := 32) (by omega) (by omega)
      have e10 : nI (tx a) = (10 : Int32) ↔ tx a = 10 := nI_eq' (b := 10) (by omega) (by omega)
      rw [f_X7_next_b0, h.1, h.2.1, if_neg (by rw [nI_le' (by omega) (by omega)]; omega), if_pos (inb_t (by omega) (by omega)), cl_nI (by omega), hb, skF]
      by_cases h1 : tx a = 32
      · rw [if_pos (e32.mpr h1), if_pos (show a < tp ∧ (tx a = 32 ∨ tx a = 10) from ⟨by omega, Or.inl h1⟩)]
        exact go
      · rw [if_neg (fun hh => h1 (e32.mp hh)), if_pos (inb_t (by omega) (by omega))]
        by_cases h2 : tx a = 10
        · rw [if_pos (e10.mpr h2), if_pos (show a < tp ∧ (tx a = 32 ∨ tx a = 10) from ⟨by omega, Or.inr h2⟩)]
          exact go
        · rw [if_neg (fun hh => h2 (e10.mp hh)), if_neg (by omega)]
          exact s7_next5 h
  have ht := h.2.2.2.1
  have ha := h.2.2.1
  exact key (tp - a) FU a J (by omega) (by show _ < 4096; omega) h
end NextM2
