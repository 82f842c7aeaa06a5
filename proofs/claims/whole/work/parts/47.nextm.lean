/-! PURE 38: the model's next -/
section NextM
variable {tx : Nat → Nat} {tp : Nat}
/-- the class's code t is the model's x, y -/
def tkR (t x y : Int32) : Prop := (t = -1 ∧ x = 0) ∨ (t = -2 ∧ x = -1) ∨ (∃ w : Nat, w < 10000 ∧ t = nI w ∧ x = 1 ∧ y = nI w) ∨ (∃ j : Nat, j < 12 ∧ t = 0 - nI (2 + pm j) ∧ x = (if j < 3 then 3 else if j < 9 then 2 else nI (j - 5)) ∧ y = nI (if 3 ≤ j then j - 3 else j)) ∨ (∃ b : Nat, (b = 40 ∨ b = 41 ∨ b = 42 ∨ b = 43 ∨ b = 45 ∨ b = 59 ∨ b = 60 ∨ b = 61) ∧ t = sgC b ∧ x = nI b)
def FrX (I J : Mem) : Prop := (∀ c, c ≠ 56 → J c = I c) ∧ ∀ j, (j < 19 ∨ 22 < j) → J 56 j = I 56 j
theorem FrX.rf {I : Mem} : FrX I I := ⟨fun _ _ => rfl, fun _ _ => rfl⟩
theorem FrX.tr {I J K : Mem} (h : FrX I J) (h2 : FrX J K) : FrX I K := ⟨fun c hc => (h2.1 c hc).trans (h.1 c hc), fun j hj => (h2.2 j hj).trans (h.2 j hj)⟩
theorem FrX.w {I : Mem} {j : Nat} {v : Int32} (hj : 19 ≤ j ∧ j ≤ 22) : FrX I (wr I 56 j v) := ⟨fun c hc => wr_k _ _ _ hc, fun i hi => wr_j _ _ _ (by omega)⟩
theorem RdM_at {J : Mem} {a b : Nat} (h : RdM tx tp J a) (hb : b ≤ tp) : RdM tx tp (wr J 56 19 (nI b)) b := ⟨by rw [wr_j _ _ _ (by omega)]; exact h.1, wr_s _ _ _ _, hb, h.2.2.2.1, fun k hk => by rw [wr_k _ _ _ (by omega)]; exact h.2.2.2.2.1 k hk, WT_of (wr_k _ _ _ (by omega)) h.2.2.2.2.2⟩
theorem RdM_w {J : Mem} {a j : Nat} {v : Int32} (h : RdM tx tp J a) (hj : 19 < j) : RdM tx tp (wr J 56 j v) a := ⟨by rw [wr_j _ _ _ (by omega)]; exact h.1, by rw [wr_j _ _ _ (by omega)]; exact h.2.1, h.2.2.1, h.2.2.2.1, fun k hk => by rw [wr_k _ _ _ (by omega)]; exact h.2.2.2.2.1 k hk, WT_of (wr_k _ _ _ (by omega)) h.2.2.2.2.2⟩
theorem s7_inb {b lo hi : Nat} (hb : b < 1000) (h1 : lo < 1000) (h2 : hi < 1000) (I : Mem) : f_X7_in (nI b) (nI lo) (nI hi) I = some (if lo ≤ b ∧ b ≤ hi then 1 else 0, I) := by
  rw [s7_in, wth]
  by_cases q1 : lo ≤ b
  · rw [if_pos ((nI_le' (by omega) (by omega)).mpr q1)]
    by_cases q2 : b ≤ hi
    · rw [if_pos ((nI_le' (by omega) (by omega)).mpr q2), if_pos ⟨q1, q2⟩]
    · rw [if_neg (by rw [nI_le' (by omega) (by omega)]; exact q2), if_neg (fun h => q2 h.2)]
  · rw [if_neg (by rw [nI_le' (by omega) (by omega)]; exact q1), if_neg (fun h => q1 h.1)]
theorem s7_num {s : Nat} : ∀ (k n a w : Nat) (v : Int32) (M : Mem), a + k = tp → k < n → s ≤ a → RdM tx tp M a → (a - s ≤ 4 → M 56 22 = nI w ∧ v = nI w ∧ w < 10 ^ (a - s)) → (4 < a - s → v = -2) → ∃ K, f_X7_next_b230 n (nI (a - s)) M = some ((), K) ∧ RdM tx tp K (nuF tx tp s k a v).1 ∧ tkR (nuF tx tp s k a v).2 (K 56 21) (K 56 22) ∧ K 56 20 = M 56 20 ∧ FrX M K := by
  have fin : ∀ (a w : Nat) (v : Int32) (M : Mem), a ≤ tp → tp ≤ 160 → RdM tx tp M a → (a - s ≤ 4 → M 56 22 = nI w ∧ v = nI w ∧ w < 10 ^ (a - s)) → (4 < a - s → v = -2) → ∃ K, f_X7_next_b309 (nI (a - s)) M = some ((), K) ∧ RdM tx tp K a ∧ tkR v (K 56 21) (K 56 22) ∧ K 56 20 = M 56 20 ∧ FrX M K := by
    intro a w v M ha ht h h1 h2
    rw [f_X7_next_b309, f_X7_next_b320, f_X7_next_b320, lt1_eq, lt1_eq]
    by_cases h4 : a - s ≤ 4
    · obtain ⟨e1, e2, e3⟩ := h1 h4
      have hp : 10 ^ (a - s) ≤ 10 ^ 4 := Nat.pow_le_pow_right (by omega) h4
      rw [if_pos (show nI (a - s) ≤ (4 : Int32) from (nI_le' (b := 4) (by omega) (by omega)).mpr h4)]
      exact ⟨_, rfl, RdM_w h (by omega), Or.inr (Or.inr (Or.inl ⟨w, by omega, e2, wr_s _ _ _ _, by rw [wr_j _ _ _ (by omega)]; exact e1⟩)), wr_j _ _ _ (by omega), FrX.w (by omega)⟩
    · rw [if_neg (show ¬ nI (a - s) ≤ (4 : Int32) from fun hh => h4 ((nI_le' (b := 4) (by omega) (by omega)).mp hh))]
      exact ⟨_, rfl, RdM_w h (by omega), Or.inr (Or.inl ⟨h2 (by omega), wr_s _ _ _ _⟩), wr_j _ _ _ (by omega), FrX.w (by omega)⟩
  intro k
  induction k with
  | zero =>
    intro n a w v M ha hn hs h h1 h2
    obtain ⟨n, rfl⟩ : ∃ m, n = m + 1 := ⟨n - 1, by omega⟩
    have ht := h.2.2.2.1
    rw [f_X7_next_b230, h.1, h.2.1, if_pos ((nI_le' (by omega) (by omega)).mpr (by omega)), nuF]
    exact fin a w v M (by omega) ht h h1 h2
  | succ k ih =>
    intro n a w v M ha hn hs h h1 h2
    obtain ⟨n, rfl⟩ : ∃ m, n = m + 1 := ⟨n - 1, by omega⟩
    have ht := h.2.2.2.1
    obtain ⟨hb, hb2⟩ := h.2.2.2.2.1 a (by omega)
    rw [f_X7_next_b230, h.1, h.2.1, if_neg (by rw [nI_le' (by omega) (by omega)]; omega), if_pos (inb_t (by omega) (by omega)), cl_nI (by omega), hb, show (48 : Int32) = nI 48 from rfl, show (57 : Int32) = nI 57 from rfl, s7_inb (by omega) (by omega) (by omega), bnd_some, nuF]
    by_cases hl : 48 ≤ tx a ∧ tx a ≤ 57
    · rw [if_pos hl, if_neg (show ¬ (1 : Int32) = 0 by decide), h.2.1, if_pos (inb_t (by omega) (by omega)), cl_nI (by omega), hb, if_pos (show a < tp ∧ 48 ≤ tx a ∧ tx a ≤ 57 from ⟨by omega, hl⟩), f_X7_next_b290, f_X7_next_b290, lt1_eq, lt1_eq, lt1_eq, lt1_eq]
      have go : ∀ (s0 v' : Int32) (w' : Nat), (a + 1 - s ≤ 4 → s0 = nI w' ∧ v' = nI w' ∧ w' < 10 ^ (a + 1 - s)) → (4 < a + 1 - s → v' = -2) → ∃ K, f_X7_next_b230 n (nI (a - s) + 1) (wr (wr M 56 22 s0) 56 19 (wr M 56 22 s0 56 19 + 1)) = some ((), K) ∧ RdM tx tp K (nuF tx tp s k (a + 1) v').1 ∧ tkR (nuF tx tp s k (a + 1) v').2 (K 56 21) (K 56 22) ∧ K 56 20 = M 56 20 ∧ FrX M K := by
        intro s0 v' w' g1 g2
        have e19 : wr M 56 22 s0 56 19 = nI a := by rw [wr_j _ _ _ (by omega)]; exact h.2.1
        rw [e19, nI_1, nI_1, show a - s + 1 = a + 1 - s by omega]
        obtain ⟨K, e, r, t, q, f⟩ := ih n (a + 1) w' v' (wr (wr M 56 22 s0) 56 19 (nI (a + 1))) (by omega) (by omega) (by omega) (RdM_at (RdM_w h (by omega)) (by omega)) (fun hh => ⟨by rw [wr_j _ _ _ (by omega), wr_s]; exact (g1 hh).1, (g1 hh).2⟩) g2
        exact ⟨K, e, r, t, q.trans (by rw [wr_j _ _ _ (by omega), wr_j _ _ _ (by omega)]), (FrX.w (by omega)).tr ((FrX.w (by omega)).tr f)⟩
      by_cases h4 : 4 ≤ a - s
      · rw [if_pos (show (4 : Int32) ≤ nI (a - s) from (nI_le' (a := 4) (by omega) (by omega)).mpr h4), if_pos h4]
        exact go 0 (-2) 0 (fun hh => by omega) (fun _ => rfl)
      · obtain ⟨e1, e2, e3⟩ := h1 (by omega)
        have hp : 10 ^ (a - s) ≤ 10 ^ 3 := Nat.pow_le_pow_right (by omega) (by omega)
        have ev : nI (10 * w + tx a) - nI 48 = nI (10 * w + tx a - 48) := nI_sb (by omega) (by omega)
        have k1 : (10 : Int32) * nI w = nI (10 * w) := by rw [show (10 : Int32) = nI 10 from rfl, pk_mul]
        have k2 : nI w * (10 : Int32) = nI (10 * w) := by rw [Int32.mul_comm, k1]
        rw [if_neg (show ¬ (4 : Int32) ≤ nI (a - s) from fun hh => h4 ((nI_le' (a := 4) (by omega) (by omega)).mp hh)), if_neg h4, e1, e2, k1, k2, nI_add, show (48 : Int32) = nI 48 from rfl, ev]
        exact go _ _ (10 * w + tx a - 48) (fun _ => ⟨rfl, rfl, by rw [show a + 1 - s = (a - s) + 1 by omega, Nat.pow_succ]; omega⟩) (fun hh => by omega)
    · rw [if_neg hl, if_pos rfl, if_neg (fun hh => hl hh.2)]
      exact fin a w v M (by omega) ht h h1 h2
end NextM
