/-! PURE 36: the model's words and numbers -/
section LexM
variable {tx : Nat → Nat} {tp : Nat}
/-- the model's word j stands from s to e -/
def mwS (tx : Nat → Nat) (s e j : Nat) : Bool := decide (e - s ≤ 8) && (List.range' 0 8).all (fun x => decide (nI (wtab.getD (8 * j + x) 0) = if e ≤ s + x then 32 else nI (tx (s + x))))
def mwF (tx : Nat → Nat) (s e : Nat) : Nat → Nat → Nat
  | 0, _ => 12
  | k + 1, j => if mwS tx s e j = true then j else mwF tx s e k (j + 1)
/-- the model's reader stands at a -/
def RdM (tx : Nat → Nat) (tp : Nat) (J : Mem) (a : Nat) : Prop := J 56 7 = nI tp ∧ J 56 19 = nI a ∧ a ≤ tp ∧ tp ≤ 160 ∧ (∀ k, k < tp → J 61 k = nI (tx k) ∧ tx k < 256) ∧ WT J
theorem s7_wordL {J : Mem} {s e a j : Nat} {K2 : Int32 → Mem → Option (Int32 × Mem)} (h : RdM tx tp J a) (hs : s ≤ e) (he : e ≤ tp) (hj : j < 12) : ∀ (k n x : Nat) (b : Bool), x + k = 8 → k < n → f_X7_wordFrom_b26 (nI s) (nI e) K2 n (nI x) (if b = true then 1 else 0) (nI j) J = if (b && (List.range' x k).all (fun x => decide (nI (wtab.getD (8 * j + x) 0) = if e ≤ s + x then 32 else nI (tx (s + x))))) = true then some (nI j, J) else K2 (nI (j + 1)) J := by
  obtain ⟨r1, r2, r3, r4, r5, r6⟩ := h
  intro k
  induction k with
  | zero =>
    intro n x b hx hn
    obtain ⟨n, rfl⟩ : ∃ m, n = m + 1 := ⟨n - 1, by omega⟩
    rw [f_X7_wordFrom_b26, show (8 : Int32) = nI 8 from rfl, if_pos ((nI_le' (by omega) (by omega)).mpr (by omega)), f_X7_wordFrom_b88, nI_1]
    cases b <;> rfl
  | succ k ih =>
    intro n x b hx hn
    obtain ⟨n, rfl⟩ : ∃ m, n = m + 1 := ⟨n - 1, by omega⟩
    have e8 : (8 : Int32) * nI j + nI x = nI (8 * j + x) := by rw [show (8 : Int32) = nI 8 from rfl, pk_mul, nI_add]
    rw [f_X7_wordFrom_b26, if_neg (show ¬ (8 : Int32) ≤ nI x from fun hh => by have := (nI_le' (a := 8) (by omega) (by omega)).mp hh; omega)]
    cases b with
    | false =>
      rw [if_pos (by rfl), f_X7_wordFrom_b88, if_pos (by rfl), nI_1, Bool.false_and]
      rfl
    | true =>
      rw [if_neg (by decide), e8, if_pos (inb_t (by omega) (by omega)), nI_add, cl_nI (by omega), r6 _ (by omega), Bool.true_and, List.range'_succ, List.all_cons]
      have go : ∀ s0 : Int32, f_X7_wordFrom_b72 (nI s) (nI e) K2 (f_X7_wordFrom_b26 (nI s) (nI e) K2 n) (nI x) (nI j) s0 (nI (wtab.getD (8 * j + x) 0)) J = if (decide (nI (wtab.getD (8 * j + x) 0) = s0) && (List.range' (x + 1) k).all (fun x => decide (nI (wtab.getD (8 * j + x) 0) = if e ≤ s + x then 32 else nI (tx (s + x))))) = true then some (nI j, J) else K2 (nI (j + 1)) J := by
        intro s0
        rw [f_X7_wordFrom_b72]
        by_cases q : nI (wtab.getD (8 * j + x) 0) = s0
        · rw [if_pos q, f_X7_wordFrom_b80, nI_1, decide_eq_true q]
          exact ih n (x + 1) true (by omega) (by omega)
        · rw [if_neg q, f_X7_wordFrom_b80, nI_1, decide_eq_false q]
          exact ih n (x + 1) false (by omega) (by omega)
      by_cases hl : e ≤ s + x
      · rw [if_pos ((nI_le' (by omega) (by omega)).mpr hl), if_pos hl]
        exact go 32
      · rw [if_neg (by rw [nI_le' (by omega) (by omega)]; exact hl), if_neg hl, if_pos (inb_t (by omega) (by omega)), cl_nI (by omega), (r5 _ (by omega)).1]
        exact go _
theorem s7_word {J : Mem} {s e a : Nat} (h : RdM tx tp J a) (hs : s ≤ e) (he : e ≤ tp) : f_X7_wordFrom (nI s) (nI e) J = some (nI (mwF tx s e 12 0), J) := by
  have ht := h.2.2.2.1
  have key : ∀ (k n j : Nat), j + k = 12 → k < n → f_X7_wordFrom_b2 (nI s) (nI e) n (nI j) J = some (nI (mwF tx s e k j), J) := by
    intro k
    induction k with
    | zero =>
      intro n j hj hn
      obtain ⟨n, rfl⟩ : ∃ m, n = m + 1 := ⟨n - 1, by omega⟩
      rw [f_X7_wordFrom_b2, show (12 : Int32) = nI 12 from rfl, if_pos ((nI_le' (by omega) (by omega)).mpr (by omega))]
      rfl
    | succ k ih =>
      intro n j hj hn
      obtain ⟨n, rfl⟩ : ∃ m, n = m + 1 := ⟨n - 1, by omega⟩
      rw [f_X7_wordFrom_b2, if_neg (show ¬ (12 : Int32) ≤ nI j from fun hh => by have := (nI_le' (a := 12) (by omega) (by omega)).mp hh; omega), nI_sb hs (by omega), f_X7_wordFrom_b21, f_X7_wordFrom_b21, mwF, mwS]
      have hL : ∀ b : Bool, _ := fun b => s7_wordL (K2 := f_X7_wordFrom_b2 (nI s) (nI e) n) h hs he (j := j) (by omega) 8 FU 0 b (by omega) (by show _ < 4096; omega)
      by_cases h8 : e - s ≤ 8
      · rw [if_neg (show ¬ (8 : Int32) < nI (e - s) from fun hh => by have := (nI_lt' (a := 8) (by omega) (by omega)).mp hh; omega), decide_eq_true h8]
        have h1 := hL true
        rw [if_pos rfl] at h1
        refine h1.trans ?_
        split
        · rfl
        · exact ih n (j + 1) (by omega) (by omega)
      · rw [if_pos (show (8 : Int32) < nI (e - s) from (nI_lt' (a := 8) (by omega) (by omega)).mpr (by omega)), decide_eq_false h8]
        have h1 := hL false
        rw [if_neg (by decide)] at h1
        refine h1.trans ?_
        rw [Bool.false_and, if_neg (by decide), if_neg (by decide)]
        exact ih n (j + 1) (by omega) (by omega)
  exact key 12 FU 0 (by omega) (by show _ < 4096; omega)
end LexM
