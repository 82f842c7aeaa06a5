/-! PURE 9: becoming, keeping, laying back; many rounds; sums and the best -/
theorem cpM_o {I : Mem} {k0 k1 c : Nat} {n : Int32} (h : c ≠ k1) : cpM I k0 k1 0 0 n c = I c := by simp [cpM, h]
theorem cpM_i {I : Mem} {k0 k1 j : Nat} {n : Nat} (hn : n < 1000) (h : j < n) : cpM I k0 k1 0 0 (nI n) k1 j = I k0 j := by
  have e0 : (0 : Int32).toNatClampNeg = 0 := rfl
  rw [cpM, if_pos rfl, e0, cl_nI (by omega), va_cpy, if_pos ⟨Nat.zero_le _, by omega⟩]
  congr 1
  omega
theorem s2_become {ρ r : Nat} {I : Mem} (hρ : ρ < 3) (hr : r < 3) (hne : ρ ≠ r) : ∃ J, f_X2_become ρ r I = some ((), J) ∧ (∀ f, 1 ≤ f → f ≤ 6 → ∀ p, p < 6 → J (2 + 8 * ρ + f) p = I (2 + 8 * r + f) p) ∧ (∀ j, j < 36 → J (2 + 8 * ρ + 7) j = I (2 + 8 * r + 7) j) ∧ (J (2 + 8 * ρ) 8 = I (2 + 8 * r) 8 ∧ J (2 + 8 * ρ) 9 = I (2 + 8 * r) 9 ∧ J (2 + 8 * ρ) 10 = I (2 + 8 * r) 10) ∧ ∀ c, (c < 2 + 8 * ρ ∨ 2 + 8 * ρ + 7 < c) → J c = I c := by
  have k6 : cpok 0 0 6 6 6 = true := by decide
  have k36 : cpok 0 0 36 36 36 = true := by decide
  rw [f_X2_become, if_pos k6, lt1_eq, if_pos k6, lt1_eq, if_pos k6, lt1_eq, if_pos k6, lt1_eq, if_pos k6, lt1_eq, if_pos k6, lt1_eq, if_pos k36, lt1_eq, lt1_eq, lt1_eq, lt1_eq, show (6 : Int32) = nI 6 from rfl, show (36 : Int32) = nI 36 from rfl]
  refine ⟨_, rfl, ?_, ?_, ⟨?_, ?_, ?_⟩, ?_⟩
  · intro f h1 h2 p hp
    rcases (show f = 1 ∨ f = 2 ∨ f = 3 ∨ f = 4 ∨ f = 5 ∨ f = 6 by omega) with rfl | rfl | rfl | rfl | rfl | rfl <;> simp (disch := omega) only [wr_k, cpM_o, cpM_i]
  · intro j hj
    simp (disch := omega) only [wr_k, cpM_o, cpM_i]
  · simp (disch := omega) only [wr_k, wr_j, wr_s, cpM_o]
  · simp (disch := omega) only [wr_k, wr_j, wr_s, cpM_o]
  · simp (disch := omega) only [wr_k, wr_j, wr_s, cpM_o]
  · intro c hc
    simp (disch := omega) only [wr_k, cpM_o]
theorem CR_become {ρ r : Nat} {I J : Mem} {S : RS} (hN : S.2.1 ≤ 6) (h1 : ∀ f, 1 ≤ f → f ≤ 6 → ∀ p, p < 6 → J (2 + 8 * ρ + f) p = I (2 + 8 * r + f) p) (h2 : ∀ j, j < 36 → J (2 + 8 * ρ + 7) j = I (2 + 8 * r + 7) j) (h3 : J (2 + 8 * ρ) 8 = I (2 + 8 * r) 8 ∧ J (2 + 8 * ρ) 9 = I (2 + 8 * r) 9 ∧ J (2 + 8 * ρ) 10 = I (2 + 8 * r) 10) (hC : CR I r S) (hZ : ZC I r S.2.1) : CR J ρ S ∧ ZC J ρ S.2.1 := by
  obtain ⟨c1, c2, c3, c4, c5⟩ := hC
  refine ⟨⟨by rw [h3.1, c1], by rw [h3.2.1, c2], by rw [h3.2.2, c3], fun p hp => ?_, fun p q hp hq => by rw [h2 _ (by omega)]; exact c5 p q hp hq⟩, fun p a b => by rw [h1 6 (by omega) (by omega) p b]; exact hZ.1 p a b, fun p q a b c => by rw [h2 _ (by omega)]; exact hZ.2 p q a b c⟩
  rw [h1 1 (by omega) (by omega) p (by omega), h1 2 (by omega) (by omega) p (by omega), h1 3 (by omega) (by omega) p (by omega), h1 4 (by omega) (by omega) p (by omega), h1 5 (by omega) (by omega) p (by omega), h1 6 (by omega) (by omega) p (by omega)]
  exact c4 p hp
theorem s6_imagine {I : Mem} {S : RS} (hN : S.2.1 ≤ 6) (hC : CR I 0 S) (hZ : ZC I 0 S.2.1) : ∃ J, f_X6_imagine I = some ((), J) ∧ CR J 1 S ∧ ZC J 1 S.2.1 ∧ (∀ c, (c < 10 ∨ 17 < c) → J c = I c) := by
  obtain ⟨J, e, h1, h2, h3, h4⟩ := s2_become (ρ := 1) (r := 0) (I := I) (by omega) (by omega) (by omega)
  obtain ⟨a, b⟩ := CR_become hN h1 h2 h3 hC hZ
  exact ⟨J, by rw [f_X6_imagine, e, bnd_some], a, b, fun c hc => h4 c (by omega)⟩
/-- what keeps() lays by -/
def Kp (I J : Mem) : Prop := (∀ j, j < 24 → J 74 j = I 59 j) ∧ (∀ j, j < 36 → J 74 (24 + j) = I 60 j) ∧ J 74 60 = I 56 5
theorem s7_keeps (I : Mem) : ∃ J, f_X7_keeps I = some ((), J) ∧ Kp I J ∧ ∀ c, c ≠ 74 → J c = I c := by
  have e24 : (24 : Int32) = nI 24 := rfl
  have e36 : (36 : Int32) = nI 36 := rfl
  have key2 : ∀ (k n p : Nat) (I : Mem), p + k = 36 → k < n → ∃ J, f_X7_keeps_b28 n (nI p) I = some ((), J) ∧ (∀ c, c ≠ 74 → J c = I c) ∧ (∀ j, j < 24 + p → J 74 j = I 74 j) ∧ (∀ j, p ≤ j → j < 36 → J 74 (24 + j) = I 60 j) ∧ J 74 60 = I 56 5 := by
    intro k
    induction k with
    | zero =>
      intro n p I hp hn
      obtain ⟨n, rfl⟩ : ∃ m, n = m + 1 := ⟨n - 1, by omega⟩
      rw [f_X7_keeps_b28, e36, if_pos ((nI_le' (by omega) (by omega)).mpr (by omega)), if_pos (by decide), lt1_eq, show ((60 : Int32)).toNatClampNeg = 60 from rfl]
      exact ⟨_, rfl, fun c hc => wr_k _ _ _ hc, fun j hj => wr_j _ _ _ (by omega), fun j h1 h2 => by omega, wr_s _ _ _ _⟩
    | succ k ih =>
      intro n p I hp hn
      obtain ⟨n, rfl⟩ : ∃ m, n = m + 1 := ⟨n - 1, by omega⟩
      rw [f_X7_keeps_b28, e36, if_neg (by rw [nI_le' (by omega) (by omega)]; omega), if_pos (inb_t (by omega) (by omega)), e24, nI_add, if_pos (inb_t (by omega) (by omega)), lt1_eq, cl_nI (by omega), cl_nI (by omega), nI_1]
      obtain ⟨J, e, h1, h2, h3, h4⟩ := ih n (p + 1) (wr I 74 (24 + p) (I 60 p)) (by omega) (by omega)
      refine ⟨J, e, fun c hc => (h1 c hc).trans (wr_k _ _ _ hc), fun j hj => (h2 j (by omega)).trans (wr_j _ _ _ (by omega)), fun j a b => ?_, h4.trans (by rw [wr_k _ _ _ (by omega)])⟩
      by_cases hj : j = p
      · subst hj
        rw [h2 _ (by omega), wr_s]
      · rw [h3 j (by omega) b, wr_k _ _ _ (by omega)]
  have key1 : ∀ (k n p : Nat) (I : Mem), p + k = 24 → k < n → ∃ J, f_X7_keeps_b2 n (nI p) I = some ((), J) ∧ (∀ c, c ≠ 74 → J c = I c) ∧ (∀ j, j < p → J 74 j = I 74 j) ∧ (∀ j, p ≤ j → j < 24 → J 74 j = I 59 j) ∧ (∀ j, j < 36 → J 74 (24 + j) = I 60 j) ∧ J 74 60 = I 56 5 := by
    intro k
    induction k with
    | zero =>
      intro n p I hp hn
      obtain ⟨n, rfl⟩ : ∃ m, n = m + 1 := ⟨n - 1, by omega⟩
      rw [f_X7_keeps_b2, e24, if_pos ((nI_le' (by omega) (by omega)).mpr (by omega))]
      obtain ⟨J, e, h1, h2, h3, h4⟩ := key2 36 FU 0 I (by omega) (by show _ < 4096; omega)
      exact ⟨J, e, h1, fun j hj => h2 j (by omega), fun j a b => by omega, fun j hj => h3 j (by omega) hj, h4⟩
    | succ k ih =>
      intro n p I hp hn
      obtain ⟨n, rfl⟩ : ∃ m, n = m + 1 := ⟨n - 1, by omega⟩
      rw [f_X7_keeps_b2, e24, if_neg (by rw [nI_le' (by omega) (by omega)]; omega), if_pos (inb_t (by omega) (by omega)), if_pos (inb_t (by omega) (by omega)), lt1_eq, cl_nI (by omega), nI_1]
      obtain ⟨J, e, h1, h2, h3, h4, h5⟩ := ih n (p + 1) (wr I 74 p (I 59 p)) (by omega) (by omega)
      refine ⟨J, e, fun c hc => (h1 c hc).trans (wr_k _ _ _ hc), fun j hj => (h2 j (by omega)).trans (wr_j _ _ _ (by omega)), fun j a b => ?_, fun j hj => (h4 j hj).trans (by rw [wr_k _ _ _ (by omega)]), h5.trans (by rw [wr_k _ _ _ (by omega)])⟩
      by_cases hj : j = p
      · subst hj
        rw [h2 _ (by omega), wr_s]
      · rw [h3 j (by omega) b, wr_k _ _ _ (by omega)]
  obtain ⟨J, e, h1, h2, h3, h4, h5⟩ := key1 24 FU 0 I (by omega) (by show _ < 4096; omega)
  exact ⟨J, e, ⟨fun j hj => h3 j (by omega) hj, h4, h5⟩, h1⟩
theorem s7_lays (I : Mem) : ∃ J, f_X7_lays I = some ((), J) ∧ (∀ c, c ≠ 56 → c ≠ 59 → c ≠ 60 → J c = I c) ∧ (∀ j, j ≠ 5 → J 56 j = I 56 j) ∧ J 56 5 = I 74 60 ∧ (∀ j, j < 24 → J 59 j = I 74 j) ∧ ∀ j, j < 36 → J 60 j = I 74 (24 + j) := by
  have e24 : (24 : Int32) = nI 24 := rfl
  have e36 : (36 : Int32) = nI 36 := rfl
  have key2 : ∀ (k n p : Nat) (I : Mem), p + k = 36 → k < n → ∃ J, f_X7_lays_b28 n (nI p) I = some ((), J) ∧ (∀ c, c ≠ 56 → c ≠ 60 → J c = I c) ∧ (∀ j, j ≠ 5 → J 56 j = I 56 j) ∧ J 56 5 = I 74 60 ∧ (∀ j, j < p → J 60 j = I 60 j) ∧ ∀ j, p ≤ j → j < 36 → J 60 j = I 74 (24 + j) := by
    intro k
    induction k with
    | zero =>
      intro n p I hp hn
      obtain ⟨n, rfl⟩ : ∃ m, n = m + 1 := ⟨n - 1, by omega⟩
      rw [f_X7_lays_b28, e36, if_pos ((nI_le' (by omega) (by omega)).mpr (by omega)), if_pos (by decide), lt1_eq, show ((60 : Int32)).toNatClampNeg = 60 from rfl]
      exact ⟨_, rfl, fun c hc _ => wr_k _ _ _ hc, fun j hj => wr_j _ _ _ hj, wr_s _ _ _ _, fun j hj => by rw [wr_k _ _ _ (by omega)], fun j h1 h2 => by omega⟩
    | succ k ih =>
      intro n p I hp hn
      obtain ⟨n, rfl⟩ : ∃ m, n = m + 1 := ⟨n - 1, by omega⟩
      rw [f_X7_lays_b28, e36, if_neg (by rw [nI_le' (by omega) (by omega)]; omega), e24, nI_add, if_pos (inb_t (by omega) (by omega)), if_pos (inb_t (by omega) (by omega)), lt1_eq, cl_nI (by omega), cl_nI (by omega), nI_1]
      obtain ⟨J, e, h1, h2, h3, h4, h5⟩ := ih n (p + 1) (wr I 60 p (I 74 (24 + p))) (by omega) (by omega)
      refine ⟨J, e, fun c a b => (h1 c a b).trans (wr_k _ _ _ b), fun j hj => (h2 j hj).trans (by rw [wr_k _ _ _ (by omega)]), h3.trans (by rw [wr_k _ _ _ (by omega)]), fun j hj => (h4 j (by omega)).trans (wr_j _ _ _ (by omega)), fun j a b => ?_⟩
      by_cases hj : j = p
      · subst hj
        rw [h4 _ (by omega), wr_s]
      · rw [h5 j (by omega) b, wr_k _ _ _ (by omega)]
  have key1 : ∀ (k n p : Nat) (I : Mem), p + k = 24 → k < n → ∃ J, f_X7_lays_b2 n (nI p) I = some ((), J) ∧ (∀ c, c ≠ 56 → c ≠ 59 → c ≠ 60 → J c = I c) ∧ (∀ j, j ≠ 5 → J 56 j = I 56 j) ∧ J 56 5 = I 74 60 ∧ (∀ j, j < p → J 59 j = I 59 j) ∧ (∀ j, p ≤ j → j < 24 → J 59 j = I 74 j) ∧ ∀ j, j < 36 → J 60 j = I 74 (24 + j) := by
    intro k
    induction k with
    | zero =>
      intro n p I hp hn
      obtain ⟨n, rfl⟩ : ∃ m, n = m + 1 := ⟨n - 1, by omega⟩
      rw [f_X7_lays_b2, e24, if_pos ((nI_le' (by omega) (by omega)).mpr (by omega))]
      obtain ⟨J, e, h1, h2, h3, h4, h5⟩ := key2 36 FU 0 I (by omega) (by show _ < 4096; omega)
      exact ⟨J, e, fun c a _ b => h1 c a b, h2, h3, fun j hj => by rw [h1 59 (by omega) (by omega)], fun j a b => by omega, fun j hj => h5 j (by omega) hj⟩
    | succ k ih =>
      intro n p I hp hn
      obtain ⟨n, rfl⟩ : ∃ m, n = m + 1 := ⟨n - 1, by omega⟩
      rw [f_X7_lays_b2, e24, if_neg (by rw [nI_le' (by omega) (by omega)]; omega), if_pos (inb_t (by omega) (by omega)), if_pos (inb_t (by omega) (by omega)), lt1_eq, cl_nI (by omega), nI_1]
      obtain ⟨J, e, h1, h2, h3, h4, h5, h6⟩ := ih n (p + 1) (wr I 59 p (I 74 p)) (by omega) (by omega)
      refine ⟨J, e, fun c a b d => (h1 c a b d).trans (wr_k _ _ _ b), fun j hj => (h2 j hj).trans (by rw [wr_k _ _ _ (by omega)]), h3.trans (by rw [wr_k _ _ _ (by omega)]), fun j hj => (h4 j (by omega)).trans (wr_j _ _ _ (by omega)), fun j a b => ?_, fun j hj => (h6 j hj).trans (by rw [wr_k _ _ _ (by omega)])⟩
      by_cases hj : j = p
      · subst hj
        rw [h4 _ (by omega), wr_s]
      · rw [h5 j (by omega) b, wr_k _ _ _ (by omega)]
  obtain ⟨J, e, h1, h2, h3, h4, h5, h6⟩ := key1 24 FU 0 I (by omega) (by show _ < 4096; omega)
  exact ⟨J, e, h1, h2, h3, fun j hj => h5 j (by omega) hj, h6⟩
/-- a query leaves all but the model's rows, tallies, round, and scratch -/
def FrQ (I J : Mem) : Prop := (∀ c, c ≠ 56 → c ≠ 59 → c ≠ 60 → c ≠ 72 → c ≠ 73 → c ≠ 74 → J c = I c) ∧ ∀ j, j ≠ 5 → j ≠ 31 → J 56 j = I 56 j
theorem FrQ.rf {I : Mem} : FrQ I I := ⟨fun _ _ _ _ _ _ _ => rfl, fun _ _ _ => rfl⟩
theorem FrQ.tr {I J K : Mem} (h : FrQ I J) (h2 : FrQ J K) : FrQ I K := ⟨fun c a1 a2 a3 a4 a5 a6 => (h2.1 c a1 a2 a3 a4 a5 a6).trans (h.1 c a1 a2 a3 a4 a5 a6), fun j a b => (h2.2 j a b).trans (h.2 j a b)⟩
theorem FrM.Q {I J : Mem} (h : FrM I J) : FrQ I J := ⟨fun c a1 a2 a3 a4 a5 _ => h.1 c a1 a2 a3 a4 a5, fun j a _ => h.2 j a⟩
theorem FrM.K {I J : Mem} (h : FrM I J) : J 74 = I 74 := h.1 74 (by omega) (by omega) (by omega) (by omega) (by omega)
/-- laid back: the hats are as kept -/
theorem s7_laysK {I J : Mem} {S S' : RS} (hN : S.2.1 ≤ 6) (hI : MR I S) (hK : Kp I J) (h0 : J 56 0 = I 56 0) (h11 : J 56 11 = I 56 11) (hkm : J 57 = I 57 ∧ J 58 = I 58) : ∃ K, f_X7_lays J = some ((), K) ∧ MR K S ∧ Kp I K ∧ FrQ J K := by
  obtain ⟨K, e, h1, h2, h3, h4, h5⟩ := s7_lays J
  obtain ⟨m1, m2, m3, m4, m5⟩ := hI
  have k74 : K 74 = J 74 := h1 74 (by omega) (by omega) (by omega)
  refine ⟨K, e, ⟨by rw [h2 0 (by omega), h0, m1], by rw [h3, hK.2.2, m2], by rw [h2 11 (by omega), h11, m3], fun p hp => ?_, fun p q hp hq => by rw [h5 _ (by omega), hK.2.1 _ (by omega)]; exact m5 p q hp hq⟩, ⟨fun j hj => by rw [k74]; exact hK.1 j hj, fun j hj => by rw [k74]; exact hK.2.1 j hj, by rw [k74]; exact hK.2.2⟩, ⟨fun c a1 a2 a3 _ _ _ => h1 c a1 a2 a3, fun j a _ => h2 j a⟩⟩
  rw [h1 57 (by omega) (by omega) (by omega), h1 58 (by omega) (by omega) (by omega), hkm.1, hkm.2, h4 _ (by omega), h4 _ (by omega), h4 _ (by omega), h4 _ (by omega), hK.1 _ (by omega), hK.1 _ (by omega), hK.1 _ (by omega), hK.1 _ (by omega)]
  exact m4 p hp
def itS (B : Bk) : Nat → RS → RS
  | 0, S => S
  | n + 1, S => itS B n (rndS B S)
theorem itS_G {B : Bk} : ∀ (n : Nat) (S : RS), GS S → S.2.2.1.toInt + n ≤ 2000 → GS (itS B n S) ∧ (itS B n S).2.1 = S.2.1 ∧ (itS B n S).2.2.1.toInt = S.2.2.1.toInt + n ∧ (itS B n S).2.2.2 = S.2.2.2
  | 0, S, h, _ => ⟨h, rfl, by show S.2.2.1.toInt = _; omega, rfl⟩
  | n + 1, S, h, hr => by
    obtain ⟨g, a, b, c⟩ := rndS_G (B := B) h (by omega)
    obtain ⟨g', a', b', c'⟩ := itS_G (B := B) n (rndS B S) g (by rw [b]; omega)
    exact ⟨g', a'.trans a, by show (itS B n (rndS B S)).2.2.1.toInt = _; rw [b', b]; omega, c'.trans c⟩
theorem itS_succ {B : Bk} : ∀ (n : Nat) (S : RS), itS B (n + 1) S = rndS B (itS B n S)
  | 0, S => rfl
  | n + 1, S => by
    show itS B (n + 1) (rndS B S) = _
    rw [itS_succ n (rndS B S)]
    rfl
theorem s7_passes {B : Bk} {S : RS} {I : Mem} {N : Nat} (hN : N ≤ 1000) (hg : GS S) (hr : S.2.2.1.toInt + N ≤ 2000) (hO : BOK B) (hB : BM I S.2.2.2 B) (hM : MR I S) : ∃ J, f_X7_passes (nI N) I = some ((), J) ∧ MR J (itS B N S) ∧ FrM I J := by
  have key : ∀ (k n p : Nat) (S : RS) (I : Mem), p + k = N → k < n → GS S → S.2.2.1.toInt + k ≤ 2000 → BM I S.2.2.2 B → MR I S → ∃ J, f_X7_passes_b2 (nI N) n (nI p) I = some ((), J) ∧ MR J (itS B k S) ∧ FrM I J := by
    intro k
    induction k with
    | zero =>
      intro n p S I hp hn hg hr hB hM
      obtain ⟨n, rfl⟩ : ∃ m, n = m + 1 := ⟨n - 1, by omega⟩
      rw [f_X7_passes_b2, if_pos ((nI_le' (by omega) (by omega)).mpr (by omega))]
      exact ⟨I, rfl, hM, FrM.rf⟩
    | succ k ih =>
      intro n p S I hp hn hg hr hB hM
      obtain ⟨n, rfl⟩ : ∃ m, n = m + 1 := ⟨n - 1, by omega⟩
      obtain ⟨J, e, m, f⟩ := s7_round hg hO hB hM
      obtain ⟨g, a, b, c⟩ := rndS_G (B := B) hg (by omega)
      obtain ⟨K, e', m', f'⟩ := ih n (p + 1) (rndS B S) J (by omega) (by omega) g (by rw [b]; omega) (by rw [c]; exact BM_Fr hB f) m
      rw [f_X7_passes_b2, if_neg (by rw [nI_le' (by omega) (by omega)]; omega), e, bnd_some, nI_1]
      exact ⟨K, e', m', f.tr f'⟩
  exact key N FU 0 S I (by omega) (by show _ < 4096; omega) hg hr hB hM
