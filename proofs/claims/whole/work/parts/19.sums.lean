/-! PURE 10: sums, the best, felt behind rounds, a told story -/
def tsS (S : RS) : Int32 := lp (fun p a => lp (fun q a => a + S.1 (6 + q) p) S.2.1 0 a) S.2.1 0 0
theorem s2_tallySum {ρ : Nat} {I : Mem} {S : RS} (hg : GS S) (hC : CR I ρ S) : f_X2_tallySum ρ I = some (tsS S, I) := by
  have hN := hg.1
  have key : ∀ (K : Int32 → Int32 → Mem → Option (Int32 × Mem)) (p : Nat), p < S.2.1 → ∀ (k n q : Nat) (a : Int32), q + k = S.2.1 → k < n → f_X2_tallySum_b14 ρ K n (nI q) (nI p) a I = K (nI (p + 1)) (lp (fun q a => a + S.1 (6 + q) p) k q a) I := by
    intro K p hp k
    induction k with
    | zero =>
      intro n q a hq hn
      obtain ⟨n, rfl⟩ : ∃ m, n = m + 1 := ⟨n - 1, by omega⟩
      rw [f_X2_tallySum_b14, hC.1, if_pos ((nI_le' (by omega) (by omega)).mpr (by omega)), nI_1]
      rfl
    | succ k ih =>
      intro n q a hq hn
      obtain ⟨n, rfl⟩ : ∃ m, n = m + 1 := ⟨n - 1, by omega⟩
      rw [f_X2_tallySum_b14, hC.1, if_neg (by rw [nI_le' (by omega) (by omega)]; omega), show (6 : Int32) = nI 6 from rfl, pk_mul, nI_add, if_pos (inb_t (by omega) (by omega)), lt1_eq, cl_nI (by omega), hC.2.2.2.2 p q hp (by omega), nI_1, ih n (q + 1) _ (by omega) (by omega), lp]
  have key2 : ∀ (k n p : Nat) (a : Int32), p + k = S.2.1 → k < n → f_X2_tallySum_b4 ρ n (nI p) a I = some (lp (fun p a => lp (fun q a => a + S.1 (6 + q) p) S.2.1 0 a) k p a, I) := by
    intro k
    induction k with
    | zero =>
      intro n q a hq hn
      obtain ⟨n, rfl⟩ : ∃ m, n = m + 1 := ⟨n - 1, by omega⟩
      rw [f_X2_tallySum_b4, hC.1, if_pos ((nI_le' (by omega) (by omega)).mpr (by omega))]
      rfl
    | succ k ih =>
      intro n p a hp hn
      obtain ⟨n, rfl⟩ : ∃ m, n = m + 1 := ⟨n - 1, by omega⟩
      rw [f_X2_tallySum_b4, hC.1, if_neg (by rw [nI_le' (by omega) (by omega)]; omega), show (0 : Int32) = nI 0 from rfl, key _ p (by omega) S.2.1 FU 0 a (by omega) (by show _ < 4096; omega), ih n (p + 1) _ (by omega) (by omega), lp]
  exact key2 S.2.1 FU 0 0 (by omega) (by show _ < 4096; omega)
theorem s7_talliesAll {I : Mem} {S : RS} (hg : GS S) (hM : MR I S) : f_X7_talliesAll I = some (tsS S, I) := by
  have hN := hg.1
  have key : ∀ (K : Int32 → Int32 → Mem → Option (Int32 × Mem)) (p : Nat), p < S.2.1 → ∀ (k n q : Nat) (a : Int32), q + k = S.2.1 → k < n → f_X7_talliesAll_b14 K n (nI q) (nI p) a I = K (nI (p + 1)) (lp (fun q a => a + S.1 (6 + q) p) k q a) I := by
    intro K p hp k
    induction k with
    | zero =>
      intro n q a hq hn
      obtain ⟨n, rfl⟩ : ∃ m, n = m + 1 := ⟨n - 1, by omega⟩
      rw [f_X7_talliesAll_b14, hM.1, if_pos ((nI_le' (by omega) (by omega)).mpr (by omega)), nI_1]
      rfl
    | succ k ih =>
      intro n q a hq hn
      obtain ⟨n, rfl⟩ : ∃ m, n = m + 1 := ⟨n - 1, by omega⟩
      rw [f_X7_talliesAll_b14, hM.1, if_neg (by rw [nI_le' (by omega) (by omega)]; omega), show (6 : Int32) = nI 6 from rfl, pk_mul, nI_add, if_pos (inb_t (by omega) (by omega)), lt1_eq, cl_nI (by omega), hM.2.2.2.2 p q hp (by omega), nI_1, ih n (q + 1) _ (by omega) (by omega), lp]
  have key2 : ∀ (k n p : Nat) (a : Int32), p + k = S.2.1 → k < n → f_X7_talliesAll_b4 n (nI p) a I = some (lp (fun p a => lp (fun q a => a + S.1 (6 + q) p) S.2.1 0 a) k p a, I) := by
    intro k
    induction k with
    | zero =>
      intro n q a hq hn
      obtain ⟨n, rfl⟩ : ∃ m, n = m + 1 := ⟨n - 1, by omega⟩
      rw [f_X7_talliesAll_b4, hM.1, if_pos ((nI_le' (by omega) (by omega)).mpr (by omega))]
      rfl
    | succ k ih =>
      intro n p a hp hn
      obtain ⟨n, rfl⟩ : ∃ m, n = m + 1 := ⟨n - 1, by omega⟩
      rw [f_X7_talliesAll_b4, hM.1, if_neg (by rw [nI_le' (by omega) (by omega)]; omega), show (0 : Int32) = nI 0 from rfl, key _ p (by omega) S.2.1 FU 0 a (by omega) (by show _ < 4096; omega), ih n (p + 1) _ (by omega) (by omega), lp]
  exact key2 S.2.1 FU 0 0 (by omega) (by show _ < 4096; omega)
def mfG (S : RS) (p : Nat) (b : Int32 × Int32) : Int32 × Int32 := if S.1 3 p ≤ b.1 then b else (S.1 3 p, nI p)
def mfS (S : RS) : Int32 := (lp (mfG S) S.2.1 0 (0, -1)).2
theorem s2_mostFelt {ρ : Nat} {I : Mem} {S : RS} (hg : GS S) (hC : CR I ρ S) : f_X2_mostFelt ρ I = some (mfS S, I) := by
  have hN := hg.1
  have key : ∀ (k n p : Nat) (b : Int32 × Int32), p + k = S.2.1 → k < n → f_X2_mostFelt_b6 ρ n (nI p) b.1 b.2 I = some ((lp (mfG S) k p b).2, I) := by
    intro k
    induction k with
    | zero =>
      intro n p b hp hn
      obtain ⟨n, rfl⟩ : ∃ m, n = m + 1 := ⟨n - 1, by omega⟩
      rw [f_X2_mostFelt_b6, hC.1, if_pos ((nI_le' (by omega) (by omega)).mpr (by omega))]
      rfl
    | succ k ih =>
      intro n p b hp hn
      obtain ⟨n, rfl⟩ : ∃ m, n = m + 1 := ⟨n - 1, by omega⟩
      rw [f_X2_mostFelt_b6, hC.1, if_neg (by rw [nI_le' (by omega) (by omega)]; omega), if_pos (inb_t (by omega) (by omega)), cl_nI (by omega), (hC.2.2.2.1 p (by omega)).2.2.2.1, lp, mfG, nI_1]
      by_cases h : S.1 3 p ≤ b.1
      · rw [if_pos h, if_pos h, ih n (p + 1) b (by omega) (by omega)]
      · rw [if_neg h, if_neg h, if_pos (inb_t (by omega) (by omega)), lt1_eq]
        exact ih n (p + 1) (S.1 3 p, nI p) (by omega) (by omega)
  exact key S.2.1 FU 0 (0, -1) (by omega) (by show _ < 4096; omega)
theorem s7_mostFelt {I : Mem} {S : RS} (hg : GS S) (hM : MR I S) : f_X7_mostFelt I = some (mfS S, I) ∧ (mfS S = -1 ∨ ∃ j, j < S.2.1 ∧ mfS S = nI j) := by
  have hN := hg.1
  have key : ∀ (k n p : Nat) (b : Int32 × Int32), p + k = S.2.1 → k < n → (b.2 = -1 ∧ b.1 = 0 ∨ ∃ j, j < S.2.1 ∧ b.2 = nI j ∧ b.1 = S.1 3 j) → f_X7_mostFelt_b4 n (nI p) b.2 I = some ((lp (mfG S) k p b).2, I) ∧ ((lp (mfG S) k p b).2 = -1 ∨ ∃ j, j < S.2.1 ∧ (lp (mfG S) k p b).2 = nI j) := by
    intro k
    induction k with
    | zero =>
      intro n p b hp hn hb
      obtain ⟨n, rfl⟩ : ∃ m, n = m + 1 := ⟨n - 1, by omega⟩
      rw [f_X7_mostFelt_b4, hM.1, if_pos ((nI_le' (by omega) (by omega)).mpr (by omega))]
      exact ⟨rfl, hb.elim (fun h => Or.inl h.1) (fun ⟨j, h1, h2, _⟩ => Or.inr ⟨j, h1, h2⟩)⟩
    | succ k ih =>
      intro n p b hp hn hb
      obtain ⟨n, rfl⟩ : ∃ m, n = m + 1 := ⟨n - 1, by omega⟩
      have hpN : p < S.2.1 := by omega
      rw [f_X7_mostFelt_b4, hM.1, if_neg (by rw [nI_le' (by omega) (by omega)]; omega), s7_isUp (by omega), bnd_some, (hM.2.2.2.1 p hpN).2.2.2.1, lp, mfG, nI_1]
      have e0 : (0 : Int32).toInt = 0 := rfl
      have hb0 : 0 ≤ b.1.toInt := by
        rcases hb with ⟨_, h⟩ | ⟨j, h1, _, h⟩
        · rw [h, e0]; omega
        · rw [h]; exact (hg.2.2.2.2.1 j h1).2.2.2.1.1
      by_cases hu : S.1 3 p ≤ 0
      · have h : S.1 3 p ≤ b.1 := by rw [i_le] at hu ⊢; rw [e0] at hu; omega
        rw [if_pos hu, if_pos rfl, if_pos h]
        exact ih n (p + 1) b (by omega) (by omega) hb
      · have hu' : 0 < (S.1 3 p).toInt := by
          have q : ¬ (S.1 3 p).toInt ≤ 0 := fun q => hu ((i_le _ _).mpr (by rw [e0]; exact q))
          omega
        rw [if_neg hu, if_neg (by decide)]
        have hnew : ((S.1 3 p, nI p) : Int32 × Int32).2 = -1 ∧ ((S.1 3 p, nI p) : Int32 × Int32).1 = 0 ∨ ∃ j, j < S.2.1 ∧ ((S.1 3 p, nI p) : Int32 × Int32).2 = nI j ∧ ((S.1 3 p, nI p) : Int32 × Int32).1 = S.1 3 j := Or.inr ⟨p, hpN, rfl, rfl⟩
        rcases hb with ⟨h2, h1⟩ | ⟨j, hj, h2, h1⟩
        · have h : ¬ S.1 3 p ≤ b.1 := by rw [h1, i_le, e0]; omega
          rw [if_pos h2, f_X7_mostFelt_b30, if_neg (by decide), f_X7_mostFelt_b64, if_neg (by decide), f_X7_mostFelt_b73, nI_1, if_neg h]
          exact ih n (p + 1) (S.1 3 p, nI p) (by omega) (by omega) hnew
        · have hne : ¬ b.2 = -1 := by
            rw [h2]
            intro hh
            have h' := (i_eq _ _).mp hh
            rw [ti_nI (by omega), show (-1 : Int32).toInt = -1 from rfl] at h'
            omega
          rw [if_neg hne, f_X7_mostFelt_b30, if_pos rfl, fact4, nI_1, lt1_eq, if_pos (inb_t (by omega) (by omega)), h2, fact4, nI_1, lt1_eq, if_pos (inb_t (by omega) (by omega)), cl_nI (by omega), cl_nI (by omega), (hM.2.2.2.1 p hpN).2.2.2.1, (hM.2.2.2.1 j hj).2.2.2.1, h1]
          by_cases h : S.1 3 p ≤ S.1 3 j
          · rw [if_pos h, if_pos h, f_X7_mostFelt_b63, f_X7_mostFelt_b64, if_pos rfl, f_X7_mostFelt_b73, nI_1]
            have := ih n (p + 1) b (by omega) (by omega) (Or.inr ⟨j, hj, h2, h1⟩)
            rw [h2] at this
            exact this
          · rw [if_neg h, if_neg h, f_X7_mostFelt_b63, f_X7_mostFelt_b64, if_neg (by decide), f_X7_mostFelt_b73, nI_1]
            exact ih n (p + 1) (S.1 3 p, nI p) (by omega) (by omega) hnew
  exact key S.2.1 FU 0 (0, -1) (by omega) (by show _ < 4096; omega) (Or.inl ⟨rfl, rfl⟩)
theorem pstep_f0 {B : Bk} {S : RS} {p j : Nat} {fl : Int32} (h : GS S) (hp : p < S.2.1) (h0 : S.1 3 j = 0) : (pstep B p (S, fl)).1.1 3 j = 0 := by
  unfold pstep
  by_cases h1 : S.1 3 p ≤ 0
  · rw [if_pos h1]; exact h0
  · rw [if_neg h1]
    by_cases h2 : goesS B S p = 0
    · rw [if_pos h2]; exact h0
    · rw [if_neg h2]
      rcases near_or (S := S) (p := p) with hq | ⟨q, hqN, hqp, hu, hq⟩
      · rw [if_pos hq]; exact h0
      · have hne : ¬ nearS S p = -1 := by
          rw [hq]
          intro hh
          have h' := (i_eq _ _).mp hh
          rw [ti_nI (by have := h.1; omega), show (-1 : Int32).toInt = -1 from rfl] at h'
          omega
        have hcl : (nearS S p).toNatClampNeg = q := by rw [hq]; exact cl_nI (by have := h.1; omega)
        have hjq : j ≠ q := fun e => hu (by rw [← e, h0]; decide)
        dsimp only
        rw [if_neg hne, hcl]
        by_cases h3 : farS (S.1 2 p) (S.1 2 q) ≤ 1
        · rw [if_pos h3]
          show (landS B S p q).1 3 j = 0
          rw [landS, setf_n _ _ (by omega), lS3, setf_n _ _ (by omega), lS2, setf_n _ _ (by omega), lS1, setf_n _ _ (by omega)]
          exact h0
        · rw [if_neg h3]
          show (stepS S p q).1 3 j = 0
          rw [stepS, setf_n _ _ (by omega)]
          exact h0
theorem rndS_f0 {B : Bk} {S : RS} {j : Nat} (h : GS S) (h0 : S.1 3 j = 0) : (rndS B S).1 3 j = 0 := by
  have key : ∀ (k p : Nat) (z : RS × Int32), p + k = z.1.2.1 → GS z.1 → z.1.1 3 j = 0 → (lp (pstep B) k p z).1.1 3 j = 0 := by
    intro k
    induction k with
    | zero => intro p z _ _ h; exact h
    | succ k ih =>
      intro p z hp h h0
      obtain ⟨g1, g2⟩ := pstep_G (B := B) (fl := z.2) h (p := p) (by omega)
      have gN : (pstep B p z).1.2.1 = z.1.2.1 := by rw [show z = (z.1, z.2) from rfl, g2]
      exact ih (p + 1) (pstep B p z) (by rw [gN]; omega) g1 (pstep_f0 (fl := z.2) h (by omega) h0)
  exact key S.2.1 0 (S, 0) (Nat.zero_add _) h h0
theorem itS_f0 {B : Bk} {j : Nat} : ∀ (n : Nat) (S : RS), GS S → S.2.2.1.toInt + n ≤ 2000 → S.1 3 j = 0 → (itS B n S).1 3 j = 0
  | 0, S, _, _, h => h
  | n + 1, S, h, hr, h0 => by
    obtain ⟨g, a, b, c⟩ := rndS_G (B := B) h (by omega)
    exact itS_f0 n (rndS B S) g (by rw [b]; omega) (rndS_f0 h h0)
theorem felt0 {x : Int32} (h : 0 ≤ x.toInt) (h2 : x ≤ 0) : x = 0 := by
  have a := (i_le _ _).mp h2
  rw [show (0 : Int32).toInt = 0 from rfl] at a
  rw [i_eq, show (0 : Int32).toInt = 0 from rfl]
  omega
theorem s6_feltBehind {B : Bk} {S : RS} {I : Mem} {p N : Nat} (hN : N ≤ 1000) (hg : GS S) (hp : p < S.2.1) (hr : S.2.2.1.toInt + N ≤ 2000) (hO : BOK B) (hB : BC I S.2.2.2 B) (hC : CR I 1 S) (hZ : ZC I 1 S.2.1) : ∃ J, f_X6_feltBehind (nI p) (nI N) I = some ((itS B N S).1 3 p, J) ∧ FrC 1 I J := by
  have hN6 := hg.1
  have fin : ∀ (J : Mem) (S : RS), CR J 1 S → p < S.2.1 → f_X6_feltBehind_b33 (nI p) (nI N) J = some (S.1 3 p, J) := by
    intro J S hC hp
    have h14 : J 14 p = S.1 3 p := (hC.2.2.2.1 p hp).2.2.2.1
    rw [f_X6_feltBehind_b33, if_pos (inb_t (by omega) (by omega)), cl_nI (by omega), h14]
  have key : ∀ (k n i : Nat) (S : RS) (I : Mem), i + k = N → k < n → GS S → p < S.2.1 → S.2.2.1.toInt + k ≤ 2000 → BC I S.2.2.2 B → CR I 1 S → ZC I 1 S.2.1 → ∃ J, f_X6_feltBehind_b2 (nI p) (nI N) n (nI i) I = some ((itS B k S).1 3 p, J) ∧ FrC 1 I J := by
    intro k
    induction k with
    | zero =>
      intro n i S I hi hn hg hp hr hB hC hZ
      obtain ⟨n, rfl⟩ : ∃ m, n = m + 1 := ⟨n - 1, by omega⟩
      rw [f_X6_feltBehind_b2, if_pos ((nI_le' (by omega) (by omega)).mpr (by omega)), fin I S hC hp]
      exact ⟨I, rfl, FrC.rf⟩
    | succ k ih =>
      intro n i S I hi hn hg hp hr hB hC hZ
      obtain ⟨n, rfl⟩ : ∃ m, n = m + 1 := ⟨n - 1, by omega⟩
      have h14 : I 14 p = S.1 3 p := (hC.2.2.2.1 p hp).2.2.2.1
      rw [f_X6_feltBehind_b2, if_neg (by rw [nI_le' (by omega) (by omega)]; omega), if_pos (inb_t (by omega) (by omega)), cl_nI (by omega), h14]
      by_cases hu : S.1 3 p ≤ 0
      · have h0 := felt0 (hg.2.2.2.2.1 p hp).2.2.2.1.1 hu
        rw [if_pos hu, fin I S hC hp, h0, itS_f0 (k + 1) S hg hr h0]
        exact ⟨I, rfl, FrC.rf⟩
      · obtain ⟨J, e, c, z, f⟩ := s2_play (ρ := 1) (by omega) hg hO hB hC hZ
        obtain ⟨g, a, b, d⟩ := rndS_G (B := B) hg (by omega)
        obtain ⟨K, e', f'⟩ := ih n (i + 1) (rndS B S) J (by omega) (by omega) g (by rw [a]; exact hp) (by rw [b]; omega) (by rw [d]; exact BC_Fr hB (ρ := 1) (by omega) hg.2.1 f) c (by rw [a]; exact z)
        rw [if_neg hu, e, bnd_some, nI_1]
        exact ⟨K, e', f.tr f'⟩
  exact key N FU 0 S I (by omega) (by show _ < 4096; omega) hg hp hr hB hC hZ
theorem s7_feltBehind {B : Bk} {S S0 : RS} {I0 I : Mem} {p N : Nat} (hN : N ≤ 1000) (hg : GS S) (hp : p < S.2.1) (hr : S.2.2.1.toInt + N ≤ 2000) (hO : BOK B) (hB : BM I S.2.2.2 B) (hM : MR I S) (hg0 : GS S0) (hM0 : MR I0 S0) (hK : Kp I0 I) (h0 : I 56 0 = I0 56 0) (h11 : I 56 11 = I0 56 11) (hkm : I 57 = I0 57 ∧ I 58 = I0 58) : ∃ J, f_X7_feltBehind (nI p) (nI N) I = some ((itS B N S).1 3 p, J) ∧ MR J S0 ∧ Kp I0 J ∧ FrQ I J := by
  have hN6 := hg.1
  obtain ⟨J, e, m, f⟩ := s7_passes hN hg hr hO hB hM
  obtain ⟨K, e2, m2, k2, f2⟩ := s7_laysK (I := I0) (J := J) (S := S0) (S' := S) hg0.1 hM0 ⟨fun j hj => by rw [f.K]; exact hK.1 j hj, fun j hj => by rw [f.K]; exact hK.2.1 j hj, by rw [f.K]; exact hK.2.2⟩ (by rw [f.2 0 (by omega), h0]) (by rw [f.2 11 (by omega), h11]) ⟨by rw [f.1 57 (by omega) (by omega) (by omega) (by omega) (by omega), hkm.1], by rw [f.1 58 (by omega) (by omega) (by omega) (by omega) (by omega), hkm.2]⟩
  have hpN : p < (itS B N S).2.1 := by rw [(itS_G (B := B) N S hg hr).2.1]; exact hp
  refine ⟨K, ?_, m2, k2, f.Q.tr f2⟩
  rw [f_X7_feltBehind, e, bnd_some, fact4, nI_1, lt1_eq, if_pos (inb_t (by omega) (by omega)), lt1_eq, cl_nI (by omega), e2, bnd_some, (m.2.2.2.1 p hpN).2.2.2.1]
/-- the first number that is otherwise -/
def foS (B : Bk) (c : Nat → Int32) (p : Nat) : Nat → Nat → RS → Int32
  | 0, _, _ => -1
  | k + 1, i, S => if (rndS B S).1 3 p = c i then foS B c p k (i + 1) (rndS B S) else nI i
theorem s6_firstOtherwise {B : Bk} {S : RS} {I : Mem} {p σ z : Nat} {c : Nat → Int32} (hσ : σ < 4) (hz : z ≤ 40) (hg : GS S) (hp : p < S.2.1) (hr : S.2.2.1.toInt + z ≤ 2000) (hO : BOK B) (hB : BC I S.2.2.2 B) (hC : CR I 1 S) (hZ : ZC I 1 S.2.1) (hs : I (48 + 2 * σ) 2 = nI z) (hc : ∀ i, i < 40 → I (48 + 2 * σ + 1) i = c i) : ∃ J, f_X6_firstOtherwise (nI σ) (nI p) I = some (foS B c p z 0 S, J) ∧ FrC 1 I J := by
  have key : ∀ (k n i : Nat) (S : RS) (I : Mem), i + k = z → k < n → GS S → p < S.2.1 → S.2.2.1.toInt + k ≤ 2000 → BC I S.2.2.2 B → CR I 1 S → ZC I 1 S.2.1 → I (48 + 2 * σ) 2 = nI z → (∀ i, i < 40 → I (48 + 2 * σ + 1) i = c i) → ∃ J, f_X6_firstOtherwise_b10 (nI σ) (nI p) n (nI i) σ I = some (foS B c p k i S, J) ∧ FrC 1 I J := by
    intro k
    induction k with
    | zero =>
      intro n i S I hi hn hg hp hr hB hC hZ hs hc
      obtain ⟨n, rfl⟩ : ∃ m, n = m + 1 := ⟨n - 1, by omega⟩
      rw [f_X6_firstOtherwise_b10, hs, if_pos ((nI_le' (by omega) (by omega)).mpr (by omega))]
      exact ⟨I, rfl, FrC.rf⟩
    | succ k ih =>
      intro n i S I hi hn hg hp hr hB hC hZ hs hc
      obtain ⟨n, rfl⟩ : ∃ m, n = m + 1 := ⟨n - 1, by omega⟩
      have hN6 := hg.1
      obtain ⟨J, e, c', z', f⟩ := s2_play (ρ := 1) (by omega) hg hO hB hC hZ
      obtain ⟨g, a, b, d⟩ := rndS_G (B := B) hg (by omega)
      have h14 : J 14 p = (rndS B S).1 3 p := (c'.2.2.2.1 p (by rw [a]; exact hp)).2.2.2.1
      have fs : J (48 + 2 * σ) = I (48 + 2 * σ) := f _ (by omega) (by omega)
      have fs1 : J (48 + 2 * σ + 1) = I (48 + 2 * σ + 1) := f _ (by omega) (by omega)
      rw [f_X6_firstOtherwise_b10, hs, if_neg (by rw [nI_le' (by omega) (by omega)]; omega), e, bnd_some, if_pos (inb_t (by omega) (by omega)), if_pos (inb_t (by omega) (by omega)), cl_nI (by omega), cl_nI (by omega), h14, fs1, hc i (by omega), nI_1, foS]
      by_cases h : (rndS B S).1 3 p = c i
      · obtain ⟨K, e', f'⟩ := ih n (i + 1) (rndS B S) J (by omega) (by omega) g (by rw [a]; exact hp) (by rw [b]; omega) (by rw [d]; exact BC_Fr hB (ρ := 1) (by omega) hg.2.1 f) c' (by rw [a]; exact z') (by rw [fs]; exact hs) (fun i hi => by rw [fs1]; exact hc i hi)
        rw [if_pos h, if_pos h]
        exact ⟨K, e', f.tr f'⟩
      · rw [if_neg h, if_neg h]
        exact ⟨J, rfl, f⟩
  rw [f_X6_firstOtherwise, if_pos (inb_t hσ (by omega)), cl_nI (by omega)]
  exact key z FU 0 S I (by omega) (by show _ < 4096; omega) hg hp hr hB hC hZ hs hc
theorem s7_unlike {B : Bk} {S : RS} {I : Mem} {p σ z : Nat} {c : Nat → Int32} (hσ : σ < 4) (hz : z ≤ 40) (hg : GS S) (hp : p < S.2.1) (hr : S.2.2.1.toInt + z ≤ 2000) (hO : BOK B) (hB : BM I S.2.2.2 B) (hM : MR I S) (hs : I 67 σ = nI z) (hc : ∀ i, i < 40 → I 68 (40 * σ + i) = c i) : ∃ J, f_X7_unlike (nI σ) (nI p) I = some (foS B c p z 0 S, J) ∧ MR J S ∧ FrQ I J := by
  have hN6 := hg.1
  obtain ⟨I1, e1, k1, o1⟩ := s7_keeps I
  have lay : ∀ (J : Mem) (v : Int32), Kp I J → FrQ I J → ∃ K, f_X7_unlike_b68 (nI σ) (nI p) v J = some (v, K) ∧ MR K S ∧ FrQ I K := by
    intro J v hK hf
    obtain ⟨K, e2, m2, k2, f2⟩ := s7_laysK (I := I) (J := J) (S := S) (S' := S) hg.1 hM hK (hf.2 0 (by omega) (by omega)) (hf.2 11 (by omega) (by omega)) ⟨hf.1 57 (by omega) (by omega) (by omega) (by omega) (by omega) (by omega), hf.1 58 (by omega) (by omega) (by omega) (by omega) (by omega) (by omega)⟩
    exact ⟨K, by rw [f_X7_unlike_b68, e2, bnd_some], m2, hf.tr f2⟩
  have key : ∀ (k n i : Nat) (T : RS) (J : Mem), i + k = z → k < n → GS T → p < T.2.1 → T.2.2.1.toInt + k ≤ 2000 → BM J T.2.2.2 B → MR J T → Kp I J → FrQ I J → ∃ K, f_X7_unlike_b9 (nI σ) (nI p) n (nI i) (-1) J = some (foS B c p k i T, K) ∧ MR K S ∧ FrQ I K := by
    intro k
    induction k with
    | zero =>
      intro n i T J hi hn hg hp hr hB hM hK hf
      obtain ⟨n, rfl⟩ : ∃ m, n = m + 1 := ⟨n - 1, by omega⟩
      have q67 : J 67 = I 67 := hf.1 67 (by omega) (by omega) (by omega) (by omega) (by omega) (by omega)
      rw [f_X7_unlike_b9, if_pos (inb_t hσ (by omega)), cl_nI (by omega), q67, hs, if_pos ((nI_le' (by omega) (by omega)).mpr (by omega))]
      exact lay J (-1) hK hf
    | succ k ih =>
      intro n i T J hi hn hg hp hr hB hM hK hf
      obtain ⟨n, rfl⟩ : ∃ m, n = m + 1 := ⟨n - 1, by omega⟩
      have hN6 := hg.1
      have q67 : J 67 = I 67 := hf.1 67 (by omega) (by omega) (by omega) (by omega) (by omega) (by omega)
      obtain ⟨J2, e2, m2, f2⟩ := s7_round hg hO hB hM
      obtain ⟨g, a, b, d⟩ := rndS_G (B := B) hg (by omega)
      have f3 : FrQ I J2 := hf.tr f2.Q
      have q68 : J2 68 = I 68 := f3.1 68 (by omega) (by omega) (by omega) (by omega) (by omega) (by omega)
      have k3 : Kp I J2 := ⟨fun j hj => by rw [f2.K]; exact hK.1 j hj, fun j hj => by rw [f2.K]; exact hK.2.1 j hj, by rw [f2.K]; exact hK.2.2⟩
      rw [f_X7_unlike_b9, if_pos (inb_t hσ (by omega)), cl_nI (by omega), q67, hs, if_neg (by rw [nI_le' (by omega) (by omega)]; omega), if_pos rfl, e2, bnd_some, show (40 : Int32) = nI 40 from rfl, pk_mul, nI_add, if_pos (inb_t (by omega) (by omega)), fact4, nI_1, lt1_eq, if_pos (inb_t (by omega) (by omega)), cl_nI (by omega), cl_nI (by omega), q68, hc i (by omega), (m2.2.2.2.1 p (by rw [a]; exact hp)).2.2.2.1, foS]
      by_cases h : (rndS B T).1 3 p = c i
      · rw [if_pos h.symm, if_pos h, f_X7_unlike_b61, nI_1]
        exact ih n (i + 1) (rndS B T) J2 (by omega) (by omega) g (by rw [a]; exact hp) (by rw [b]; omega) (by rw [d]; exact BM_Fr hB f2) m2 k3 f3
      · rw [if_neg (fun q => h q.symm), if_neg h, f_X7_unlike_b61, nI_1]
        obtain ⟨n2, rfl⟩ : ∃ m, n = m + 1 := ⟨n - 1, by omega⟩
        have q67' : J2 67 = I 67 := f3.1 67 (by omega) (by omega) (by omega) (by omega) (by omega) (by omega)
        rw [f_X7_unlike_b9, if_pos (inb_t hσ (by omega)), cl_nI (by omega), q67', hs]
        have hne : ¬ nI i = -1 := by
          intro hh
          have h' := (i_eq _ _).mp hh
          rw [ti_nI (by omega), show (-1 : Int32).toInt = -1 from rfl] at h'
          omega
        by_cases hl : nI z ≤ nI (i + 1)
        · rw [if_pos hl]
          exact lay J2 (nI i) k3 f3
        · rw [if_neg hl, if_neg hne]
          exact lay J2 (nI i) k3 f3
  have fq : FrQ I I1 := ⟨fun c _ _ _ _ _ a6 => o1 c a6, fun j _ _ => by rw [o1 56 (by omega)]⟩
  obtain ⟨K, e, m, f⟩ := key z FU 0 S I1 (by omega) (by show _ < 4096; omega) hg hp hr ⟨fun k hk => by rw [o1 _ (by omega)]; exact hB.1 k hk, fun j hj => by rw [o1 _ (by omega)]; exact hB.2 j hj⟩ ⟨by rw [o1 _ (by omega)]; exact hM.1, by rw [o1 _ (by omega)]; exact hM.2.1, by rw [o1 _ (by omega)]; exact hM.2.2.1, fun p hp => by rw [o1 _ (by omega), o1 _ (by omega), o1 _ (by omega)]; exact hM.2.2.2.1 p hp, fun p q hp hq => by rw [o1 _ (by omega)]; exact hM.2.2.2.2 p q hp hq⟩ k1 fq
  exact ⟨K, by rw [f_X7_unlike, e1, bnd_some]; exact e, m, f⟩
