/-! PURE 23: sheet, cell, film -/
def shSet (sh : SHt) (σ : Nat) (x : Int32 × Nat × (Nat → Int32)) : SHt := fun τ => if τ = σ then x else sh τ
theorem shSet_s (sh : SHt) (σ : Nat) (x : Int32 × Nat × (Nat → Int32)) : shSet sh σ x σ = x := by simp [shSet]
theorem shSet_n (sh : SHt) {σ τ : Nat} (x : Int32 × Nat × (Nat → Int32)) (h : τ ≠ σ) : shSet sh σ x τ = sh τ := by simp [shSet, h]
theorem ShG_set {sh : SHt} {σ : Nat} {x : Int32 × Nat × (Nat → Int32)} (h : ShG sh) (hx : -1 ≤ x.1.toInt ∧ x.1.toInt ≤ 2 ∧ x.2.1 ≤ 40) : ShG (shSet sh σ x) := by
  intro τ hτ
  by_cases e : τ = σ
  · rw [e, shSet_s]; exact hx
  · rw [shSet_n _ _ e]; exact h τ hτ
theorem ShC_set {I K : Mem} {sh : SHt} {σ : Nat} {x : Int32 × Nat × (Nat → Int32)} (h : ShC I sh) (e : ∀ c, 48 ≤ c → c < 56 → c ≠ 48 + 2 * σ → c ≠ 48 + 2 * σ + 1 → K c = I c) (h1 : K (48 + 2 * σ) 1 = x.1) (h2 : K (48 + 2 * σ) 2 = nI x.2.1) (h3 : ∀ k, k < 40 → K (48 + 2 * σ + 1) k = x.2.2 k) : ShC K (shSet sh σ x) := by
  intro τ hτ
  by_cases q : τ = σ
  · rw [q, shSet_s]; exact ⟨h1, h2, h3⟩
  · rw [shSet_n _ _ q, e _ (by omega) (by omega) (by omega) (by omega), e _ (by omega) (by omega) (by omega) (by omega)]
    exact h τ hτ
theorem ShM_set {I K : Mem} {sh : SHt} {σ : Nat} {x : Int32 × Nat × (Nat → Int32)} (h : ShM I sh) (e1 : ∀ τ, τ ≠ σ → K 66 τ = I 66 τ ∧ K 67 τ = I 67 τ) (e2 : ∀ j, (j < 40 * σ ∨ 40 * σ + 40 ≤ j) → K 68 j = I 68 j) (h1 : K 66 σ = x.1) (h2 : K 67 σ = nI x.2.1) (h3 : ∀ k, k < 40 → K 68 (40 * σ + k) = x.2.2 k) : ShM K (shSet sh σ x) := by
  intro τ hτ
  by_cases q : τ = σ
  · rw [q, shSet_s]; exact ⟨h1, h2, h3⟩
  · rw [shSet_n _ _ q, (e1 τ q).1, (e1 τ q).2]
    obtain ⟨a1, a2, a3⟩ := h τ hτ
    exact ⟨a1, a2, fun k hk => by rw [e2 _ (by omega)]; exact a3 k hk⟩
theorem IV_sh {I K : Mem} {S : RS} {T : Nat} {Bs : Nat → Bk} {tp : Nat} {tx : Nat → Nat} {sh sh' : SHt} {im : Option RS} (h : IV I S T Bs tp tx sh im) (hE : ∀ c, (c < 10 ∨ 17 < c) → c ≠ 29 → (c < 48 ∨ 55 < c) → (c < 56 ∨ 60 < c) → (c < 66 ∨ 68 < c) → (c < 72 ∨ 74 < c) → K c = I c) (h56 : ∀ j, j = 7 ∨ j = 10 ∨ j = 12 → K 56 j = I 56 j) (m : MR K S) (s : ShC K sh' ∧ ShM K sh' ∧ ShG sh') : IV K S T Bs tp tx sh' im := by
  obtain ⟨⟨c, -, g, r, z⟩, ⟨t1, t2, t3, t4, t5⟩, b, tpp, -, hi, hw⟩ := h
  have e : ∀ c, (c < 10 ∨ (17 < c ∧ c < 29) ∨ (29 < c ∧ c < 48) ∨ (60 < c ∧ c < 66) ∨ (68 < c ∧ c < 72)) → K c = I c := fun c hc => hE c (by omega) (by omega) (by omega) (by omega) (by omega) (by omega)
  exact ⟨⟨CR_of (fun j hj => e _ (by omega)) c, m, g, r, ZC_of (e _ (by omega)) (e _ (by omega)) z⟩, ⟨t1, t2, t3, by rw [e _ (by omega)]; exact t4, by rw [h56 _ (by omega)]; exact t5⟩, BKs_of t2 (fun c hc => e c (by omega)) b, TP_of (e _ (by omega)) (e _ (by omega)) (by rw [e _ (by omega)]) (h56 _ (by omega)) tpp, s, IMG_of (fun c h1 h2 => e c (by omega)) (by rw [e _ (by omega)]) (h56 _ (by omega)) (e _ (by omega)) (e _ (by omega)) hi, WT_of (e _ (by omega)) hw⟩
theorem j7_fill {I : Mem} {b0 : Nat} : ∃ J, f_J7_fill_53178 b0 40 0 I = some ((), J) ∧ (∀ j, j < 40 → J b0 j = 0) ∧ ∀ c, c ≠ b0 → J c = I c := by
  have key : ∀ (k n i : Nat) (I : Mem), i + k = 40 → k < n → (∀ j, j < i → I b0 j = 0) → ∃ J, f_J7_fill_53178_b5 b0 40 0 n (nI 40) (nI i) I = some ((), J) ∧ (∀ j, j < 40 → J b0 j = 0) ∧ ∀ c, c ≠ b0 → J c = I c := by
    intro k
    induction k with
    | zero =>
      intro n i I hi hn h
      obtain ⟨n, rfl⟩ : ∃ m, n = m + 1 := ⟨n - 1, by omega⟩
      rw [f_J7_fill_53178_b5, if_pos ((nI_le' (by omega) (by omega)).mpr (by omega))]
      exact ⟨I, rfl, fun j hj => h j (by omega), fun c _ => rfl⟩
    | succ k ih =>
      intro n i I hi hn h
      obtain ⟨n, rfl⟩ : ∃ m, n = m + 1 := ⟨n - 1, by omega⟩
      rw [f_J7_fill_53178_b5, if_neg (by rw [nI_le' (by omega) (by omega)]; omega), if_pos (inb_t (by omega) (by omega)), lt1_eq, cl_nI (by omega), nI_1]
      obtain ⟨J, e, h1, h2⟩ := ih n (i + 1) (wr I b0 i 0) (by omega) (by omega) (fun j hj => by
        by_cases q : j = i
        · rw [q, wr_s]
        · rw [wr_j _ _ _ q]; exact h j (by omega))
      exact ⟨J, e, h1, fun c hc => (h2 c hc).trans (wr_k _ _ _ hc)⟩
  rw [f_J7_fill_53178, lt1_eq]
  exact key 40 FU 0 I (by omega) (by show _ < 4096; omega) (fun j hj => by omega)
theorem s3_become {σ : Nat} {a : Int32} {n : Nat} {I : Mem} : ∃ J, f_X3_become σ a (nI n) I = some ((), J) ∧ J (48 + 2 * σ) 1 = a ∧ J (48 + 2 * σ) 2 = nI n ∧ (∀ j, j < 40 → J (48 + 2 * σ + 1) j = 0) ∧ ∀ c, c ≠ 48 + 2 * σ → c ≠ 48 + 2 * σ + 1 → J c = I c := by
  obtain ⟨J, e, h1, h2⟩ := j7_fill (I := wr (wr I (48 + 2 * σ) 1 a) (48 + 2 * σ) 2 (nI n)) (b0 := 48 + 2 * σ + 1)
  refine ⟨J, by rw [f_X3_become, lt1_eq, lt1_eq, e, bnd_some], ?_, ?_, h1, fun c c1 c2 => ?_⟩
  · rw [h2 _ (by omega), wr_j _ _ _ (by omega), wr_s]
  · rw [h2 _ (by omega), wr_s]
  · rw [h2 _ c2, wr_k _ _ _ c1, wr_k _ _ _ c1]
theorem s7_sheetL {σ : Nat} (hσ : σ < 4) (a2 a3 : Int32) (I : Mem) : ∃ J, f_X7_sheet_b70 (nI σ) a2 a3 FU 0 I = some (1, J) ∧ (∀ j, j < 40 → J 68 (40 * σ + j) = 0) ∧ (∀ j, (j < 40 * σ ∨ 40 * σ + 40 ≤ j) → J 68 j = I 68 j) ∧ ∀ c, c ≠ 68 → J c = I c := by
  have key : ∀ (k n i : Nat) (I : Mem), i + k = 40 → k < n → (∀ j, j < i → I 68 (40 * σ + j) = 0) → ∃ J, f_X7_sheet_b70 (nI σ) a2 a3 n (nI i) I = some (1, J) ∧ (∀ j, j < 40 → J 68 (40 * σ + j) = 0) ∧ (∀ j, (j < 40 * σ ∨ 40 * σ + 40 ≤ j) → J 68 j = I 68 j) ∧ ∀ c, c ≠ 68 → J c = I c := by
    intro k
    induction k with
    | zero =>
      intro n i I hi hn h
      obtain ⟨n, rfl⟩ : ∃ m, n = m + 1 := ⟨n - 1, by omega⟩
      rw [f_X7_sheet_b70, show (40 : Int32) = nI 40 from rfl, if_pos ((nI_le' (by omega) (by omega)).mpr (by omega))]
      exact ⟨I, rfl, fun j hj => h j (by omega), fun j _ => rfl, fun c _ => rfl⟩
    | succ k ih =>
      intro n i I hi hn h
      obtain ⟨n, rfl⟩ : ∃ m, n = m + 1 := ⟨n - 1, by omega⟩
      rw [f_X7_sheet_b70, show (40 : Int32) = nI 40 from rfl, if_neg (by rw [nI_le' (by omega) (by omega)]; omega), pk_mul, nI_add, if_pos (inb_t (by omega) (by omega)), lt1_eq, cl_nI (by omega), nI_1]
      obtain ⟨J, e, h1, h2, h3⟩ := ih n (i + 1) (wr I 68 (40 * σ + i) 0) (by omega) (by omega) (fun j hj => by
        by_cases q : j = i
        · rw [q, wr_s]
        · rw [wr_j _ _ _ (by omega)]; exact h j (by omega))
      exact ⟨J, e, h1, fun j hj => (h2 j hj).trans (wr_j _ _ _ (by omega)), fun c hc => (h3 c hc).trans (wr_k _ _ _ hc)⟩
  exact key 40 FU 0 I (by omega) (by show _ < 4096; omega) (fun j hj => by omega)
theorem p_sheet (a a2 a3 : Int32) : Pair (f_X6_sheet a a2 a3) (f_X7_sheet a a2 a3) := by
  intro I hI
  obtain ⟨S, T, Bs, tp, tx, sh, im, hv⟩ := id hI
  obtain ⟨⟨c, m, g, r, z⟩, -, -, -, ⟨s1, s2, s3⟩, -, -⟩ := id hv
  rcases hat_or a (N := 4) (by omega) with ⟨σ, hσ, rfl, u⟩ | ⟨_, u⟩
  · have u' : wth (nI σ) 0 3 = 1 := u
    -- the sheet becomes so
    have go : ∀ (x : Int32) (n : Nat), n ≤ 40 → -1 ≤ x.toInt → x.toInt ≤ 2 → ∃ J K, f_X3_become σ x (nI n) I = some ((), J) ∧ f_X7_sheet_b70 (nI σ) a2 a3 FU 0 (wr (wr J 66 σ x) 67 σ (nI n)) = some (1, K) ∧ Inv K := by
      intro x n hn hx1 hx2
      obtain ⟨J, e, h1, h2, h3, h4⟩ := s3_become (σ := σ) (a := x) (n := n) (I := I)
      obtain ⟨K, e2, k1, k2, k3⟩ := s7_sheetL hσ a2 a3 (wr (wr J 66 σ x) 67 σ (nI n))
      have kJ : ∀ c, c ≠ 66 → c ≠ 67 → c ≠ 68 → K c = J c := fun c q1 q2 q3 => by rw [k3 c q3, wr_k _ _ _ q2, wr_k _ _ _ q1]
      refine ⟨J, K, e, e2, S, T, Bs, tp, tx, shSet sh σ (x, n, fun _ => 0), im, IV_sh hv (fun c q1 q2 q3 q4 q5 q6 => ?_) (fun j hj => ?_) (MR_of (fun c q1 q2 => ?_) m) ⟨ShC_set s1 (fun c q1 q2 q3 q4 => ?_) ?_ ?_ (fun k hk => ?_), ShM_set s2 (fun τ hτ => ⟨?_, ?_⟩) (fun j hj => ?_) ?_ ?_ k1, ShG_set s3 ⟨hx1, hx2, hn⟩⟩⟩
      · rw [kJ c (by omega) (by omega) (by omega)]; exact h4 c (by omega) (by omega)
      · rw [kJ 56 (by omega) (by omega) (by omega), h4 56 (by omega) (by omega)]
      · rw [kJ c (by omega) (by omega) (by omega)]; exact h4 c (by omega) (by omega)
      · rw [kJ c (by omega) (by omega) (by omega)]; exact h4 c q3 q4
      · rw [kJ _ (by omega) (by omega) (by omega)]; exact h1
      · rw [kJ _ (by omega) (by omega) (by omega)]; exact h2
      · rw [kJ _ (by omega) (by omega) (by omega)]; exact h3 k hk
      · rw [k3 66 (by omega), wr_k _ _ _ (by omega), wr_j _ _ _ hτ, h4 66 (by omega) (by omega)]
      · rw [k3 67 (by omega), wr_j _ _ _ hτ, wr_k _ _ _ (by omega), h4 67 (by omega) (by omega)]
      · rw [k2 j hj, wr_k _ _ _ (by omega), wr_k _ _ _ (by omega), h4 68 (by omega) (by omega)]
      · rw [k3 66 (by omega), wr_k _ _ _ (by omega), wr_s]
      · rw [k3 67 (by omega), wr_s]
    by_cases hm : a2 = -1
    · obtain ⟨J, K, e, e2, hK⟩ := go (-1) 0 (by omega) (by decide) (by decide)
      refine ⟨1, J, K, ?_, ?_, hK⟩
      · rw [f_X6_sheet, if_pos hm, f_X6_sheet_b10, s6_isSheet, bnd_some, u', if_neg (by decide), if_neg (by decide), f_X6_sheet_b31, if_neg (by decide), f_X6_sheet_b45, if_neg (by decide), f_X6_sheet_b57, if_pos (inb_t (by omega) (by omega)), if_neg (by decide), cl_nI (by omega), f_X6_sheet_b74, hm]
        have e' : f_X3_become σ (-1) 0 I = some ((), J) := e
        rw [e', bnd_some]
      · have w2 : wth a2 (-1) 2 = 1 := by rw [hm]; rfl
        rw [f_X7_sheet, s7_in, bnd_some, u', if_neg (by decide), s7_in, bnd_some, w2, if_neg (by decide), if_pos hm, f_X7_sheet_b32, if_pos hm, f_X7_sheet_b44, if_pos (inb_t (by omega) (by omega)), lt1_eq, cl_nI (by omega), if_pos hm, f_X7_sheet_b66, if_pos (inb_t (by omega) (by omega)), lt1_eq, cl_nI (by omega)]
        rw [hm] at e2 ⊢
        exact e2
    · rcases hat_or a2 (N := 3) (by omega) with ⟨x, hx, rfl, u2⟩ | ⟨hnx, u2⟩
      · have u2' : wth (nI x) 0 2 = 1 := u2
        have w2 : wth (nI x) (-1) 2 = 1 := by rcases (show x = 0 ∨ x = 1 ∨ x = 2 by omega) with rfl | rfl | rfl <;> rfl
        have eC : f_X6_sheet (nI σ) (nI x) a3 I = (if a3 ≤ 40 then (if 0 ≤ a3 then (bnd (f_X3_become σ (nI x) a3 I) fun _ J4 => some ((1 : Int32), J4)) else some (-14, I)) else some (-2, I)) := by
          rw [f_X6_sheet, if_neg hm, f_X6_sheet_b10, s6_isSheet, bnd_some, u', if_neg (by decide), if_pos rfl, s6_isSort, bnd_some, u2', if_neg (by decide), f_X6_sheet_b31, if_pos rfl, f_X6_sheet_b45, if_pos rfl, f_X6_sheet_b57, if_pos (inb_t (by omega) (by omega)), if_pos rfl, cl_nI (by omega), f_X6_sheet_b74]
        have eM : ∀ J, f_X7_sheet (nI σ) (nI x) a3 J = (if a3 ≤ 40 then (if 0 ≤ a3 then f_X7_sheet_b70 (nI σ) (nI x) a3 FU 0 (wr (wr J 66 σ (nI x)) 67 σ a3) else some (-14, J)) else some (-2, J)) := by
          intro J
          rw [f_X7_sheet, s7_in, bnd_some, u', if_neg (by decide), s7_in, bnd_some, w2, if_neg (by decide), if_neg hm, f_X7_sheet_b32, if_neg hm, f_X7_sheet_b44, if_pos (inb_t (by omega) (by omega)), lt1_eq, cl_nI (by omega), if_neg hm, f_X7_sheet_b66, if_pos (inb_t (by omega) (by omega)), lt1_eq, cl_nI (by omega)]
        by_cases q1 : a3 ≤ 40
        · by_cases q2 : 0 ≤ a3
          · have q1' := (i_le _ _).mp q1
            have q2' := (i_le _ _).mp q2
            rw [show (40 : Int32).toInt = 40 from rfl] at q1'
            rw [show (0 : Int32).toInt = 0 from rfl] at q2'
            obtain ⟨n, hn, en, en2⟩ := nI_of_toInt q2'
            subst en
            obtain ⟨J, K, e, e2, hK⟩ := go (nI x) n (by omega) (by rw [ti_nI (by omega)]; omega) (by rw [ti_nI (by omega)]; omega)
            exact ⟨1, J, K, by rw [eC, if_pos q1, if_pos q2, e, bnd_some], by rw [eM, if_pos q1, if_pos q2, e2], hK⟩
          · exact ⟨-14, I, I, by rw [eC, if_pos q1, if_neg q2], by rw [eM, if_pos q1, if_neg q2], hI⟩
        · exact ⟨-2, I, I, by rw [eC, if_neg q1], by rw [eM, if_neg q1], hI⟩
      · have u2' : wth a2 0 2 = 0 := u2
        have w2 : wth a2 (-1) 2 = 0 := by
          by_cases h1 : (-1 : Int32) ≤ a2
          · by_cases h2 : a2 ≤ 2
            · exfalso
              have g1 := (i_le _ _).mp h1
              have g2 := (i_le _ _).mp h2
              rw [show (-1 : Int32).toInt = -1 from rfl] at g1
              rw [show (2 : Int32).toInt = 2 from rfl] at g2
              have hne : a2.toInt ≠ -1 := fun hh => hm ((i_eq _ _).mpr (by rw [hh]; rfl))
              obtain ⟨n, hn, en, en2⟩ := nI_of_toInt (x := a2) (by omega)
              exact hnx n (by omega) en
            · rw [wth, if_pos h1, if_neg h2]
          · rw [wth, if_neg h1]
        refine ⟨-2, I, I, ?_, ?_, hI⟩
        · rw [f_X6_sheet, if_neg hm, f_X6_sheet_b10, s6_isSheet, bnd_some, u', if_neg (by decide), if_pos rfl, s6_isSort, bnd_some, u2', if_pos rfl]
        · rw [f_X7_sheet, s7_in, bnd_some, u', if_neg (by decide), s7_in, bnd_some, w2, if_pos rfl]
  · have u' : wth a 0 3 = 0 := u
    refine ⟨-2, I, I, ?_, by rw [f_X7_sheet, s7_in, bnd_some, u', if_pos rfl], hI⟩
    rw [f_X6_sheet]
    split
    · rw [f_X6_sheet_b10, s6_isSheet, bnd_some, u', if_pos rfl]
    · rw [f_X6_sheet_b10, s6_isSheet, bnd_some, u', if_pos rfl]
def cellV (s x : Int32) : Int32 := if s = 0 then x.toInt8.toInt32 else if s = 1 then x.toInt16.toInt32 else x
theorem p_cell (a a2 a3 : Int32) : Pair (f_X6_cell a a2 a3) (f_X7_cell a a2 a3) := by
  intro I hI
  obtain ⟨S, T, Bs, tp, tx, sh, im, hv⟩ := id hI
  obtain ⟨⟨c, m, g, r, z⟩, -, -, -, ⟨s1, s2, s3⟩, -, -⟩ := id hv
  rcases hat_or a (N := 4) (by omega) with ⟨σ, hσ, rfl, u⟩ | ⟨_, u⟩
  · have u' : wth (nI σ) 0 3 = 1 := u
    obtain ⟨c1, c2, c3⟩ := s1 σ hσ
    obtain ⟨m1, m2, m3⟩ := s2 σ hσ
    have hg := s3 σ hσ
    by_cases hm : (sh σ).1 = -1
    · refine ⟨-11, I, I, ?_, ?_, hI⟩
      · rw [f_X6_cell, s6_isSheet, bnd_some, u', if_neg (by decide), if_pos (inb_t (by omega) (by omega)), cl_nI (by omega), s3_isMissing, bnd_some, c1, if_pos hm, if_neg (by decide)]
      · rw [f_X7_cell, s7_in, bnd_some, u', if_neg (by decide), if_pos (inb_t (by omega) (by omega)), cl_nI (by omega), m1, if_pos hm]
    · rcases hat_or a2 (N := (sh σ).2.1) (by omega) with ⟨j, hj, rfl, u2⟩ | ⟨_, u2⟩
      · have hj40 : j < 40 := by omega
        have m1' : wr I (48 + 2 * σ + 1) j (cellV (sh σ).1 a3) 66 σ = (sh σ).1 := by rw [wr_k _ _ _ (by omega)]; exact m1
        have m2' : wr I (48 + 2 * σ + 1) j (cellV (sh σ).1 a3) 67 σ = nI (sh σ).2.1 := by rw [wr_k _ _ _ (by omega)]; exact m2
        have k40 : (40 : Int32) * nI σ + nI j = nI (40 * σ + j) := by rw [show (40 : Int32) = nI 40 from rfl, pk_mul, nI_add]
        refine ⟨1, wr I (48 + 2 * σ + 1) j (cellV (sh σ).1 a3), wr (wr I (48 + 2 * σ + 1) j (cellV (sh σ).1 a3)) 68 (40 * σ + j) (cellV (sh σ).1 a3), ?_, ?_, S, T, Bs, tp, tx, shSet sh σ ((sh σ).1, (sh σ).2.1, fun k => if k = j then cellV (sh σ).1 a3 else (sh σ).2.2 k), im, IV_sh hv (fun c q1 q2 q3 q4 q5 q6 => by rw [wr_k _ _ _ (by omega), wr_k _ _ _ (by omega)]) (fun j' hj' => by rw [wr_k _ _ _ (by omega), wr_k _ _ _ (by omega)]) (MR_of (fun c q1 q2 => by rw [wr_k _ _ _ (by omega), wr_k _ _ _ (by omega)]) m) ⟨ShC_set s1 (fun c q1 q2 q3 q4 => by rw [wr_k _ _ _ (by omega), wr_k _ _ _ q4]) ?_ ?_ (fun k hk => ?_), ShM_set s2 (fun τ hτ => ⟨by rw [wr_k _ _ _ (by omega), wr_k _ _ _ (by omega)], by rw [wr_k _ _ _ (by omega), wr_k _ _ _ (by omega)]⟩) (fun i hi => by rw [wr_j _ _ _ (by omega), wr_k _ _ _ (by omega)]) ?_ ?_ (fun k hk => ?_), ShG_set s3 hg⟩⟩
        · rw [f_X6_cell, s6_isSheet, bnd_some, u', if_neg (by decide), if_pos (inb_t (by omega) (by omega)), cl_nI (by omega), s3_isMissing, bnd_some, c1, if_neg hm, if_pos rfl, if_pos (inb_t (by omega) (by omega)), c2, s6_within, bnd_some, u2, if_neg (by decide), if_pos (inb_t (by omega) (by omega)), f_X3_write, c1, f_X3_write_b31, f_X3_write_b31, f_X3_write_b31, if_pos (inb_t hj40 (by omega)), if_pos (inb_t hj40 (by omega)), if_pos (inb_t hj40 (by omega)), lt1_eq, lt1_eq, lt1_eq, cl_nI (by omega), cellV]
          by_cases h0 : (sh σ).1 = 0
          · rw [if_pos h0, if_pos h0, bnd_some]
          · rw [if_neg h0, if_neg h0]
            by_cases h1 : (sh σ).1 = 1
            · rw [if_pos h1, if_pos h1, bnd_some]
            · rw [if_neg h1, if_neg h1, bnd_some]
        · rw [f_X7_cell, s7_in, bnd_some, u', if_neg (by decide), if_pos (inb_t (by omega) (by omega)), cl_nI (by omega), m1', if_neg hm, if_pos (inb_t (by omega) (by omega)), m2', s7_in, bnd_some, u2, if_neg (by decide), if_pos (inb_t (by omega) (by omega)), m1', if_pos (inb_t (by omega) (by omega)), f_X7_cell_b84, f_X7_cell_b84, f_X7_cell_b84, k40, if_pos (inb_t (by omega) (by omega)), if_pos (inb_t (by omega) (by omega)), if_pos (inb_t (by omega) (by omega)), lt1_eq, lt1_eq, lt1_eq, cl_nI (by omega)]
          generalize hX : wr I (48 + 2 * σ + 1) j (cellV (sh σ).1 a3) = X
          rw [cellV]
          by_cases h0 : (sh σ).1 = 0
          · rw [if_pos h0, if_pos h0]
          · rw [if_neg h0, if_neg h0]
            by_cases h1 : (sh σ).1 = 1
            · rw [if_pos h1, if_pos h1]
            · rw [if_neg h1, if_neg h1]
        · rw [wr_k _ _ _ (by omega), wr_k _ _ _ (by omega)]; exact c1
        · rw [wr_k _ _ _ (by omega), wr_k _ _ _ (by omega)]; exact c2
        · show _ = if k = j then cellV (sh σ).1 a3 else (sh σ).2.2 k
          rw [wr_k _ _ _ (by omega)]
          by_cases q : k = j
          · rw [if_pos q, q, wr_s]
          · rw [if_neg q, wr_j _ _ _ q]; exact c3 k hk
        · rw [wr_k _ _ _ (by omega), wr_k _ _ _ (by omega)]; exact m1
        · rw [wr_k _ _ _ (by omega), wr_k _ _ _ (by omega)]; exact m2
        · show _ = if k = j then cellV (sh σ).1 a3 else (sh σ).2.2 k
          by_cases q : k = j
          · rw [if_pos q, q, wr_s]
          · rw [if_neg q, wr_j _ _ _ (by omega), wr_k _ _ _ (by omega)]; exact m3 k hk
      · refine ⟨-12, I, I, ?_, ?_, hI⟩
        · rw [f_X6_cell, s6_isSheet, bnd_some, u', if_neg (by decide), if_pos (inb_t (by omega) (by omega)), cl_nI (by omega), s3_isMissing, bnd_some, c1, if_neg hm, if_pos rfl, if_pos (inb_t (by omega) (by omega)), c2, s6_within, bnd_some, u2, if_pos rfl]
        · rw [f_X7_cell, s7_in, bnd_some, u', if_neg (by decide), if_pos (inb_t (by omega) (by omega)), cl_nI (by omega), m1, if_neg hm, if_pos (inb_t (by omega) (by omega)), m2, s7_in, bnd_some, u2, if_pos rfl]
  · have u' : wth a 0 3 = 0 := u
    exact ⟨-2, I, I, by rw [f_X6_cell, s6_isSheet, bnd_some, u', if_pos rfl], by rw [f_X7_cell, s7_in, bnd_some, u', if_pos rfl], hI⟩
