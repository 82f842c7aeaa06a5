/-! PURE 25: image, back -/
theorem s7_image (J : Mem) : ∃ K, f_X7_image J = some (J 56 0, K) ∧ K 56 12 = 1 ∧ (∀ j, j ≠ 12 → K 56 j = J 56 j) ∧ (∀ j, j < 24 → K 64 j = J 59 j) ∧ (∀ j, j < 36 → K 64 (24 + j) = J 60 j) ∧ (K 65 0 = J 56 0 ∧ K 65 1 = J 56 5 ∧ K 65 2 = J 56 11) ∧ ∀ c, c ≠ 56 → c ≠ 64 → c ≠ 65 → K c = J c := by
  have key2 : ∀ (k n i : Nat) (M : Mem), i + k = 36 → k < n → M 56 12 = 1 → (∀ j, j ≠ 12 → M 56 j = J 56 j) → (∀ j, j < 24 → M 64 j = J 59 j) → (∀ j, j < i → M 64 (24 + j) = J 60 j) → (∀ c, c ≠ 56 → c ≠ 64 → c ≠ 65 → M c = J c) → ∃ K, f_X7_image_b33 n (nI i) M = some (J 56 0, K) ∧ K 56 12 = 1 ∧ (∀ j, j ≠ 12 → K 56 j = J 56 j) ∧ (∀ j, j < 24 → K 64 j = J 59 j) ∧ (∀ j, j < 36 → K 64 (24 + j) = J 60 j) ∧ (K 65 0 = J 56 0 ∧ K 65 1 = J 56 5 ∧ K 65 2 = J 56 11) ∧ ∀ c, c ≠ 56 → c ≠ 64 → c ≠ 65 → K c = J c := by
    intro k
    induction k with
    | zero =>
      intro n i M hi hn h1 h2 h3 h4 h5
      obtain ⟨n, rfl⟩ : ∃ m, n = m + 1 := ⟨n - 1, by omega⟩
      have z0 : ((0 : Int32)).toNatClampNeg = 0 := rfl
      have z1 : ((1 : Int32)).toNatClampNeg = 1 := rfl
      have z2 : ((2 : Int32)).toNatClampNeg = 2 := rfl
      rw [f_X7_image_b33, show (36 : Int32) = nI 36 from rfl, if_pos ((nI_le' (by omega) (by omega)).mpr (by omega)), if_pos (by decide), lt1_eq, if_pos (by decide), lt1_eq, if_pos (by decide), lt1_eq, z0, z1, z2]
      refine ⟨_, congrArg some (Prod.ext ?_ rfl), ?_, ?_, ?_, ?_, ⟨?_, ?_, ?_⟩, ?_⟩
      · simp (disch := omega) only [wr_k, h2]
      · simp (disch := omega) only [wr_k]; exact h1
      · intro j hj; simp (disch := omega) only [wr_k]; exact h2 j hj
      · intro j hj; simp (disch := omega) only [wr_k]; exact h3 j hj
      · intro j hj; simp (disch := omega) only [wr_k]; exact h4 j (by omega)
      · simp (disch := omega) only [wr_k, wr_j, wr_s]; exact h2 0 (by omega)
      · simp (disch := omega) only [wr_k, wr_j, wr_s]; exact h2 5 (by omega)
      · simp (disch := omega) only [wr_k, wr_j, wr_s]; exact h2 11 (by omega)
      · intro c c1 c2 c3
        simp (disch := omega) only [wr_k]
        exact h5 c c1 c2 c3
    | succ k ih =>
      intro n i M hi hn h1 h2 h3 h4 h5
      obtain ⟨n, rfl⟩ : ∃ m, n = m + 1 := ⟨n - 1, by omega⟩
      have k24 : (24 : Int32) + nI i = nI (24 + i) := by rw [show (24 : Int32) = nI 24 from rfl, nI_add]
      rw [f_X7_image_b33, show (36 : Int32) = nI 36 from rfl, if_neg (by rw [nI_le' (by omega) (by omega)]; omega), if_pos (inb_t (by omega) (by omega)), k24, if_pos (inb_t (by omega) (by omega)), lt1_eq, cl_nI (by omega), cl_nI (by omega), nI_1]
      refine ih n (i + 1) _ (by omega) (by omega) (by rw [wr_k _ _ _ (by omega)]; exact h1) (fun j hj => by rw [wr_k _ _ _ (by omega)]; exact h2 j hj) (fun j hj => by rw [wr_j _ _ _ (by omega)]; exact h3 j hj) (fun j hj => ?_) (fun c c1 c2 c3 => by rw [wr_k _ _ _ c2]; exact h5 c c1 c2 c3)
      by_cases q : j = i
      · rw [q, wr_s, h5 60 (by omega) (by omega) (by omega)]
      · rw [wr_j _ _ _ (by omega)]; exact h4 j (by omega)
  have key1 : ∀ (k n i : Nat) (M : Mem), i + k = 24 → k < n → M 56 12 = 1 → (∀ j, j ≠ 12 → M 56 j = J 56 j) → (∀ j, j < i → M 64 j = J 59 j) → (∀ c, c ≠ 56 → c ≠ 64 → c ≠ 65 → M c = J c) → ∃ K, f_X7_image_b7 n (nI i) M = some (J 56 0, K) ∧ K 56 12 = 1 ∧ (∀ j, j ≠ 12 → K 56 j = J 56 j) ∧ (∀ j, j < 24 → K 64 j = J 59 j) ∧ (∀ j, j < 36 → K 64 (24 + j) = J 60 j) ∧ (K 65 0 = J 56 0 ∧ K 65 1 = J 56 5 ∧ K 65 2 = J 56 11) ∧ ∀ c, c ≠ 56 → c ≠ 64 → c ≠ 65 → K c = J c := by
    intro k
    induction k with
    | zero =>
      intro n i M hi hn h1 h2 h3 h5
      obtain ⟨n, rfl⟩ : ∃ m, n = m + 1 := ⟨n - 1, by omega⟩
      rw [f_X7_image_b7, show (24 : Int32) = nI 24 from rfl, if_pos ((nI_le' (by omega) (by omega)).mpr (by omega))]
      exact key2 36 FU 0 M (by omega) (by show _ < 4096; omega) h1 h2 (fun j hj => h3 j (by omega)) (fun j hj => by omega) h5
    | succ k ih =>
      intro n i M hi hn h1 h2 h3 h5
      obtain ⟨n, rfl⟩ : ∃ m, n = m + 1 := ⟨n - 1, by omega⟩
      rw [f_X7_image_b7, show (24 : Int32) = nI 24 from rfl, if_neg (by rw [nI_le' (by omega) (by omega)]; omega), if_pos (inb_t (by omega) (by omega)), if_pos (inb_t (by omega) (by omega)), lt1_eq, cl_nI (by omega), nI_1]
      refine ih n (i + 1) _ (by omega) (by omega) (by rw [wr_k _ _ _ (by omega)]; exact h1) (fun j hj => by rw [wr_k _ _ _ (by omega)]; exact h2 j hj) (fun j hj => ?_) (fun c c1 c2 c3 => by rw [wr_k _ _ _ c2]; exact h5 c c1 c2 c3)
      by_cases q : j = i
      · rw [q, wr_s, h5 59 (by omega) (by omega) (by omega)]
      · rw [wr_j _ _ _ (by omega)]; exact h3 j (by omega)
  rw [f_X7_image, lt1_eq]
  exact key1 24 FU 0 _ (by omega) (by show _ < 4096; omega) (wr_s _ _ _ _) (fun j hj => wr_j _ _ _ hj) (fun j hj => by omega) (fun c c1 c2 c3 => wr_k _ _ _ c1)
theorem p_image : Pair f_X6_image f_X7_image := by
  intro I hI
  obtain ⟨S, T, Bs, tp, tx, sh, im, hv⟩ := id hI
  obtain ⟨⟨c, m, g, r, z⟩, ⟨t1, t2, t3, t4, t5⟩, b, tpp, ⟨s1, s2, s3⟩, hi, hw⟩ := id hv
  obtain ⟨J, e, x1, x2, x3, x4⟩ := s2_become (ρ := 2) (r := 0) (I := I) (by omega) (by omega) (by omega)
  obtain ⟨cJ, zJ⟩ := CR_become g.1 x1 x2 x3 c z
  have mJ : MR (wr J 0 9 1) S := MR_of (fun c _ _ => by rw [wr_k _ _ _ (by omega)]; exact x4 c (by omega)) m
  obtain ⟨K, e2, k1, k2, k3, k4, ⟨k5, k6, k7⟩, k8⟩ := s7_image (wr J 0 9 1)
  have hJ : ∀ c, c ≠ 0 → (c < 18 ∨ 25 < c) → wr J 0 9 1 c = I c := fun c h0 h => by rw [wr_k _ _ _ h0]; exact x4 c (by omega)
  have hK : ∀ c, c ≠ 0 → (c < 18 ∨ 25 < c) → c ≠ 56 → c ≠ 64 → c ≠ 65 → K c = I c := fun c h0 h q1 q2 q3 => (k8 c q1 q2 q3).trans (hJ c h0 h)
  have h0 : ∀ j, j ≠ 9 → K 0 j = I 0 j := fun j hj => by rw [k8 0 (by omega) (by omega) (by omega), wr_j _ _ _ hj, x4 0 (by omega)]
  have h56 : ∀ j, j ≠ 12 → K 56 j = I 56 j := fun j hj => by rw [k2 j hj, hJ 56 (by omega) (by omega)]
  have n8 : J 2 8 = nI S.2.1 := by rw [x4 2 (by omega)]; exact c.1
  obtain ⟨m1, m2, m3, m4, m5⟩ := mJ
  have mK : MR K S := by
    obtain ⟨p1, p2, p3, p4, p5⟩ := m
    refine ⟨by rw [h56 _ (by omega)]; exact p1, by rw [h56 _ (by omega)]; exact p2, by rw [h56 _ (by omega)]; exact p3, fun p hp => ?_, fun p q hp hq => by rw [hK _ (by omega) (by omega) (by omega) (by omega) (by omega)]; exact p5 p q hp hq⟩
    rw [hK _ (by omega) (by omega) (by omega) (by omega) (by omega), hK _ (by omega) (by omega) (by omega) (by omega) (by omega), hK _ (by omega) (by omega) (by omega) (by omega) (by omega)]
    exact p4 p hp
  have hN6 := g.1
  refine ⟨nI S.2.1, wr J 0 9 1, K, ?_, by rw [e2, m1], S, T, Bs, tp, tx, sh, some S, ⟨CR_of (fun j hj => hK _ (by omega) (by omega) (by omega) (by omega) (by omega)) c, mK, g, r, ZC_of (hK _ (by omega) (by omega) (by omega) (by omega) (by omega)) (hK _ (by omega) (by omega) (by omega) (by omega) (by omega)) z⟩, ⟨t1, t2, t3, by rw [h0 _ (by omega)]; exact t4, by rw [h56 _ (by omega)]; exact t5⟩, BKs_of t2 (fun c hc => hK c (by omega) (by omega) (by omega) (by omega) (by omega)) b, TP_of (hK _ (by omega) (by omega) (by omega) (by omega) (by omega)) (hK _ (by omega) (by omega) (by omega) (by omega) (by omega)) (h0 _ (by omega)) (h56 _ (by omega)) tpp, ⟨ShC_of (fun c q1 q2 => hK c (by omega) (by omega) (by omega) (by omega) (by omega)) s1, ShM_of (hK _ (by omega) (by omega) (by omega) (by omega) (by omega)) (hK _ (by omega) (by omega) (by omega) (by omega) (by omega)) (hK _ (by omega) (by omega) (by omega) (by omega) (by omega)) s2, s3⟩, ⟨?_, k1, ?_, g, r, t3, ?_, Nat.le_refl _, fun p _ => ⟨rfl, rfl⟩, ⟨?_, ?_, ?_, fun p hp => ?_, fun p q hp hq => ?_⟩⟩, WT_of (hK _ (by omega) (by omega) (by omega) (by omega) (by omega)) hw⟩
  · rw [f_X6_image, e, bnd_some, lt1_eq, wr_k _ _ _ (by omega), n8]
  · rw [k8 0 (by omega) (by omega) (by omega), wr_s]
  · exact CR_of (fun j hj => by rw [k8 _ (by omega) (by omega) (by omega), wr_k _ _ _ (by omega)]) cJ
  · exact ZC_of (by rw [k8 _ (by omega) (by omega) (by omega), wr_k _ _ _ (by omega)]) (by rw [k8 _ (by omega) (by omega) (by omega), wr_k _ _ _ (by omega)]) zJ
  · rw [k5, m1]
  · rw [k6, m2]
  · rw [k7, m3]
  · obtain ⟨q1, q2, q3, q4, q5, q6⟩ := m4 p hp
    rw [k3 _ (by omega), k3 _ (by omega), k3 _ (by omega), k3 _ (by omega)]
    exact ⟨q3, q4, q5, q6⟩
  · rw [k4 _ (by omega)]; exact m5 p q hp hq
theorem s7_back (J : Mem) (h12 : ¬ J 56 12 = 0) : ∃ K, f_X7_back J = some (J 65 0, K) ∧ (K 56 0 = J 65 0 ∧ K 56 5 = J 65 1 ∧ K 56 11 = J 65 2) ∧ (∀ j, j ≠ 0 → j ≠ 5 → j ≠ 11 → K 56 j = J 56 j) ∧ (∀ j, j < 24 → K 59 j = J 64 j) ∧ (∀ j, j < 36 → K 60 j = J 64 (24 + j)) ∧ ∀ c, c ≠ 56 → c ≠ 59 → c ≠ 60 → K c = J c := by
  have key2 : ∀ (k n i : Nat) (M : Mem), i + k = 36 → k < n → (∀ j, j < 24 → M 59 j = J 64 j) → (∀ j, j < i → M 60 j = J 64 (24 + j)) → (∀ c, c ≠ 59 → c ≠ 60 → M c = J c) → ∃ K, f_X7_back_b38 n (nI i) M = some (J 65 0, K) ∧ (K 56 0 = J 65 0 ∧ K 56 5 = J 65 1 ∧ K 56 11 = J 65 2) ∧ (∀ j, j ≠ 0 → j ≠ 5 → j ≠ 11 → K 56 j = J 56 j) ∧ (∀ j, j < 24 → K 59 j = J 64 j) ∧ (∀ j, j < 36 → K 60 j = J 64 (24 + j)) ∧ ∀ c, c ≠ 56 → c ≠ 59 → c ≠ 60 → K c = J c := by
    intro k
    induction k with
    | zero =>
      intro n i M hi hn h3 h4 h5
      obtain ⟨n, rfl⟩ : ∃ m, n = m + 1 := ⟨n - 1, by omega⟩
      have z0 : ((0 : Int32)).toNatClampNeg = 0 := rfl
      have z1 : ((1 : Int32)).toNatClampNeg = 1 := rfl
      have z2 : ((2 : Int32)).toNatClampNeg = 2 := rfl
      have h65 : M 65 = J 65 := h5 65 (by omega) (by omega)
      have h56 : M 56 = J 56 := h5 56 (by omega) (by omega)
      rw [f_X7_back_b38, show (36 : Int32) = nI 36 from rfl, if_pos ((nI_le' (by omega) (by omega)).mpr (by omega)), if_pos (by decide), lt1_eq, if_pos (by decide), lt1_eq, if_pos (by decide), lt1_eq, z0, z1, z2]
      refine ⟨_, congrArg some (Prod.ext ?_ rfl), ⟨?_, ?_, ?_⟩, ?_, ?_, ?_, ?_⟩
      · simp (disch := omega) only [wr_j, wr_s, h65]
      · simp (disch := omega) only [wr_j, wr_s, h65]
      · simp (disch := omega) only [wr_j, wr_s, wr_k, h65]
      · simp (disch := omega) only [wr_j, wr_s, wr_k, h65]
      · intro j j1 j2 j3; simp (disch := omega) only [wr_j, h56]
      · intro j hj; simp (disch := omega) only [wr_k]; exact h3 j hj
      · intro j hj; simp (disch := omega) only [wr_k]; exact h4 j (by omega)
      · intro c c1 c2 c3
        simp (disch := omega) only [wr_k]
        exact h5 c c2 c3
    | succ k ih =>
      intro n i M hi hn h3 h4 h5
      obtain ⟨n, rfl⟩ : ∃ m, n = m + 1 := ⟨n - 1, by omega⟩
      have k24 : (24 : Int32) + nI i = nI (24 + i) := by rw [show (24 : Int32) = nI 24 from rfl, nI_add]
      rw [f_X7_back_b38, show (36 : Int32) = nI 36 from rfl, if_neg (by rw [nI_le' (by omega) (by omega)]; omega), k24, if_pos (inb_t (by omega) (by omega)), if_pos (inb_t (by omega) (by omega)), lt1_eq, cl_nI (by omega), cl_nI (by omega), nI_1]
      refine ih n (i + 1) _ (by omega) (by omega) (fun j hj => by rw [wr_k _ _ _ (by omega)]; exact h3 j hj) (fun j hj => ?_) (fun c c2 c3 => by rw [wr_k _ _ _ c3]; exact h5 c c2 c3)
      by_cases q : j = i
      · rw [q, wr_s, h5 64 (by omega) (by omega)]
      · rw [wr_j _ _ _ (by omega)]; exact h4 j (by omega)
  have key1 : ∀ (k n i : Nat) (M : Mem), i + k = 24 → k < n → (∀ j, j < i → M 59 j = J 64 j) → (∀ c, c ≠ 59 → c ≠ 60 → M c = J c) → ∃ K, f_X7_back_b12 n (nI i) M = some (J 65 0, K) ∧ (K 56 0 = J 65 0 ∧ K 56 5 = J 65 1 ∧ K 56 11 = J 65 2) ∧ (∀ j, j ≠ 0 → j ≠ 5 → j ≠ 11 → K 56 j = J 56 j) ∧ (∀ j, j < 24 → K 59 j = J 64 j) ∧ (∀ j, j < 36 → K 60 j = J 64 (24 + j)) ∧ ∀ c, c ≠ 56 → c ≠ 59 → c ≠ 60 → K c = J c := by
    intro k
    induction k with
    | zero =>
      intro n i M hi hn h3 h5
      obtain ⟨n, rfl⟩ : ∃ m, n = m + 1 := ⟨n - 1, by omega⟩
      rw [f_X7_back_b12, show (24 : Int32) = nI 24 from rfl, if_pos ((nI_le' (by omega) (by omega)).mpr (by omega))]
      exact key2 36 FU 0 M (by omega) (by show _ < 4096; omega) (fun j hj => h3 j (by omega)) (fun j hj => by omega) h5
    | succ k ih =>
      intro n i M hi hn h3 h5
      obtain ⟨n, rfl⟩ : ∃ m, n = m + 1 := ⟨n - 1, by omega⟩
      rw [f_X7_back_b12, show (24 : Int32) = nI 24 from rfl, if_neg (by rw [nI_le' (by omega) (by omega)]; omega), if_pos (inb_t (by omega) (by omega)), if_pos (inb_t (by omega) (by omega)), lt1_eq, cl_nI (by omega), nI_1]
      refine ih n (i + 1) _ (by omega) (by omega) (fun j hj => ?_) (fun c c2 c3 => by rw [wr_k _ _ _ c2]; exact h5 c c2 c3)
      by_cases q : j = i
      · rw [q, wr_s, h5 64 (by omega) (by omega)]
      · rw [wr_j _ _ _ (by omega)]; exact h3 j (by omega)
  rw [f_X7_back, if_neg h12]
  exact key1 24 FU 0 J (by omega) (by show _ < 4096; omega) (fun j hj => by omega) (fun c _ _ => rfl)
theorem p_back : Pair f_X6_back f_X7_back := by
  intro I hI
  obtain ⟨S, T, Bs, tp, tx, sh, im, hv⟩ := id hI
  obtain ⟨⟨c, m, g, r, z⟩, ⟨t1, t2, t3, t4, t5⟩, b, tpp, ⟨s1, s2, s3⟩, hi, hw⟩ := id hv
  cases im with
  | none => exact ⟨-3, I, I, by rw [f_X6_back, if_pos hi.1], by rw [f_X7_back, if_pos hi.2], hI⟩
  | some R =>
    obtain ⟨i1, i2, i3, i4, i5, i6, i7, i8, i9, ⟨j1, j2, j3, j4, j5⟩⟩ := id hi
    have hN6 := i4.1
    obtain ⟨J, e, x1, x2, x3, x4⟩ := s2_become (ρ := 0) (r := 2) (I := I) (by omega) (by omega) (by omega)
    obtain ⟨cJ, zJ⟩ := CR_become i4.1 x1 x2 x3 i3 i7
    have h12 : ¬ J 56 12 = 0 := by rw [x4 56 (by omega), i2]; decide
    obtain ⟨K, e2, ⟨k5, k6, k7⟩, k2, k3, k4, k8⟩ := s7_back J h12
    have hK : ∀ c, (c < 2 ∨ 9 < c) → c ≠ 56 → c ≠ 59 → c ≠ 60 → K c = I c := fun c h q1 q2 q3 => (k8 c q1 q2 q3).trans (x4 c (by omega))
    have h65 : J 65 = I 65 := x4 65 (by omega)
    have h64 : J 64 = I 64 := x4 64 (by omega)
    have mK : MR K R := by
      refine ⟨by rw [k5, h65]; exact j1, by rw [k6, h65]; exact j2, by rw [k7, h65]; exact j3, fun p hp => ?_, fun p q hp hq => by rw [k4 _ (by omega), h64]; exact j5 p q hp hq⟩
      obtain ⟨q1, q2, q3, q4⟩ := j4 p hp
      obtain ⟨w1, w2⟩ := i9 p hp
      have mp := m.2.2.2.1 p (by omega)
      refine ⟨by rw [hK _ (by omega) (by omega) (by omega) (by omega), w1]; exact mp.1, by rw [hK _ (by omega) (by omega) (by omega) (by omega), w2]; exact mp.2.1, ?_⟩
      rw [k3 _ (by omega), k3 _ (by omega), k3 _ (by omega), k3 _ (by omega), h64]
      exact ⟨q1, q2, q3, q4⟩
    have n8 : J 2 8 = nI R.2.1 := cJ.1
    have e56 : ∀ j, j ≠ 0 → j ≠ 5 → j ≠ 11 → K 56 j = I 56 j := fun j a1 a2 a3 => by rw [k2 j a1 a2 a3, x4 56 (by omega)]
    refine ⟨nI R.2.1, J, K, by rw [f_X6_back, i1, if_neg (by decide), e, bnd_some, n8], by rw [e2, h65, j1], R, T, Bs, tp, tx, sh, some R, ⟨CR_of (fun j hj => k8 _ (by omega) (by omega) (by omega)) cJ, mK, i4, i5, ZC_of (k8 _ (by omega) (by omega) (by omega)) (k8 _ (by omega) (by omega) (by omega)) zJ⟩, ⟨t1, t2, i6, by rw [hK _ (by omega) (by omega) (by omega) (by omega)]; exact t4, by rw [e56 _ (by omega) (by omega) (by omega)]; exact t5⟩, BKs_of t2 (fun c hc => hK c (by omega) (by omega) (by omega) (by omega)) b, TP_of (hK _ (by omega) (by omega) (by omega) (by omega)) (hK _ (by omega) (by omega) (by omega) (by omega)) (by rw [hK _ (by omega) (by omega) (by omega) (by omega)]) (e56 _ (by omega) (by omega) (by omega)) tpp, ⟨ShC_of (fun c q1 q2 => hK c (by omega) (by omega) (by omega) (by omega)) s1, ShM_of (hK _ (by omega) (by omega) (by omega) (by omega)) (hK _ (by omega) (by omega) (by omega) (by omega)) (hK _ (by omega) (by omega) (by omega) (by omega)) s2, s3⟩, ?_, WT_of (hK _ (by omega) (by omega) (by omega) (by omega)) hw⟩
    exact ⟨by rw [hK _ (by omega) (by omega) (by omega) (by omega)]; exact i1, by rw [e56 _ (by omega) (by omega) (by omega)]; exact i2, CR_of (fun j hj => hK _ (by omega) (by omega) (by omega) (by omega)) i3, i4, i5, i6, ZC_of (hK _ (by omega) (by omega) (by omega) (by omega)) (hK _ (by omega) (by omega) (by omega) (by omega)) i7, Nat.le_refl _, fun p _ => ⟨rfl, rfl⟩, IM_of (hK _ (by omega) (by omega) (by omega) (by omega)) (hK _ (by omega) (by omega) (by omega) (by omega)) ⟨j1, j2, j3, j4, j5⟩⟩
