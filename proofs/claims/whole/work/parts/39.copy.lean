/-! PURE 30: copy -/
theorem s7_move {a1 a2 a3 a4 : Int32} {A D n : Nat} (hn : n ≤ 40) (hA : A + n ≤ 160) (hD : D + n ≤ 160) (I : Mem) : ∃ K, f_X7_copy_b147 a1 a2 a3 a4 (nI n) FU 0 (nI D) (nI A) I = some (nI n, K) ∧ (∀ j, j < n → K 68 (D + j) = I 68 (A + j)) ∧ (∀ q, (q < D ∨ D + n ≤ q) → K 68 q = I 68 q) ∧ ∀ c, c ≠ 68 → K c = I c := by
  by_cases hle : D ≤ A
  · have key : ∀ (k n' i : Nat) (M : Mem), i + k = n → k < n' → (∀ j, j < i → M 68 (D + j) = I 68 (A + j)) → (∀ q, (q < D ∨ D + i ≤ q) → M 68 q = I 68 q) → (∀ c, c ≠ 68 → M c = I c) → ∃ K, f_X7_copy_b147 a1 a2 a3 a4 (nI n) n' (nI i) (nI D) (nI A) M = some (nI n, K) ∧ (∀ j, j < n → K 68 (D + j) = I 68 (A + j)) ∧ (∀ q, (q < D ∨ D + n ≤ q) → K 68 q = I 68 q) ∧ ∀ c, c ≠ 68 → K c = I c := by
      intro k
      induction k with
      | zero =>
        intro n' i M hi hn' q1 q2 q3
        obtain ⟨n', rfl⟩ : ∃ m, n' = m + 1 := ⟨n' - 1, by omega⟩
        rw [f_X7_copy_b147, if_pos ((nI_le' (by omega) (by omega)).mpr (by omega))]
        exact ⟨M, rfl, fun j hj => q1 j (by omega), fun q hq => q2 q (by omega), q3⟩
      | succ k ih =>
        intro n' i M hi hn' q1 q2 q3
        obtain ⟨n', rfl⟩ : ∃ m, n' = m + 1 := ⟨n' - 1, by omega⟩
        rw [f_X7_copy_b147, if_neg (by rw [nI_le' (by omega) (by omega)]; omega), if_pos ((nI_le' (by omega) (by omega)).mpr hle), f_X7_copy_b173, nI_add, nI_add, if_pos (inb_t (by omega) (by omega)), if_pos (inb_t (by omega) (by omega)), lt1_eq, cl_nI (by omega), cl_nI (by omega), nI_1]
        refine ih n' (i + 1) _ (by omega) (by omega) (fun j hj => ?_) (fun q hq => by rw [wr_j _ _ _ (by omega)]; exact q2 q (by omega)) (fun c hc => by rw [wr_k _ _ _ hc]; exact q3 c hc)
        by_cases x : j = i
        · rw [x, wr_s]; exact q2 _ (by omega)
        · rw [wr_j _ _ _ (by omega)]; exact q1 j (by omega)
    exact key n FU 0 I (by omega) (by show _ < 4096; omega) (fun j hj => by omega) (fun _ _ => rfl) (fun _ _ => rfl)
  · have key : ∀ (k n' i : Nat) (M : Mem), i + k = n → k < n' → (∀ j, k ≤ j → j < n → M 68 (D + j) = I 68 (A + j)) → (∀ q, (q < D + k ∨ D + n ≤ q) → M 68 q = I 68 q) → (∀ c, c ≠ 68 → M c = I c) → ∃ K, f_X7_copy_b147 a1 a2 a3 a4 (nI n) n' (nI i) (nI D) (nI A) M = some (nI n, K) ∧ (∀ j, j < n → K 68 (D + j) = I 68 (A + j)) ∧ (∀ q, (q < D ∨ D + n ≤ q) → K 68 q = I 68 q) ∧ ∀ c, c ≠ 68 → K c = I c := by
      intro k
      induction k with
      | zero =>
        intro n' i M hi hn' q1 q2 q3
        obtain ⟨n', rfl⟩ : ∃ m, n' = m + 1 := ⟨n' - 1, by omega⟩
        rw [f_X7_copy_b147, if_pos ((nI_le' (by omega) (by omega)).mpr (by omega))]
        exact ⟨M, rfl, fun j hj => q1 j (by omega) hj, fun q hq => q2 q (by omega), q3⟩
      | succ k ih =>
        intro n' i M hi hn' q1 q2 q3
        obtain ⟨n', rfl⟩ : ∃ m, n' = m + 1 := ⟨n' - 1, by omega⟩
        have hs : nI n - (1 : Int32) - nI i = nI k := by
          have e1 : (nI n - 1).toInt = (n : Int) - 1 := by
            rw [ti_sub] <;> rw [ti_nI (by omega), show (1 : Int32).toInt = 1 from rfl] <;> omega
          rw [i_eq, ti_sub] <;> rw [e1, ti_nI (by omega)]
          · rw [ti_nI (by omega)]; omega
          · omega
          · omega
        rw [f_X7_copy_b147, if_neg (by rw [nI_le' (by omega) (by omega)]; omega), if_neg (by rw [nI_le' (by omega) (by omega)]; exact hle), f_X7_copy_b173, hs, nI_add, nI_add, if_pos (inb_t (by omega) (by omega)), if_pos (inb_t (by omega) (by omega)), lt1_eq, cl_nI (by omega), cl_nI (by omega), nI_1]
        refine ih n' (i + 1) _ (by omega) (by omega) (fun j hj hj2 => ?_) (fun q hq => by rw [wr_j _ _ _ (by omega)]; exact q2 q (by omega)) (fun c hc => by rw [wr_k _ _ _ hc]; exact q3 c hc)
        by_cases x : j = k
        · rw [x, wr_s]; exact q2 _ (by omega)
        · rw [wr_j _ _ _ (by omega)]; exact q1 j (by omega) hj2
    exact key n FU 0 I (by omega) (by show _ < 4096; omega) (fun j hj hj2 => by omega) (fun q hq => rfl) (fun _ _ => rfl)
theorem p_copy (a1 a2 a3 a4 a5 : Int32) : Pair (f_X6_copy a1 a2 a3 a4 a5) (f_X7_copy a1 a2 a3 a4 a5) := by
  intro I hI
  obtain ⟨S, T, Bs, tp, tx, sh, im, hv⟩ := id hI
  obtain ⟨⟨c, m, g, r, z⟩, -, -, -, ⟨s1, s2, s3⟩, -, -⟩ := id hv
  have e0 : (0 : Int32).toInt = 0 := rfl
  rcases hat_or a1 (N := 4) (by omega) with ⟨σ, hσ, rfl, u⟩ | ⟨_, u⟩
  · have u' : wth (nI σ) 0 3 = 1 := u
    rcases hat_or a3 (N := 4) (by omega) with ⟨τ, hτ, rfl, v⟩ | ⟨_, v⟩
    · have v' : wth (nI τ) 0 3 = 1 := v
      obtain ⟨c1, c2, c3⟩ := s1 σ hσ
      obtain ⟨m1, m2, m3⟩ := s2 σ hσ
      obtain ⟨d1, d2, d3⟩ := s1 τ hτ
      obtain ⟨n1, n2, n3⟩ := s2 τ hτ
      have hg := s3 σ hσ
      have hh := s3 τ hτ
      by_cases q1 : (sh σ).1 = -1
      · exact ⟨-11, I, I, by rw [f_X6_copy, s6_isSheet, bnd_some, u', if_neg (by decide), s6_isSheet, bnd_some, v', if_neg (by decide), if_pos (inb_t (by omega) (by omega)), if_pos (inb_t (by omega) (by omega)), cl_nI (by omega), cl_nI (by omega), s3_isMissing, bnd_some, c1, if_pos q1, if_neg (by decide)], by rw [f_X7_copy, s7_in, bnd_some, u', if_neg (by decide), s7_in, bnd_some, v', if_neg (by decide), if_pos (inb_t (p := σ) (by omega) (by omega)), cl_nI (n := σ) (by omega), m1, if_pos q1], hI⟩
      · by_cases q2 : (sh τ).1 = -1
        · exact ⟨-11, I, I, by rw [f_X6_copy, s6_isSheet, bnd_some, u', if_neg (by decide), s6_isSheet, bnd_some, v', if_neg (by decide), if_pos (inb_t (by omega) (by omega)), if_pos (inb_t (by omega) (by omega)), cl_nI (by omega), cl_nI (by omega), s3_isMissing, bnd_some, c1, if_neg q1, if_pos rfl, s3_isMissing, bnd_some, d1, if_pos q2, if_neg (by decide)], by rw [f_X7_copy, s7_in, bnd_some, u', if_neg (by decide), s7_in, bnd_some, v', if_neg (by decide), if_pos (inb_t (p := σ) (by omega) (by omega)), cl_nI (n := σ) (by omega), m1, if_neg q1, if_pos (inb_t (p := τ) (by omega) (by omega)), cl_nI (n := τ) (by omega), n1, if_pos q2], hI⟩
        · by_cases q3 : (sh σ).1 = (sh τ).1
          · have eC : f_X6_copy (nI σ) a2 (nI τ) a4 a5 I = (if a5 < 0 then some (-12, I) else if wth a2 0 (nI (sh σ).2.1 - a5) = 0 then some (-12, I) else if wth a4 0 (nI (sh τ).2.1 - a5) = 0 then some (-12, I) else if cpok a2 a4 a5 40 40 = true then some (a5, cpM I (48 + 2 * σ + 1) (48 + 2 * τ + 1) a2 a4 a5) else none) := by
              rw [f_X6_copy, s6_isSheet, bnd_some, u', if_neg (by decide), s6_isSheet, bnd_some, v', if_neg (by decide), if_pos (inb_t (by omega) (by omega)), if_pos (inb_t (by omega) (by omega)), cl_nI (by omega), cl_nI (by omega), s3_isMissing, bnd_some, c1, if_neg q1, if_pos rfl, s3_isMissing, bnd_some, d1, if_neg q2, if_pos rfl, c1, if_pos q3, c2, s6_within, bnd_some, d2, s6_within, bnd_some, lt1_eq]
            have eM : ∀ J, J 66 = I 66 → J 67 = I 67 → f_X7_copy (nI σ) a2 (nI τ) a4 a5 J = (if a5 < 0 then some (-12, J) else if a2 < 0 then some (-12, J) else if a4 < 0 then some (-12, J) else if nI (sh σ).2.1 < a2 then some (-12, J) else if nI (sh τ).2.1 < a4 then some (-12, J) else if nI (sh σ).2.1 - a2 < a5 then some (-12, J) else if a5 ≤ nI (sh τ).2.1 - a4 then f_X7_copy_b147 (nI σ) a2 (nI τ) a4 a5 FU 0 (40 * nI τ + a4) (40 * nI σ + a2) J else some (-12, J)) := by
              intro J h66 h67
              rw [f_X7_copy, s7_in, bnd_some, u', if_neg (by decide), s7_in, bnd_some, v', if_neg (by decide), if_pos (inb_t (p := σ) (by omega) (by omega)), cl_nI (n := σ) (by omega), h66, h67, m1, if_neg q1, if_pos (inb_t (p := τ) (by omega) (by omega)), cl_nI (n := τ) (by omega), n1, if_neg q2, if_pos (inb_t (p := σ) (by omega) (by omega)), if_pos (inb_t (p := τ) (by omega) (by omega)), if_pos q3, m2, n2, if_pos (inb_t (p := σ) (by omega) (by omega)), if_pos (inb_t (p := τ) (by omega) (by omega)), if_pos (inb_t (p := σ) (by omega) (by omega)), if_pos (inb_t (p := τ) (by omega) (by omega)), lt1_eq, lt1_eq]
            by_cases k1 : a5 < 0
            · exact ⟨-12, I, I, by rw [eC, if_pos k1], by rw [eM I rfl rfl, if_pos k1], hI⟩
            · have p5 : 0 ≤ a5.toInt := by rw [i_lt, e0] at k1; omega
              have h5 := ti_hi a5
              have t1 : (nI (sh σ).2.1 - a5).toInt = ((sh σ).2.1 : Int) - a5.toInt := by rw [ti_sub] <;> rw [ti_nI (by omega)] <;> omega
              have t2 : (nI (sh τ).2.1 - a5).toInt = ((sh τ).2.1 : Int) - a5.toInt := by rw [ti_sub] <;> rw [ti_nI (by omega)] <;> omega
              have w_iff : ∀ (a : Int32) (zz : Nat), (nI zz - a5).toInt = (zz : Int) - a5.toInt → (wth a 0 (nI zz - a5) = 0 ↔ ¬ (0 ≤ a.toInt ∧ a.toInt + a5.toInt ≤ zz)) := by
                intro a zz ht
                by_cases y1 : (0 : Int32) ≤ a
                · by_cases y2 : a ≤ nI zz - a5
                  · rw [wth, if_pos y1, if_pos y2]
                    rw [i_le, e0] at y1
                    rw [i_le, ht] at y2
                    exact ⟨fun h => absurd h (by decide), fun h => absurd ⟨y1, by omega⟩ h⟩
                  · rw [wth, if_pos y1, if_neg y2]
                    rw [i_le, ht] at y2
                    exact ⟨fun _ h => y2 (by omega), fun _ => rfl⟩
                · rw [wth, if_neg y1]
                  rw [i_le, e0] at y1
                  exact ⟨fun _ h => y1 h.1, fun _ => rfl⟩
              by_cases ok : (0 ≤ a2.toInt ∧ a2.toInt + a5.toInt ≤ (sh σ).2.1) ∧ 0 ≤ a4.toInt ∧ a4.toInt + a5.toInt ≤ (sh τ).2.1
              · obtain ⟨x, hx, ex, ex2⟩ := nI_of_toInt ok.1.1
                obtain ⟨y, hy, ey, ey2⟩ := nI_of_toInt ok.2.1
                obtain ⟨n, hn, en, en2⟩ := nI_of_toInt p5
                have b1 : x + n ≤ (sh σ).2.1 := by omega
                have b2 : y + n ≤ (sh τ).2.1 := by omega
                have w1 : ¬ wth a2 0 (nI (sh σ).2.1 - a5) = 0 := fun h => (w_iff a2 _ t1).mp h ok.1
                have w2 : ¬ wth a4 0 (nI (sh τ).2.1 - a5) = 0 := fun h => (w_iff a4 _ t2).mp h ok.2
                have l1 : ¬ a2 < 0 := by rw [i_lt, e0]; omega
                have l2 : ¬ a4 < 0 := by rw [i_lt, e0]; omega
                have l3 : ¬ nI (sh σ).2.1 < a2 := by rw [i_lt, ti_nI (by omega)]; omega
                have l4 : ¬ nI (sh τ).2.1 < a4 := by rw [i_lt, ti_nI (by omega)]; omega
                have l5 : ¬ nI (sh σ).2.1 - a2 < a5 := by rw [i_lt, ti_sub] <;> rw [ti_nI (by omega)] <;> omega
                have l6 : a5 ≤ nI (sh τ).2.1 - a4 := by rw [i_le, ti_sub] <;> rw [ti_nI (by omega)] <;> omega
                subst ex ey en
                have hcp : cpok (nI x) (nI y) (nI n) 40 40 = true := by
                  rw [cpok, cl_nI (by omega), cl_nI (by omega), cl_nI (by omega)]
                  exact decide_eq_true ⟨l1, l2, k1, by omega, by omega⟩
                have jO : ∀ c, c ≠ 48 + 2 * τ + 1 → cpM I (48 + 2 * σ + 1) (48 + 2 * τ + 1) (nI x) (nI y) (nI n) c = I c := fun c hc => by rw [cpM, if_neg hc]
                have jI : ∀ k, cpM I (48 + 2 * σ + 1) (48 + 2 * τ + 1) (nI x) (nI y) (nI n) (48 + 2 * τ + 1) k = if y ≤ k ∧ k < y + n then I (48 + 2 * σ + 1) (x + (k - y)) else I (48 + 2 * τ + 1) k := fun k => by rw [cpM, if_pos rfl, cl_nI (by omega), cl_nI (by omega), cl_nI (by omega), va_cpy]
                have kk1 : (40 : Int32) * nI τ + nI y = nI (40 * τ + y) := by rw [show (40 : Int32) = nI 40 from rfl, pk_mul, nI_add]
                have kk2 : (40 : Int32) * nI σ + nI x = nI (40 * σ + x) := by rw [show (40 : Int32) = nI 40 from rfl, pk_mul, nI_add]
                obtain ⟨K, e2, y1, y2, y3⟩ := s7_move (a1 := nI σ) (a2 := nI x) (a3 := nI τ) (a4 := nI y) (A := 40 * σ + x) (D := 40 * τ + y) (n := n) (by omega) (by omega) (by omega) (cpM I (48 + 2 * σ + 1) (48 + 2 * τ + 1) (nI x) (nI y) (nI n))
                have hK : ∀ c, c ≠ 48 + 2 * τ + 1 → c ≠ 68 → K c = I c := fun c c1 c2 => (y3 c c2).trans (jO c c1)
                have e68 : ∀ q, cpM I (48 + 2 * σ + 1) (48 + 2 * τ + 1) (nI x) (nI y) (nI n) 68 q = I 68 q := fun q => by rw [jO 68 (by omega)]
                refine ⟨nI n, _, K, by rw [eC, if_neg k1, if_neg w1, if_neg w2, if_pos hcp], by rw [eM _ (jO 66 (by omega)) (jO 67 (by omega)), if_neg k1, if_neg l1, if_neg l2, if_neg l3, if_neg l4, if_neg l5, if_pos l6, kk1, kk2, e2], S, T, Bs, tp, tx, shSet sh τ ((sh τ).1, (sh τ).2.1, fun k => if y ≤ k ∧ k < y + n then (sh σ).2.2 (x + (k - y)) else (sh τ).2.2 k), im, IV_sh hv (fun c q1 q2 q3 q4 q5 q6 => hK c (by omega) (by omega)) (fun j hj => by rw [hK 56 (by omega) (by omega)]) (MR_of (fun c q1 q2 => hK c (by omega) (by omega)) m) ⟨ShC_set s1 (fun c q1 q2 q3 q4 => hK c q4 (by omega)) (by rw [hK _ (by omega) (by omega)]; exact d1) (by rw [hK _ (by omega) (by omega)]; exact d2) (fun k hk => ?_), ShM_set s2 (fun ρ hρ => ⟨by rw [hK 66 (by omega) (by omega)], by rw [hK 67 (by omega) (by omega)]⟩) (fun j hj => by rw [y2 j (by omega), e68]) (by rw [hK 66 (by omega) (by omega)]; exact n1) (by rw [hK 67 (by omega) (by omega)]; exact n2) (fun k hk => ?_), ShG_set s3 hh⟩⟩
                · show _ = if y ≤ k ∧ k < y + n then (sh σ).2.2 (x + (k - y)) else (sh τ).2.2 k
                  rw [y3 _ (by omega), jI]
                  by_cases hk2 : y ≤ k ∧ k < y + n
                  · rw [if_pos hk2, if_pos hk2]; exact c3 _ (by omega)
                  · rw [if_neg hk2, if_neg hk2]; exact d3 k hk
                · show _ = if y ≤ k ∧ k < y + n then (sh σ).2.2 (x + (k - y)) else (sh τ).2.2 k
                  by_cases hk2 : y ≤ k ∧ k < y + n
                  · rw [if_pos hk2, show 40 * τ + k = 40 * τ + y + (k - y) by omega, y1 _ (by omega), e68, show 40 * σ + x + (k - y) = 40 * σ + (x + (k - y)) by omega]
                    exact m3 _ (by omega)
                  · rw [if_neg hk2, y2 _ (by omega), e68]; exact n3 k hk
              · refine ⟨-12, I, I, ?_, ?_, hI⟩
                · rw [eC, if_neg k1]
                  by_cases w1 : wth a2 0 (nI (sh σ).2.1 - a5) = 0
                  · rw [if_pos w1]
                  · rw [if_neg w1]
                    have w2 : wth a4 0 (nI (sh τ).2.1 - a5) = 0 := by
                      refine (w_iff a4 _ t2).mpr (fun h => ok ⟨?_, h⟩)
                      exact Classical.byContradiction (fun hc => w1 ((w_iff a2 _ t1).mpr hc))
                    rw [if_pos w2]
                · rw [eM I rfl rfl, if_neg k1]
                  by_cases l1 : a2 < 0
                  · rw [if_pos l1]
                  by_cases l2 : a4 < 0
                  · rw [if_neg l1, if_pos l2]
                  by_cases l3 : nI (sh σ).2.1 < a2
                  · rw [if_neg l1, if_neg l2, if_pos l3]
                  by_cases l4 : nI (sh τ).2.1 < a4
                  · rw [if_neg l1, if_neg l2, if_neg l3, if_pos l4]
                  by_cases l5 : nI (sh σ).2.1 - a2 < a5
                  · rw [if_neg l1, if_neg l2, if_neg l3, if_neg l4, if_pos l5]
                  by_cases l6 : a5 ≤ nI (sh τ).2.1 - a4
                  · exfalso
                    rw [i_lt, e0] at l1 l2
                    rw [i_lt, ti_nI (by omega)] at l3 l4
                    rw [i_lt, ti_sub (by rw [ti_nI (by omega)]; omega) (by rw [ti_nI (by omega)]; omega), ti_nI (by omega)] at l5
                    rw [i_le, ti_sub (by rw [ti_nI (by omega)]; omega) (by rw [ti_nI (by omega)]; omega), ti_nI (by omega)] at l6
                    exact ok ⟨⟨by omega, by omega⟩, by omega, by omega⟩
                  · rw [if_neg l1, if_neg l2, if_neg l3, if_neg l4, if_neg l5, if_neg l6]
          · exact ⟨-13, I, I, by rw [f_X6_copy, s6_isSheet, bnd_some, u', if_neg (by decide), s6_isSheet, bnd_some, v', if_neg (by decide), if_pos (inb_t (by omega) (by omega)), if_pos (inb_t (by omega) (by omega)), cl_nI (by omega), cl_nI (by omega), s3_isMissing, bnd_some, c1, if_neg q1, if_pos rfl, s3_isMissing, bnd_some, d1, if_neg q2, if_pos rfl, c1, if_neg q3], by rw [f_X7_copy, s7_in, bnd_some, u', if_neg (by decide), s7_in, bnd_some, v', if_neg (by decide), if_pos (inb_t (p := σ) (by omega) (by omega)), cl_nI (n := σ) (by omega), m1, if_neg q1, if_pos (inb_t (p := τ) (by omega) (by omega)), cl_nI (n := τ) (by omega), n1, if_neg q2, if_pos (inb_t (p := σ) (by omega) (by omega)), if_pos (inb_t (p := τ) (by omega) (by omega)), if_neg q3], hI⟩
    · have v' : wth a3 0 3 = 0 := v
      exact ⟨-2, I, I, by rw [f_X6_copy, s6_isSheet, bnd_some, u', if_neg (by decide), s6_isSheet, bnd_some, v', if_pos rfl], by rw [f_X7_copy, s7_in, bnd_some, u', if_neg (by decide), s7_in, bnd_some, v', if_pos rfl], hI⟩
  · have u' : wth a1 0 3 = 0 := u
    exact ⟨-2, I, I, by rw [f_X6_copy, s6_isSheet, bnd_some, u', if_pos rfl], by rw [f_X7_copy, s7_in, bnd_some, u', if_pos rfl], hI⟩
