/-! PURE 27: hat of the model; hat, hatsBy, feed -/
theorem s7_hatL {N : Nat} (hN : N < 6) (a1 a2 a3 : Int32) (M : Mem) (h0 : M 56 0 = nI N) : ∃ K, f_X7_hat_b135 a1 a2 a3 FU 0 M = some (nI N, K) ∧ K 56 0 = nI (N + 1) ∧ (∀ j, j ≠ 0 → K 56 j = M 56 j) ∧ (∀ q, q < 6 → K 60 (6 * N + q) = 0 ∧ K 60 (6 * q + N) = 0) ∧ (∀ p q, p < 6 → q < 6 → p ≠ N → q ≠ N → K 60 (6 * p + q) = M 60 (6 * p + q)) ∧ ∀ c, c ≠ 56 → c ≠ 60 → K c = M c := by
  have key : ∀ (k n i : Nat) (M' : Mem), i + k = 6 → k < n → M' 56 = M 56 → (∀ q, q < i → M' 60 (6 * N + q) = 0 ∧ M' 60 (6 * q + N) = 0) → (∀ p q, p < 6 → q < 6 → p ≠ N → q ≠ N → M' 60 (6 * p + q) = M 60 (6 * p + q)) → (∀ c, c ≠ 60 → M' c = M c) → ∃ K, f_X7_hat_b135 a1 a2 a3 n (nI i) M' = some (nI N, K) ∧ K 56 0 = nI (N + 1) ∧ (∀ j, j ≠ 0 → K 56 j = M 56 j) ∧ (∀ q, q < 6 → K 60 (6 * N + q) = 0 ∧ K 60 (6 * q + N) = 0) ∧ (∀ p q, p < 6 → q < 6 → p ≠ N → q ≠ N → K 60 (6 * p + q) = M 60 (6 * p + q)) ∧ ∀ c, c ≠ 56 → c ≠ 60 → K c = M c := by
    intro k
    induction k with
    | zero =>
      intro n i M' hi hn q0 q1 q2 q3
      obtain ⟨n, rfl⟩ : ∃ m, n = m + 1 := ⟨n - 1, by omega⟩
      rw [f_X7_hat_b135, show (6 : Int32) = nI 6 from rfl, if_pos ((nI_le' (by omega) (by omega)).mpr (by omega)), lt1_eq, q0, h0, nI_1, wr_s, nI_sub1 (by omega)]
      exact ⟨_, rfl, wr_s _ _ _ _, fun j hj => by rw [wr_j _ _ _ hj, q0], fun q hq => by rw [wr_k _ _ _ (by omega)]; exact q1 q (by omega), fun p q hp hq a b => by rw [wr_k _ _ _ (by omega)]; exact q2 p q hp hq a b, fun c c1 c2 => by rw [wr_k _ _ _ c1]; exact q3 c c2⟩
    | succ k ih =>
      intro n i M' hi hn q0 q1 q2 q3
      obtain ⟨n, rfl⟩ : ∃ m, n = m + 1 := ⟨n - 1, by omega⟩
      have e1 : (6 : Int32) * nI N + nI i = nI (6 * N + i) := by rw [show (6 : Int32) = nI 6 from rfl, pk_mul, nI_add]
      have e2 : (6 : Int32) * nI i + nI N = nI (6 * i + N) := by rw [show (6 : Int32) = nI 6 from rfl, pk_mul, nI_add]
      have w56 : wr M' 60 (6 * N + i) 0 56 0 = nI N := by rw [wr_k _ _ _ (by omega), q0, h0]
      rw [f_X7_hat_b135, if_neg (show ¬ (6 : Int32) ≤ nI i from fun h => by have := (nI_le' (a := 6) (by omega) (by omega)).mp h; omega), q0, h0, e1, if_pos (inb_t (by omega) (by omega)), lt1_eq, cl_nI (by omega), w56, e2, if_pos (inb_t (by omega) (by omega)), lt1_eq, cl_nI (by omega), nI_1]
      refine ih n (i + 1) _ (by omega) (by omega) (by rw [wr_k _ _ _ (by omega), wr_k _ _ _ (by omega)]; exact q0) (fun q hq => ?_) (fun p q hp hq a b => by rw [wr_j _ _ _ (by omega), wr_j _ _ _ (by omega)]; exact q2 p q hp hq a b) (fun c hc => by rw [wr_k _ _ _ hc, wr_k _ _ _ hc]; exact q3 c hc)
      constructor
      · by_cases x : 6 * N + q = 6 * i + N
        · rw [x, wr_s]
        · rw [wr_j _ _ _ x]
          by_cases y : q = i
          · rw [y, wr_s]
          · rw [wr_j _ _ _ (by omega)]; exact (q1 q (by omega)).1
      · by_cases x : q = i
        · rw [x, wr_s]
        · rw [wr_j _ _ _ (by omega)]
          by_cases y : 6 * q + N = 6 * N + i
          · rw [y, wr_s]
          · rw [wr_j _ _ _ y]; exact (q1 q (by omega)).2
  exact key 6 FU 0 M (by omega) (by show _ < 4096; omega) rfl (fun q hq => by omega) (fun _ _ _ _ _ _ => rfl) (fun _ _ => rfl)
theorem s7_hat {I : Mem} {S : RS} (g : GS S) (a1 a2 a3 : Int32) (m : MR I S) : ∃ J, f_X7_hat a1 a2 a3 I = some ((hatR S a1 a2 a3).1, J) ∧ MR J (hatR S a1 a2 a3).2 ∧ (∀ c, (c < 56 ∨ 60 < c) → J c = I c) ∧ ∀ j, j ≠ 0 → J 56 j = I 56 j := by
  have m1 := m.1
  have hN := g.1
  rw [f_X7_hat, s7_in, bnd_some]
  unfold hatR
  by_cases h1 : wth a1 0 59 = 0
  · rw [if_pos h1, if_pos h1]; exact ⟨I, rfl, m, fun _ _ => rfl, fun _ _ => rfl⟩
  · rw [if_neg h1, if_neg h1, s7_in, bnd_some]
    by_cases h2 : wth a2 0 63 = 0
    · rw [if_pos h2, if_pos h2]; exact ⟨I, rfl, m, fun _ _ => rfl, fun _ _ => rfl⟩
    · rw [if_neg h2, if_neg h2, s7_in, bnd_some]
      by_cases h3 : wth a3 0 9999 = 0
      · rw [if_pos h3, if_pos h3]; exact ⟨I, rfl, m, fun _ _ => rfl, fun _ _ => rfl⟩
      · rw [if_neg h3, if_neg h3, m1]
        by_cases h6 : S.2.1 < 6
        · have hne : ¬ nI S.2.1 = (6 : Int32) := fun h => by have := (nI_eq' (b := 6) (by omega) (by omega)).mp h; omega
          have e2 : nI (4 * S.2.1) + (2 : Int32) = nI (4 * S.2.1 + 2) := nI_add _ 2
          have e3 : nI (4 * S.2.1) + (3 : Int32) = nI (4 * S.2.1 + 3) := nI_add _ 3
          rw [if_pos h6, if_neg hne, if_pos (inb_t h6 (by omega)), lt1_eq]
          simp (disch := omega) only [lt1_eq, wr_k, m1, fact4, nI_1, e2, e3, inb_t, cl_nI, if_true]
          generalize hM : wr (wr (wr (wr (wr (wr I 57 S.2.1 (a1 / 10)) 58 S.2.1 (a1 - a1 / 10 * 10)) 59 (4 * S.2.1) a2) 59 (4 * S.2.1 + 1) (a3 / 100)) 59 (4 * S.2.1 + 2) (a3 - a3 / 100 * 100)) 59 (4 * S.2.1 + 3) 0 = M
          have hE : ∀ c, c ≠ 57 → c ≠ 58 → c ≠ 59 → M c = I c := fun c c1 c2 c3 => by rw [← hM]; simp (disch := omega) only [wr_k]
          obtain ⟨K, e, k0, k1, k2, k3, k4⟩ := s7_hatL h6 a1 a2 a3 M (by rw [hE 56 (by omega) (by omega) (by omega)]; exact m1)
          obtain ⟨-, m2, m3, m4, m5⟩ := m
          refine ⟨K, e, ⟨k0, ?_, ?_, fun p hp => ?_, fun p q hp hq => ?_⟩, fun c hc => ?_, fun j hj => ?_⟩
          · rw [k1 _ (by omega), hE 56 (by omega) (by omega) (by omega)]; exact m2
          · rw [k1 _ (by omega), hE 56 (by omega) (by omega) (by omega)]; exact m3
          · have hp' : p < S.2.1 + 1 := hp
            rw [k4 57 (by omega) (by omega), k4 58 (by omega) (by omega), k4 59 (by omega) (by omega), ← hM]
            by_cases e : p = S.2.1
            · have z5 : (nhS S a1 a2 a3).1 5 p = 0 := nhS_z (Or.inl ⟨e, by omega⟩)
              rw [z5, e]
              simp (disch := omega) only [wr_k, wr_j, wr_s]
              exact ⟨by show _ = (if S.2.1 = S.2.1 then _ else _); rw [if_pos rfl, if_pos rfl], by show _ = (if S.2.1 = S.2.1 then _ else _); rw [if_pos rfl, if_neg (by omega), if_pos rfl], by show _ = (if S.2.1 = S.2.1 then _ else _); rw [if_pos rfl, if_neg (by omega), if_neg (by omega), if_pos rfl], by show _ = (if S.2.1 = S.2.1 then _ else _); rw [if_pos rfl, if_neg (by omega), if_neg (by omega), if_neg (by omega), if_pos rfl], by show _ = (if S.2.1 = S.2.1 then _ else _); rw [if_pos rfl, if_neg (by omega), if_neg (by omega), if_neg (by omega), if_neg (by omega), if_pos rfl], trivial⟩
            · rw [nhS_o (by omega) (by omega), nhS_o (by omega) (by omega), nhS_o (by omega) (by omega), nhS_o (by omega) (by omega), nhS_o (by omega) (by omega), nhS_o (by omega) (by omega)]
              simp (disch := omega) only [wr_k, wr_j]
              exact m4 p (by omega)
          · have hp' : p < S.2.1 + 1 := hp
            have hq' : q < S.2.1 + 1 := hq
            by_cases e : p = S.2.1 ∨ q = S.2.1
            · rw [nhS_z (by omega)]
              rcases e with rfl | rfl
              · exact (k2 q (by omega)).1
              · exact (k2 p (by omega)).2
            · rw [nhS_o (by omega) (by omega), k3 p q (by omega) (by omega) (by omega) (by omega), hE 60 (by omega) (by omega) (by omega)]
              exact m5 p q (by omega) (by omega)
          · rw [k4 c (by omega) (by omega)]; exact hE c (by omega) (by omega) (by omega)
          · rw [k1 j hj, hE 56 (by omega) (by omega) (by omega)]
        · rw [if_neg h6, if_pos (show nI S.2.1 = (6 : Int32) by rw [show S.2.1 = 6 by omega]; rfl)]
          exact ⟨I, rfl, m, fun _ _ => rfl, fun _ _ => rfl⟩
theorem p_hat (a1 a2 a3 : Int32) : Pair (f_X6_hat a1 a2 a3) (f_X7_hat a1 a2 a3) := by
  intro I hI
  obtain ⟨S, T, Bs, tp, tx, sh, im, hv⟩ := id hI
  obtain ⟨⟨c, m, g, r, z⟩, -, -, -, -, -, -⟩ := id hv
  obtain ⟨J, e, cJ, zJ, fJ⟩ := s6_hat g a1 a2 a3 c z
  obtain ⟨K, e2, mK, fK, fK2⟩ := s7_hat g a1 a2 a3 (MR_of (fun c _ _ => fJ c (by omega)) m)
  obtain ⟨gG, gl, gN, gk⟩ := hatR_G g a1 a2 a3
  refine ⟨(hatR S a1 a2 a3).1, J, K, e, e2, (hatR S a1 a2 a3).2, T, Bs, tp, tx, sh, im, IV_S hv (fun c h1 h2 h3 h4 => by rw [fK c (by omega)]; exact fJ c (by omega)) (fun j hj => by rw [fK2 j (by omega), fJ 56 (by omega)]) (CR_of (fun j hj => fK _ (by omega)) cJ) mK gG (by rw [gl]; exact r) (ZC_of (fK _ (by omega)) (fK _ (by omega)) zJ) (by rw [gl]) gN (fun p hp => ⟨gk 0 p (by omega) hp, gk 1 p (by omega) hp⟩)⟩
