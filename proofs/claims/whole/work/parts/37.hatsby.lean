/-! PURE 28: hatsBy, feed -/
/-- hats by a sheet: row, size, start (told or not) -/
def hbR (row : Nat → Int32) (z s0 : Nat) (b : Bool) : Nat → Nat → Nat → RS → Int32 × RS
  | 0, _, cnt, S => (nI cnt, S)
  | k + 1, i, cnt, S => if b = true ∧ s0 + 3 * i + 3 ≤ z then hbR row z s0 b k (i + 1) (if (hatR S (row (s0 + 3 * i)) (row (s0 + 3 * i + 1)) (row (s0 + 3 * i + 2))).1 < 0 then cnt else cnt + 1) (hatR S (row (s0 + 3 * i)) (row (s0 + 3 * i + 1)) (row (s0 + 3 * i + 2))).2 else (-12, S)
theorem hbR_G {row : Nat → Int32} {z s0 : Nat} {b : Bool} : ∀ (k i cnt : Nat) (S : RS), GS S → GS (hbR row z s0 b k i cnt S).2 ∧ (hbR row z s0 b k i cnt S).2.2.2 = S.2.2 ∧ S.2.1 ≤ (hbR row z s0 b k i cnt S).2.2.1 ∧ ∀ f p, f < 2 → p < S.2.1 → (hbR row z s0 b k i cnt S).2.1 f p = S.1 f p
  | 0, i, cnt, S, g => ⟨g, rfl, Nat.le_refl _, fun _ _ _ _ => rfl⟩
  | k + 1, i, cnt, S, g => by
    rw [hbR]
    by_cases h : b = true ∧ s0 + 3 * i + 3 ≤ z
    · rw [if_pos h]
      obtain ⟨g1, g2, g3, g4⟩ := hatR_G g (row (s0 + 3 * i)) (row (s0 + 3 * i + 1)) (row (s0 + 3 * i + 2))
      obtain ⟨h1, h2, h3, h4⟩ := hbR_G (row := row) (z := z) (s0 := s0) (b := b) k (i + 1) (if (hatR S (row (s0 + 3 * i)) (row (s0 + 3 * i + 1)) (row (s0 + 3 * i + 2))).1 < 0 then cnt else cnt + 1) _ g1
      exact ⟨h1, h2.trans g2, Nat.le_trans g3 h3, fun f p hf hp => (h4 f p hf (by omega)).trans (g4 f p hf hp)⟩
    · rw [if_neg h]; exact ⟨g, rfl, Nat.le_refl _, fun _ _ _ _ => rfl⟩
theorem ti_m3 {z : Nat} (hz : z ≤ 40) : (nI z - 3).toInt = (z : Int) - 3 := by
  rw [ti_sub] <;> rw [ti_nI (by omega), show (3 : Int32).toInt = 3 from rfl] <;> omega
theorem w_m3 {s z : Nat} (hs : s < 1000) (hz : z ≤ 40) : wth (nI s) 0 (nI z - 3) = if s + 3 ≤ z then 1 else 0 := by
  have h0 : (0 : Int32) ≤ nI s := by rw [i_le, ti_nI (by omega), show (0 : Int32).toInt = 0 from rfl]; omega
  rw [wth, if_pos h0]
  by_cases h : s + 3 ≤ z
  · rw [if_pos h, if_pos (by rw [i_le, ti_m3 hz, ti_nI (by omega)]; omega)]
  · rw [if_neg h, if_neg (by rw [i_le, ti_m3 hz, ti_nI (by omega)]; omega)]
theorem p_hatsBy (a a2 a3 a4 : Int32) : Pair (f_X6_hatsBy a a2 a3 a4) (f_X7_hatsBy a a2 a3 a4) := by
  intro I hI
  obtain ⟨S, T, Bs, tp, tx, sh, im, hv⟩ := id hI
  obtain ⟨⟨c, m, g, r, z⟩, -, -, -, ⟨s1, s2, s3⟩, -, -⟩ := id hv
  rcases hat_or a (N := 4) (by omega) with ⟨σ, hσ, rfl, u⟩ | ⟨_, u⟩
  · have u' : wth (nI σ) 0 3 = 1 := u
    obtain ⟨c1, c2, c3⟩ := s1 σ hσ
    obtain ⟨m1, m2, m3⟩ := s2 σ hσ
    have hg := s3 σ hσ
    by_cases w2 : wth a2 0 2 = 0
    · exact ⟨-2, I, I, by rw [f_X6_hatsBy, s6_isSheet, bnd_some, u', if_neg (by decide), s6_isSort, bnd_some, if_pos w2], by rw [f_X7_hatsBy, s7_in, bnd_some, u', if_neg (by decide), s7_in, bnd_some, if_pos w2], hI⟩
    · rcases hat_or a4 (N := 7) (by omega) with ⟨n, hn, rfl, u4⟩ | ⟨_, u4⟩
      · have u4' : wth (nI n) 0 6 = 1 := u4
        by_cases hm : (sh σ).1 = -1
        · exact ⟨-11, I, I, by rw [f_X6_hatsBy, s6_isSheet, bnd_some, u', if_neg (by decide), s6_isSort, bnd_some, if_neg w2, s6_within, bnd_some, u4', if_neg (by decide), if_pos (inb_t (by omega) (by omega)), cl_nI (by omega), s3_isMissing, bnd_some, c1, if_pos hm, if_neg (by decide)], by rw [f_X7_hatsBy, s7_in, bnd_some, u', if_neg (by decide), s7_in, bnd_some, if_neg w2, s7_in, bnd_some, u4', if_neg (by decide), if_pos (inb_t (by omega) (by omega)), cl_nI (by omega), m1, if_pos hm], hI⟩
        · by_cases hs : (sh σ).1 = a2
          · have eC : f_X6_hatsBy (nI σ) a2 a3 (nI n) I = f_X6_hatsBy_b65 (nI σ) a2 a3 (nI n) FU 0 0 σ I := by
              rw [f_X6_hatsBy, s6_isSheet, bnd_some, u', if_neg (by decide), s6_isSort, bnd_some, if_neg w2, s6_within, bnd_some, u4', if_neg (by decide), if_pos (inb_t (by omega) (by omega)), cl_nI (by omega), s3_isMissing, bnd_some, c1, if_neg hm, if_pos rfl, if_pos hs]
            have eM : ∀ J, J 66 σ = (sh σ).1 → f_X7_hatsBy (nI σ) a2 a3 (nI n) J = f_X7_hatsBy_b64 (nI σ) a2 a3 (nI n) FU 0 0 J := by
              intro J hJ
              rw [f_X7_hatsBy, s7_in, bnd_some, u', if_neg (by decide), s7_in, bnd_some, if_neg w2, s7_in, bnd_some, u4', if_neg (by decide), if_pos (inb_t (by omega) (by omega)), cl_nI (by omega), hJ, if_neg hm, if_pos (inb_t (by omega) (by omega)), if_pos hs]
            -- the start: told or not
            have hA : ∃ (s0 : Nat) (b : Bool), s0 ≤ 40 ∧ (b = true ∧ a3 = nI s0 ∧ wth a3 0 (nI (sh σ).2.1) = 1 ∨ b = false ∧ wth a3 0 (nI (sh σ).2.1) = 0) := by
              rcases hat_or a3 (N := (sh σ).2.1 + 1) (by omega) with ⟨s0, hs0, e, w⟩ | ⟨_, w⟩
              · rw [nI_sub1 (by omega)] at w
                exact ⟨s0, true, by omega, Or.inl ⟨rfl, e, w⟩⟩
              · rw [nI_sub1 (by omega)] at w
                exact ⟨0, false, by omega, Or.inr ⟨rfl, w⟩⟩
            obtain ⟨s0, b, hs0, hA⟩ := hA
            have keyC : ∀ (k n' i cnt : Nat) (S : RS) (J : Mem), i + k = n → k < n' → GS S → CR J 0 S → ZC J 0 S.2.1 → (∀ c, (c < 2 ∨ 9 < c) → J c = I c) → ∃ K, f_X6_hatsBy_b65 (nI σ) a2 a3 (nI n) n' (nI i) (nI cnt) σ J = some ((hbR (sh σ).2.2 (sh σ).2.1 s0 b k i cnt S).1, K) ∧ CR K 0 (hbR (sh σ).2.2 (sh σ).2.1 s0 b k i cnt S).2 ∧ ZC K 0 (hbR (sh σ).2.2 (sh σ).2.1 s0 b k i cnt S).2.2.1 ∧ ∀ c, (c < 2 ∨ 9 < c) → K c = I c := by
              intro k
              induction k with
              | zero =>
                intro n' i cnt S J hi hn' g c z f
                obtain ⟨n', rfl⟩ : ∃ m, n' = m + 1 := ⟨n' - 1, by omega⟩
                rw [f_X6_hatsBy_b65, if_pos ((nI_le' (by omega) (by omega)).mpr (by omega))]
                exact ⟨J, rfl, c, z, f⟩
              | succ k ih =>
                intro n' i cnt S J hi hn' g c z f
                obtain ⟨n', rfl⟩ : ∃ m, n' = m + 1 := ⟨n' - 1, by omega⟩
                have z2 : J (48 + 2 * σ) 2 = nI (sh σ).2.1 := by rw [f _ (by omega)]; exact c2
                have row : ∀ k, k < 40 → J (48 + 2 * σ + 1) k = (sh σ).2.2 k := fun k hk => by rw [f _ (by omega)]; exact c3 k hk
                rw [f_X6_hatsBy_b65, if_neg (by rw [nI_le' (by omega) (by omega)]; omega), z2, s6_within, bnd_some, hbR]
                rcases hA with ⟨hb, ha, w⟩ | ⟨hb, w⟩
                · have k3 : a3 + (3 : Int32) * nI i = nI (s0 + 3 * i) := by rw [ha, show (3 : Int32) = nI 3 from rfl, pk_mul, nI_add]
                  rw [w, if_neg (by decide), k3, f_X6_hatsBy_b95, z2, s6_within, bnd_some, w_m3 (by omega) (by omega)]
                  by_cases hz : s0 + 3 * i + 3 ≤ (sh σ).2.1
                  · have e2 : nI (s0 + 3 * i) + (2 : Int32) = nI (s0 + 3 * i + 2) := nI_add _ 2
                    rw [if_pos hz, if_neg (by decide), if_pos (show b = true ∧ s0 + 3 * i + 3 ≤ (sh σ).2.1 from ⟨hb, hz⟩), show nI (s0 + 3 * i) + (1 : Int32) = nI (s0 + 3 * i + 1) from nI_add _ 1, e2, if_pos (inb_t (by omega) (by omega)), if_pos (inb_t (by omega) (by omega)), if_pos (inb_t (by omega) (by omega)), cl_nI (by omega), cl_nI (by omega), cl_nI (by omega), row _ (by omega), row _ (by omega), row _ (by omega)]
                    obtain ⟨J2, e, cJ, zJ, fJ⟩ := s6_hat g ((sh σ).2.2 (s0 + 3 * i)) ((sh σ).2.2 (s0 + 3 * i + 1)) ((sh σ).2.2 (s0 + 3 * i + 2)) c z
                    obtain ⟨gG, gl, gN, gk⟩ := hatR_G g ((sh σ).2.2 (s0 + 3 * i)) ((sh σ).2.2 (s0 + 3 * i + 1)) ((sh σ).2.2 (s0 + 3 * i + 2))
                    have f2 : ∀ c, (c < 2 ∨ 9 < c) → J2 c = I c := fun c hc => (fJ c hc).trans (f c hc)
                    rw [e, bnd_some, nI_1]
                    by_cases hl : (hatR S ((sh σ).2.2 (s0 + 3 * i)) ((sh σ).2.2 (s0 + 3 * i + 1)) ((sh σ).2.2 (s0 + 3 * i + 2))).1 < 0
                    · rw [if_pos hl, if_pos hl]
                      exact ih n' (i + 1) cnt _ J2 (by omega) (by omega) gG cJ zJ f2
                    · rw [if_neg hl, if_neg hl, nI_1]
                      exact ih n' (i + 1) (cnt + 1) _ J2 (by omega) (by omega) gG cJ zJ f2
                  · rw [if_neg hz, if_pos rfl, if_neg (fun h => hz h.2)]
                    exact ⟨J, rfl, c, z, f⟩
                · have wm : wth (-1) 0 (nI (sh σ).2.1 - 3) = 0 := by rw [wth, if_neg (by decide)]
                  rw [w, if_pos rfl, f_X6_hatsBy_b95, z2, s6_within, bnd_some, wm, if_pos rfl, if_neg (fun h => by rw [hb] at h; exact absurd h.1 (by decide))]
                  exact ⟨J, rfl, c, z, f⟩
            obtain ⟨J, e, cJ, zJ, fJ⟩ := keyC n FU 0 0 S I (by omega) (by show _ < 4096; omega) g c z (fun _ _ => rfl)
            have keyM : ∀ (k n' i cnt : Nat) (S : RS) (M : Mem), i + k = n → k < n' → GS S → MR M S → (∀ c, (c < 56 ∨ 60 < c) → M c = J c) → (∀ j, j ≠ 0 → M 56 j = J 56 j) → ∃ K, f_X7_hatsBy_b64 (nI σ) a2 a3 (nI n) n' (nI i) (nI cnt) M = some ((hbR (sh σ).2.2 (sh σ).2.1 s0 b k i cnt S).1, K) ∧ MR K (hbR (sh σ).2.2 (sh σ).2.1 s0 b k i cnt S).2 ∧ (∀ c, (c < 56 ∨ 60 < c) → K c = J c) ∧ ∀ j, j ≠ 0 → K 56 j = J 56 j := by
              intro k
              induction k with
              | zero =>
                intro n' i cnt S M hi hn' g mM f f5
                obtain ⟨n', rfl⟩ : ∃ m, n' = m + 1 := ⟨n' - 1, by omega⟩
                rw [f_X7_hatsBy_b64, if_pos ((nI_le' (by omega) (by omega)).mpr (by omega))]
                exact ⟨M, rfl, mM, f, f5⟩
              | succ k ih =>
                intro n' i cnt S M hi hn' g mM f f5
                obtain ⟨n', rfl⟩ : ∃ m, n' = m + 1 := ⟨n' - 1, by omega⟩
                have z2 : M 67 σ = nI (sh σ).2.1 := by rw [f _ (by omega), fJ _ (by omega)]; exact m2
                have row : ∀ k, k < 40 → M 68 (40 * σ + k) = (sh σ).2.2 k := fun k hk => by rw [f _ (by omega), fJ _ (by omega)]; exact m3 k hk
                rw [f_X7_hatsBy_b64, if_neg (by rw [nI_le' (by omega) (by omega)]; omega), lt1_eq, hbR, if_pos (inb_t (p := σ) (by omega) (by omega)), cl_nI (n := σ) (by omega), z2]
                rcases hA with ⟨hb, ha, w⟩ | ⟨hb, w⟩
                · have k3 : a3 + (3 : Int32) * nI i = nI (s0 + 3 * i) := by rw [ha, show (3 : Int32) = nI 3 from rfl, pk_mul, nI_add]
                  have n1 : ¬ a3 < 0 := by rw [ha, i_lt, ti_nI (by omega), show (0 : Int32).toInt = 0 from rfl]; omega
                  have n2 : ¬ nI (s0 + 3 * i) < a3 := by rw [ha, nI_lt' (by omega) (by omega)]; omega
                  rw [k3, if_neg n1, if_neg n2]
                  by_cases hz : s0 + 3 * i + 3 ≤ (sh σ).2.1
                  · have l3 : nI (s0 + 3 * i) ≤ nI (sh σ).2.1 - 3 := by rw [i_le, ti_m3 (by omega), ti_nI (by omega)]; omega
                    have e0 : (40 : Int32) * nI σ + nI (s0 + 3 * i) = nI (40 * σ + (s0 + 3 * i)) := by rw [show (40 : Int32) = nI 40 from rfl, pk_mul, nI_add]
                    have e2 : nI (40 * σ + (s0 + 3 * i)) + (2 : Int32) = nI (40 * σ + (s0 + 3 * i + 2)) := nI_add _ 2
                    have e1 : nI (40 * σ + (s0 + 3 * i)) + (1 : Int32) = nI (40 * σ + (s0 + 3 * i + 1)) := nI_add _ 1
                    rw [if_pos l3, if_pos (show b = true ∧ s0 + 3 * i + 3 ≤ (sh σ).2.1 from ⟨hb, hz⟩), lt1_eq, e0, e1, e2, if_pos (inb_t (by omega) (by omega)), if_pos (inb_t (by omega) (by omega)), if_pos (inb_t (by omega) (by omega)), cl_nI (by omega), cl_nI (by omega), cl_nI (by omega), row _ (by omega), row _ (by omega), row _ (by omega)]
                    obtain ⟨M2, e, mJ, q1, q2⟩ := s7_hat g ((sh σ).2.2 (s0 + 3 * i)) ((sh σ).2.2 (s0 + 3 * i + 1)) ((sh σ).2.2 (s0 + 3 * i + 2)) mM
                    obtain ⟨gG, gl, gN, gk⟩ := hatR_G g ((sh σ).2.2 (s0 + 3 * i)) ((sh σ).2.2 (s0 + 3 * i + 1)) ((sh σ).2.2 (s0 + 3 * i + 2))
                    rw [e, bnd_some]
                    by_cases hl : (hatR S ((sh σ).2.2 (s0 + 3 * i)) ((sh σ).2.2 (s0 + 3 * i + 1)) ((sh σ).2.2 (s0 + 3 * i + 2))).1 < 0
                    · rw [if_pos hl, if_pos hl, f_X7_hatsBy_b153, lt1_eq, show nI cnt + (0 : Int32) = nI cnt from nI_add _ 0, nI_1]
                      exact ih n' (i + 1) cnt _ M2 (by omega) (by omega) gG mJ (fun c hc => (q1 c hc).trans (f c hc)) (fun j hj => (q2 j hj).trans (f5 j hj))
                    · rw [if_neg hl, if_neg hl, f_X7_hatsBy_b153, lt1_eq, nI_1, nI_1]
                      exact ih n' (i + 1) (cnt + 1) _ M2 (by omega) (by omega) gG mJ (fun c hc => (q1 c hc).trans (f c hc)) (fun j hj => (q2 j hj).trans (f5 j hj))
                  · have l3 : ¬ nI (s0 + 3 * i) ≤ nI (sh σ).2.1 - 3 := by rw [i_le, ti_m3 (by omega), ti_nI (by omega)]; omega
                    rw [if_neg l3, if_neg (fun h => hz h.2)]
                    exact ⟨M, rfl, mM, f, f5⟩
                · rw [if_neg (show ¬ (b = true ∧ s0 + 3 * i + 3 ≤ (sh σ).2.1) from fun h => by rw [hb] at h; exact absurd h.1 (by decide))]
                  refine ⟨M, ?_, mM, f, f5⟩
                  by_cases n1 : a3 < 0
                  · rw [if_pos n1]
                  · by_cases n2 : a3 + (3 : Int32) * nI i < a3
                    · rw [if_neg n1, if_pos n2]
                    · have hgt : ¬ a3 ≤ nI (sh σ).2.1 := by
                        intro hle
                        have h0 : (0 : Int32) ≤ a3 := by
                          rw [i_le]; rw [i_lt] at n1; omega
                        rw [wth, if_pos h0, if_pos hle] at w
                        exact absurd w (by decide)
                      have l3 : ¬ a3 + (3 : Int32) * nI i ≤ nI (sh σ).2.1 - 3 := by
                        rw [i_le, ti_m3 (by omega)]
                        rw [i_lt] at n2
                        rw [i_le, ti_nI (by omega)] at hgt
                        omega
                      rw [if_neg n1, if_neg n2, if_neg l3]
            obtain ⟨K, e2, mK, fK, fK2⟩ := keyM n FU 0 0 S J (by omega) (by show _ < 4096; omega) g (MR_of (fun c _ _ => fJ c (by omega)) m) (fun _ _ => rfl) (fun _ _ => rfl)
            obtain ⟨gG, gl, gN, gk⟩ := hbR_G (row := (sh σ).2.2) (z := (sh σ).2.1) (s0 := s0) (b := b) n 0 0 S g
            refine ⟨_, J, K, eC.trans e, (eM J (by rw [fJ _ (by omega)]; exact m1)).trans e2, (hbR (sh σ).2.2 (sh σ).2.1 s0 b n 0 0 S).2, T, Bs, tp, tx, sh, im, IV_S hv (fun c h1 h2 h3 h4 => by rw [fK c (by omega)]; exact fJ c (by omega)) (fun j hj => by rw [fK2 j (by omega), fJ 56 (by omega)]) (CR_of (fun j hj => fK _ (by omega)) cJ) mK gG (by rw [gl]; exact r) (ZC_of (fK _ (by omega)) (fK _ (by omega)) zJ) (by rw [gl]) gN (fun p hp => ⟨gk 0 p (by omega) hp, gk 1 p (by omega) hp⟩)⟩
          · exact ⟨-13, I, I, by rw [f_X6_hatsBy, s6_isSheet, bnd_some, u', if_neg (by decide), s6_isSort, bnd_some, if_neg w2, s6_within, bnd_some, u4', if_neg (by decide), if_pos (inb_t (by omega) (by omega)), cl_nI (by omega), s3_isMissing, bnd_some, c1, if_neg hm, if_pos rfl, if_neg hs], by rw [f_X7_hatsBy, s7_in, bnd_some, u', if_neg (by decide), s7_in, bnd_some, if_neg w2, s7_in, bnd_some, u4', if_neg (by decide), if_pos (inb_t (by omega) (by omega)), cl_nI (by omega), m1, if_neg hm, if_pos (inb_t (by omega) (by omega)), if_neg hs], hI⟩
      · have u4' : wth a4 0 6 = 0 := u4
        exact ⟨-2, I, I, by rw [f_X6_hatsBy, s6_isSheet, bnd_some, u', if_neg (by decide), s6_isSort, bnd_some, if_neg w2, s6_within, bnd_some, u4', if_pos rfl], by rw [f_X7_hatsBy, s7_in, bnd_some, u', if_neg (by decide), s7_in, bnd_some, if_neg w2, s7_in, bnd_some, u4', if_pos rfl], hI⟩
  · have u' : wth a 0 3 = 0 := u
    exact ⟨-2, I, I, by rw [f_X6_hatsBy, s6_isSheet, bnd_some, u', if_pos rfl], by rw [f_X7_hatsBy, s7_in, bnd_some, u', if_pos rfl], hI⟩
