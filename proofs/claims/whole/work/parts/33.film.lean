/-! PURE 24: film, image, back -/
theorem th_wr {J : Mem} {S : RS} {B : Bk} {c j : Nat} {v : Int32} (h : TH B J S) (hc : 48 ≤ c) : TH B (wr J c j v) S := ⟨h.1, CR_of (fun i hi => wr_k _ _ _ (by omega)) h.2.1, ZC_of (wr_k _ _ _ (by omega)) (wr_k _ _ _ (by omega)) h.2.2.1, ⟨fun k hk => by rw [wr_k _ _ _ (by have := h.1.2.1; omega)]; exact h.2.2.2.1 k hk, fun i hi => by rw [wr_k _ _ _ (by have := h.1.2.1; omega)]; exact h.2.2.2.2 i hi⟩⟩
def filmR (B : Bk) (S : RS) (p n : Nat) (j : Nat) : Int32 := if j < n then (itS B (j + 1) S).1 3 p else 0
theorem p_film (a a2 a3 : Int32) : Pair (f_X6_film a a2 a3) (f_X7_film a a2 a3) := by
  intro I hI
  obtain ⟨S, T, Bs, tp, tx, sh, im, hv⟩ := id hI
  obtain ⟨⟨c, m, g, r, z⟩, ⟨t1, t2, t3, t4, t5⟩, b, -, ⟨s1, s2, s3⟩, -, -⟩ := id hv
  have hN6 := g.1
  have c1 : I 2 8 = nI S.2.1 := c.1
  obtain ⟨b1, b2, b3⟩ := b S.2.2.2 t3
  rcases hat_or a (N := 4) (by omega) with ⟨σ, hσ, rfl, u⟩ | ⟨_, u⟩
  · have u' : wth (nI σ) 0 3 = 1 := u
    rcases hat_or a2 (N := S.2.1) (by omega) with ⟨p, hp, rfl, u2⟩ | ⟨_, u2⟩
    · rcases hat_or a3 (N := 21) (by omega) with ⟨n, hn, rfl, u3⟩ | ⟨_, u3⟩
      · have u3' : wth (nI n) 0 20 = 1 := u3
        -- the class films
        have keyC : ∀ (k n' i : Nat) (S' : RS) (J : Mem), i + k = n → k < n' → S' = itS (Bs S.2.2.2) i S → TH (Bs S.2.2.2) J S' → (∀ j, j < 40 → J (48 + 2 * σ + 1) j = if j < i then (itS (Bs S.2.2.2) (j + 1) S).1 3 p else 0) → ∃ K, f_X6_film_b52 (nI σ) (nI p) (nI n) n' (nI i) J = some (nI n, K) ∧ (∀ j, j < 40 → K (48 + 2 * σ + 1) j = filmR (Bs S.2.2.2) S p n j) ∧ ∀ c, (c < 10 ∨ 17 < c) → c ≠ 29 → c ≠ 48 + 2 * σ + 1 → K c = J c := by
          intro k
          induction k with
          | zero =>
            intro n' i S' J hi hn' hS h hr
            obtain ⟨n', rfl⟩ : ∃ m, n' = m + 1 := ⟨n' - 1, by omega⟩
            rw [f_X6_film_b52, if_pos ((nI_le' (by omega) (by omega)).mpr (by omega))]
            exact ⟨J, rfl, fun j hj => by rw [hr j hj, filmR, show i = n by omega], fun c _ _ _ => rfl⟩
          | succ k ih =>
            intro n' i S' J hi hn' hS h hr
            obtain ⟨n', rfl⟩ : ∃ m, n' = m + 1 := ⟨n' - 1, by omega⟩
            obtain ⟨gi, ai, bi, di⟩ := itS_G (B := Bs S.2.2.2) i S g (by omega)
            obtain ⟨J1, e1, h1, f1⟩ := th_play b1 h (by rw [hS, bi]; omega)
            have hs1 : rndS (Bs S.2.2.2) S' = itS (Bs S.2.2.2) (i + 1) S := by rw [itS_succ, hS]
            obtain ⟨gi', ai', bi', di'⟩ := itS_G (B := Bs S.2.2.2) (i + 1) S g (by omega)
            rw [hs1] at h1
            have h14 : J1 14 p = (itS (Bs S.2.2.2) (i + 1) S).1 3 p := (h1.2.1.2.2.2.1 p (by rw [ai']; exact hp)).2.2.2.1
            obtain ⟨K, e, k1, k2⟩ := ih n' (i + 1) (itS (Bs S.2.2.2) (i + 1) S) (wr J1 (48 + 2 * σ + 1) i (J1 14 p)) (by omega) (by omega) rfl (th_wr h1 (by omega)) (fun j hj => by
              by_cases q : j = i
              · rw [q, wr_s, if_pos (by omega), h14]
              · rw [wr_j _ _ _ q, f1 _ (by omega) (by omega), hr j hj]
                by_cases q2 : j < i
                · rw [if_pos q2, if_pos (by omega)]
                · rw [if_neg q2, if_neg (by omega)])
            rw [f_X6_film_b52, if_neg (by rw [nI_le' (by omega) (by omega)]; omega), e1, bnd_some, if_pos (inb_t (by omega) (by omega)), if_pos (inb_t (by omega) (by omega)), if_pos (inb_t (by omega) (by omega)), lt1_eq, cl_nI (by omega), cl_nI (by omega), cl_nI (by omega), nI_1]
            exact ⟨K, e, k1, fun c q1 q2 q3 => (k2 c q1 q2 q3).trans ((wr_k _ _ _ q3).trans (f1 c q2 (by omega)))⟩
        obtain ⟨C0, e0, x1, x2, x3, x4⟩ := s3_become (σ := σ) (a := 0) (n := n) (I := I)
        have cb0 : CB (Bs S.2.2.2) C0 S := ⟨g, CR_of (fun j hj => x4 _ (by omega) (by omega)) c, ZC_of (x4 _ (by omega) (by omega)) (x4 _ (by omega) (by omega)) z, ⟨fun k hk => by rw [x4 _ (by have := g.2.1; omega) (by have := g.2.1; omega)]; exact b2.1 k hk, fun i hi => by rw [x4 _ (by have := g.2.1; omega) (by have := g.2.1; omega)]; exact b2.2 i hi⟩⟩
        obtain ⟨C1, e1, h1, f1⟩ := cb_im cb0
        obtain ⟨J, e2, j1, j2⟩ := keyC n FU 0 S C1 (by omega) (by show _ < 4096; omega) rfl h1 (fun j hj => by rw [f1 _ (by omega) (by omega), x3 j hj, if_neg (by omega)])
        have jI : ∀ c, (c < 10 ∨ 17 < c) → c ≠ 29 → c ≠ 48 + 2 * σ → c ≠ 48 + 2 * σ + 1 → J c = I c := fun c q1 q2 q3 q4 => (j2 c q1 q2 q4).trans ((f1 c q2 (by omega)).trans (x4 c q3 q4))
        have jσ : J (48 + 2 * σ) 1 = 0 ∧ J (48 + 2 * σ) 2 = nI n := by
          have q : J (48 + 2 * σ) = C0 (48 + 2 * σ) := (j2 _ (by omega) (by omega) (by omega)).trans (f1 _ (by omega) (by omega))
          rw [q]
          exact ⟨x1, x2⟩
        -- the model films
        have mJ : MR (wr (wr J 66 σ 0) 67 σ (nI n)) S := MR_of (fun c q1 q2 => by rw [wr_k _ _ _ (by omega), wr_k _ _ _ (by omega)]; exact jI c (by omega) (by omega) (by omega) (by omega)) m
        have bJ : BM (wr (wr J 66 σ 0) 67 σ (nI n)) S.2.2.2 (Bs S.2.2.2) := ⟨fun k hk => by rw [wr_k _ _ _ (by omega), wr_k _ _ _ (by omega), jI _ (by omega) (by omega) (by omega) (by omega)]; exact b3.1 k hk, fun j hj => by rw [wr_k _ _ _ (by omega), wr_k _ _ _ (by omega), jI _ (by omega) (by omega) (by omega) (by omega)]; exact b3.2 j hj⟩
        obtain ⟨M0, d0, o0⟩ := mo_start g mJ bJ
        obtain ⟨-, n1, n2, n3, n4⟩ := id o0
        have keyM : ∀ (k n' i : Nat) (S' : RS) (J' : Mem), i + k = 40 → k < n' → (i ≤ n → S' = itS (Bs S.2.2.2) i S) → MR J' S' → (∀ c, c ≠ 56 → c ≠ 59 → c ≠ 60 → c ≠ 68 → c ≠ 72 → c ≠ 73 → J' c = M0 c) → (∀ j, j ≠ 5 → J' 56 j = M0 56 j) → (∀ j, j < i → J' 68 (40 * σ + j) = filmR (Bs S.2.2.2) S p n j) → (∀ j, (j < 40 * σ ∨ 40 * σ + 40 ≤ j) → J' 68 j = M0 68 j) → ∃ K, f_X7_film_b57 (nI σ) (nI p) (nI n) n' (nI i) J' = some (nI n, K) ∧ MR K S ∧ (∀ c, c ≠ 56 → c ≠ 59 → c ≠ 60 → c ≠ 68 → c ≠ 72 → c ≠ 73 → c ≠ 74 → K c = M0 c) ∧ (∀ j, j ≠ 5 → j ≠ 31 → K 56 j = M0 56 j) ∧ (∀ j, j < 40 → K 68 (40 * σ + j) = filmR (Bs S.2.2.2) S p n j) ∧ ∀ j, (j < 40 * σ ∨ 40 * σ + 40 ≤ j) → K 68 j = M0 68 j := by
          intro k
          induction k with
          | zero =>
            intro n' i S' J' hi hn' hS hM q1 q2 q3 q4
            obtain ⟨n', rfl⟩ : ∃ m, n' = m + 1 := ⟨n' - 1, by omega⟩
            have e74 : J' 74 = M0 74 := q1 74 (by omega) (by omega) (by omega) (by omega) (by omega) (by omega)
            obtain ⟨K, e, mK, kK, fK⟩ := s7_laysK (I := wr (wr J 66 σ 0) 67 σ (nI n)) (J := J') (S := S) (S' := S') hN6 mJ ⟨fun j hj => by rw [e74]; exact n3.1 j hj, fun j hj => by rw [e74]; exact n3.2.1 j hj, by rw [e74]; exact n3.2.2⟩ (by rw [q2 0 (by omega)]; exact n4.2 0 (by omega) (by omega)) (by rw [q2 11 (by omega)]; exact n4.2 11 (by omega) (by omega)) ⟨by rw [q1 57 (by omega) (by omega) (by omega) (by omega) (by omega) (by omega)]; exact n4.1 57 (by omega) (by omega) (by omega) (by omega) (by omega) (by omega), by rw [q1 58 (by omega) (by omega) (by omega) (by omega) (by omega) (by omega)]; exact n4.1 58 (by omega) (by omega) (by omega) (by omega) (by omega) (by omega)⟩
            have e68 : K 68 = J' 68 := fK.1 68 (by omega) (by omega) (by omega) (by omega) (by omega) (by omega)
            rw [f_X7_film_b57, show (40 : Int32) = nI 40 from rfl, if_pos ((nI_le' (by omega) (by omega)).mpr (by omega)), e, bnd_some]
            exact ⟨K, rfl, mK, fun c a1 a2 a3 a4 a5 a6 a7 => (fK.1 c a1 a2 a3 a5 a6 a7).trans (q1 c a1 a2 a3 a4 a5 a6), fun j a1 a2 => (fK.2 j a1 a2).trans (q2 j a1), fun j hj => by rw [e68]; exact q3 j (by omega), fun j hj => by rw [e68]; exact q4 j hj⟩
          | succ k ih =>
            intro n' i S' J' hi hn' hS hM q1 q2 q3 q4
            obtain ⟨n', rfl⟩ : ∃ m, n' = m + 1 := ⟨n' - 1, by omega⟩
            have k40 : (40 : Int32) * nI σ + nI i = nI (40 * σ + i) := by rw [show (40 : Int32) = nI 40 from rfl, pk_mul, nI_add]
            have hM1 : MR (wr J' 68 (40 * σ + i) 0) S' := MR_of (fun c _ _ => wr_k _ _ _ (by omega)) hM
            rw [f_X7_film_b57, if_neg (show ¬ (40 : Int32) ≤ nI i from fun h => by have := (nI_le' (a := 40) (by omega) (by omega)).mp h; omega), k40, if_pos (inb_t (by omega) (by omega)), lt1_eq, cl_nI (by omega)]
            by_cases hin : n ≤ i
            · rw [if_pos ((nI_le' (by omega) (by omega)).mpr hin), nI_1]
              exact ih n' (i + 1) S' _ (by omega) (by omega) (fun h => by omega) hM1 (fun c a1 a2 a3 a4 a5 a6 => (wr_k _ _ _ a4).trans (q1 c a1 a2 a3 a4 a5 a6)) (fun j hj => by rw [wr_k _ _ _ (by omega)]; exact q2 j hj) (fun j hj => by
                by_cases q : j = i
                · rw [q, wr_s, filmR, if_neg (by omega)]
                · rw [wr_j _ _ _ (by omega)]; exact q3 j (by omega)) (fun j hj => by rw [wr_j _ _ _ (by omega)]; exact q4 j hj)
            · have hSi : S' = itS (Bs S.2.2.2) i S := hS (by omega)
              obtain ⟨gi, ai, bi, di⟩ := itS_G (B := Bs S.2.2.2) i S g (by omega)
              obtain ⟨gi', ai', bi', di'⟩ := itS_G (B := Bs S.2.2.2) (i + 1) S g (by omega)
              have bmi : BM (wr J' 68 (40 * σ + i) 0) S'.2.2.2 (Bs S.2.2.2) := by
                rw [hSi, di]
                exact ⟨fun k hk => by rw [wr_k _ _ _ (by omega), q1 _ (by omega) (by omega) (by omega) (by omega) (by omega) (by omega)]; exact n2.1 k hk, fun j hj => by rw [wr_k _ _ _ (by omega), q1 _ (by omega) (by omega) (by omega) (by omega) (by omega) (by omega)]; exact n2.2 j hj⟩
              obtain ⟨J2, e2, m2, f2⟩ := s7_round (by rw [hSi]; exact gi) b1 bmi hM1
              have hs1 : rndS (Bs S.2.2.2) S' = itS (Bs S.2.2.2) (i + 1) S := by rw [itS_succ, hSi]
              rw [hs1] at m2
              have h59 := (m2.2.2.2.1 p (by rw [ai']; exact hp)).2.2.2.1
              rw [if_neg (by rw [nI_le' (by omega) (by omega)]; omega), e2, bnd_some, fact4, nI_1, lt1_eq, if_pos (inb_t (by omega) (by omega)), if_pos (inb_t (by omega) (by omega)), lt1_eq, cl_nI (by omega), nI_1, h59]
              have f68 : ∀ j, J2 68 j = wr J' 68 (40 * σ + i) 0 68 j := fun j => by rw [f2.1 68 (by omega) (by omega) (by omega) (by omega) (by omega)]
              exact ih n' (i + 1) (itS (Bs S.2.2.2) (i + 1) S) _ (by omega) (by omega) (fun h => rfl) (MR_of (fun c _ _ => wr_k _ _ _ (by omega)) m2) (fun c a1 a2 a3 a4 a5 a6 => by rw [wr_k _ _ _ a4, f2.1 c a1 a2 a3 a5 a6, wr_k _ _ _ a4]; exact q1 c a1 a2 a3 a4 a5 a6) (fun j hj => by rw [wr_k _ _ _ (by omega), f2.2 j hj, wr_k _ _ _ (by omega)]; exact q2 j hj) (fun j hj => by
                by_cases q : j = i
                · rw [q, wr_s, filmR, if_pos (by omega)]
                · rw [wr_j _ _ _ (by omega), f68, wr_j _ _ _ (by omega)]; exact q3 j (by omega)) (fun j hj => by rw [wr_j _ _ _ (by omega), f68, wr_j _ _ _ (by omega)]; exact q4 j hj)
        obtain ⟨K, d1, mK, k1, k2, k3, k4⟩ := keyM 40 FU 0 S M0 (by omega) (by show _ < 4096; omega) (fun _ => rfl) n1 (fun c _ _ _ _ _ _ => rfl) (fun j _ => rfl) (fun j hj => by omega) (fun j _ => rfl)
        have m0w : ∀ c, c ≠ 56 → c ≠ 59 → c ≠ 60 → c ≠ 72 → c ≠ 73 → c ≠ 74 → M0 c = wr (wr J 66 σ 0) 67 σ (nI n) c := fun c a1 a2 a3 a4 a5 a6 => n4.1 c a1 a2 a3 a4 a5 a6
        have kw : ∀ c, c ≠ 56 → c ≠ 59 → c ≠ 60 → c ≠ 68 → c ≠ 72 → c ≠ 73 → c ≠ 74 → K c = wr (wr J 66 σ 0) 67 σ (nI n) c := fun c a1 a2 a3 a4 a5 a6 a7 => (k1 c a1 a2 a3 a4 a5 a6 a7).trans (m0w c a1 a2 a3 a5 a6 a7)
        have kJ : ∀ c, c < 56 → K c = J c := fun c h => by rw [kw c (by omega) (by omega) (by omega) (by omega) (by omega) (by omega) (by omega), wr_k _ _ _ (by omega), wr_k _ _ _ (by omega)]
        refine ⟨nI n, J, K, ?_, ?_, S, T, Bs, tp, tx, shSet sh σ (0, n, filmR (Bs S.2.2.2) S p n), im, IV_sh hv (fun c q1 q2 q3 q4 q5 q6 => ?_) (fun j hj => ?_) mK ⟨ShC_set s1 (fun c q1 q2 q3 q4 => ?_) ?_ ?_ (fun k hk => ?_), ShM_set s2 (fun τ hτ => ⟨?_, ?_⟩) (fun j hj => ?_) ?_ ?_ k3, ShG_set s3 ⟨by show -1 ≤ (0 : Int32).toInt; decide, by show (0 : Int32).toInt ≤ 2; decide, by show n ≤ 40; omega⟩⟩⟩
        · rw [f_X6_film, s6_isSheet, bnd_some, u', if_neg (by decide), s6_isHat, bnd_some, c1, u2, if_neg (by decide), s6_within, bnd_some, u3', if_neg (by decide), if_pos (inb_t (by omega) (by omega)), cl_nI (by omega), e0, bnd_some, e1, bnd_some]
          exact e2
        · have mj0 : J 56 0 = nI S.2.1 := by rw [jI 56 (by omega) (by omega) (by omega) (by omega)]; exact m.1
          rw [f_X7_film, s7_in, bnd_some, u', if_neg (by decide), s7_isOne, bnd_some, mj0, u2, if_neg (by decide), s7_in, bnd_some, u3', if_neg (by decide), if_pos (inb_t (by omega) (by omega)), lt1_eq, if_pos (inb_t (by omega) (by omega)), lt1_eq, cl_nI (by omega), d0, bnd_some]
          exact d1
        · rcases (show c < 56 ∨ 56 < c by omega) with h | h
          · rw [kJ c h]; exact jI c (by omega) (by omega) (by omega) (by omega)
          · rw [kw c (by omega) (by omega) (by omega) (by omega) (by omega) (by omega) (by omega), wr_k _ _ _ (by omega), wr_k _ _ _ (by omega)]
            exact jI c (by omega) (by omega) (by omega) (by omega)
        · rw [k2 j (by omega) (by omega), n4.2 j (by omega) (by omega), wr_k _ _ _ (by omega), wr_k _ _ _ (by omega), jI 56 (by omega) (by omega) (by omega) (by omega)]
        · rw [kJ c (by omega)]; exact jI c (by omega) (by omega) q3 q4
        · rw [kJ _ (by omega)]; exact jσ.1
        · rw [kJ _ (by omega)]; exact jσ.2
        · rw [kJ _ (by omega)]; exact j1 k hk
        · rw [kw 66 (by omega) (by omega) (by omega) (by omega) (by omega) (by omega) (by omega), wr_k _ _ _ (by omega), wr_j _ _ _ hτ, jI 66 (by omega) (by omega) (by omega) (by omega)]
        · rw [kw 67 (by omega) (by omega) (by omega) (by omega) (by omega) (by omega) (by omega), wr_j _ _ _ hτ, wr_k _ _ _ (by omega), jI 67 (by omega) (by omega) (by omega) (by omega)]
        · rw [k4 j hj, m0w 68 (by omega) (by omega) (by omega) (by omega) (by omega) (by omega), wr_k _ _ _ (by omega), wr_k _ _ _ (by omega), jI 68 (by omega) (by omega) (by omega) (by omega)]
        · rw [kw 66 (by omega) (by omega) (by omega) (by omega) (by omega) (by omega) (by omega), wr_k _ _ _ (by omega), wr_s]
        · rw [kw 67 (by omega) (by omega) (by omega) (by omega) (by omega) (by omega) (by omega), wr_s]
      · have u3' : wth a3 0 20 = 0 := u3
        exact ⟨-7, I, I, by rw [f_X6_film, s6_isSheet, bnd_some, u', if_neg (by decide), s6_isHat, bnd_some, c1, u2, if_neg (by decide), s6_within, bnd_some, u3', if_pos rfl], by rw [f_X7_film, s7_in, bnd_some, u', if_neg (by decide), s7_isOne, bnd_some, m.1, u2, if_neg (by decide), s7_in, bnd_some, u3', if_pos rfl], hI⟩
    · exact ⟨-5, I, I, by rw [f_X6_film, s6_isSheet, bnd_some, u', if_neg (by decide), s6_isHat, bnd_some, c1, u2, if_pos rfl], by rw [f_X7_film, s7_in, bnd_some, u', if_neg (by decide), s7_isOne, bnd_some, m.1, u2, if_pos rfl], hI⟩
  · have u' : wth a 0 3 = 0 := u
    exact ⟨-2, I, I, by rw [f_X6_film, s6_isSheet, bnd_some, u', if_pos rfl], by rw [f_X7_film, s7_in, bnd_some, u', if_pos rfl], hI⟩
