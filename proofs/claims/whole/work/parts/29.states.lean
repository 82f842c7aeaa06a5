/-! PURE 20: states, places -/
def staG (B : Bk) (c : Nat → Int32) (p z : Nat) (S : RS) (w : Nat) (i : Nat) (y : Int32 × Nat) : Int32 × Nat := if foS B c p z 0 (setf S (2 + w) p (nI i)) = -1 then (if y.2 = 0 then nI i else y.1, y.2 + 1) else y
theorem p_states (a a2 a3 a4 : Int32) : Pair (f_X6_states a a2 a3 a4) (f_X7_states a a2 a3 a4) := by
  intro I hI
  obtain ⟨S, T, Bs, tp, tx, sh, im, hv⟩ := id hI
  obtain ⟨⟨c, m, g, r, z⟩, ⟨t1, t2, t3, t4, t5⟩, b, -, ⟨s1, s2, s3⟩, -, -⟩ := id hv
  have hN6 := g.1
  obtain ⟨b1, b2, b3⟩ := b S.2.2.2 t3
  rcases sh_or2 a a2 s1 s3 c.1 hN6 with ⟨σ, p, hσ, rfl, hz, hp, rfl, e, e2⟩ | ⟨v, hv0, e, e2⟩
  · have h12 : (∃ w, (w = 1 ∨ w = 2) ∧ a3 = nI w ∧ wth a3 1 2 = 1) ∨ wth a3 1 2 = 0 := by
      rcases wth_01 a3 1 2 with h | h
      · exact Or.inr h
      · refine Or.inl ?_
        by_cases h1 : (1 : Int32) ≤ a3
        · by_cases h2 : a3 ≤ 2
          · have g1 := (i_le _ _).mp h1
            have g2 := (i_le _ _).mp h2
            rw [show (1 : Int32).toInt = 1 from rfl] at g1
            rw [show (2 : Int32).toInt = 2 from rfl] at g2
            obtain ⟨n, hn, e, e2⟩ := nI_of_toInt (x := a3) (by omega)
            exact ⟨n, by omega, e, h⟩
          · rw [wth, if_pos h1, if_neg h2] at h
            exact absurd h (by decide)
        · rw [wth, if_neg h1] at h
          exact absurd h (by decide)
    rcases h12 with ⟨w, hw, rfl, u⟩ | u
    · rcases hat_or a4 (N := 2) (by omega) with ⟨o, ho, rfl, u3⟩ | ⟨_, u3⟩
      · have u3' : wth (nI o) 0 1 = 1 := u3
        have hGB : ∀ i, i < 100 → GB (2 + w) (nI i) := by
          intro i hi
          refine ⟨by rw [ti_nI (by omega)]; omega, ?_⟩
          rw [ti_nI (by omega), if_neg (by omega), if_neg (by omega), if_neg (by omega)]
          omega
        have keyC : ∀ (k n i : Nat) (y : Int32 × Nat) (J : Mem), i + k = 100 → y.2 ≤ i → k < n → CS (Bs S.2.2.2) sh J S → ∃ K, f_X6_states_b71 (nI σ) (nI p) (nI w) (nI o) n (nI i) y.1 (nI y.2) (13 + w) J = some (if nI o = 0 then nI (lp (staG (Bs S.2.2.2) (sh σ).2.2 p (sh σ).2.1 S w) k i y).2 else (lp (staG (Bs S.2.2.2) (sh σ).2.2 p (sh σ).2.1 S w) k i y).1, K) ∧ FrC 1 J K := by
          intro k
          induction k with
          | zero =>
            intro n i y J hi hy hn h
            obtain ⟨n, rfl⟩ : ∃ m, n = m + 1 := ⟨n - 1, by omega⟩
            rw [f_X6_states_b71, show (99 : Int32) = nI 99 from rfl, if_pos ((nI_lt' (by omega) (by omega)).mpr (by omega)), some_if]
            exact ⟨J, rfl, FrC.rf⟩
          | succ k ih =>
            intro n i y J hi hy hn h
            obtain ⟨n, rfl⟩ : ∃ m, n = m + 1 := ⟨n - 1, by omega⟩
            obtain ⟨J1, d1, w1, f1⟩ := cb_im h.1
            have w2 : TH (Bs S.2.2.2) (wr J1 (13 + w) p (nI i)) (setf S (2 + w) p (nI i)) := by
              have hh := th_set0 (f := 2 + w) (p := p) (v := nI i) w1 (by omega) (hGB i (by omega))
              rw [show 2 + 8 * 1 + (2 + w + 1) = 13 + w by omega] at hh
              exact hh
            have f2 : FrC 1 J1 (wr J1 (13 + w) p (nI i)) := fun c _ h2 => wr_k _ _ _ (by omega)
            have f12 := f1.tr f2
            obtain ⟨J2, d2, f3⟩ := th_first (p := p) w2 (ShC_F h.2 f12) b1 hσ (by omega) hp (by show S.2.2.1.toInt + _ ≤ 2000; omega)
            have f13 := f12.tr f3
            rw [f_X6_states_b71, show (99 : Int32) = nI 99 from rfl, if_neg (by rw [nI_lt' (by omega) (by omega)]; omega), d1, bnd_some, if_pos (inb_t (by omega) (by omega)), lt1_eq, cl_nI (by omega), d2, bnd_some, nI_1, lp]
            have nx : ∀ y : Int32 × Nat, y.2 ≤ i + 1 → ∃ K, f_X6_states_b71 (nI σ) (nI p) (nI w) (nI o) n (nI (i + 1)) y.1 (nI y.2) (13 + w) J2 = some (if nI o = 0 then nI (lp (staG (Bs S.2.2.2) (sh σ).2.2 p (sh σ).2.1 S w) k (i + 1) y).2 else (lp (staG (Bs S.2.2.2) (sh σ).2.2 p (sh σ).2.1 S w) k (i + 1) y).1, K) ∧ FrC 1 J K := by
              intro y hy
              obtain ⟨K, e, f⟩ := ih n (i + 1) y J2 (by omega) hy (by omega) (cs_Fr h f13)
              exact ⟨K, e, f13.tr f⟩
            by_cases hq : foS (Bs S.2.2.2) (sh σ).2.2 p (sh σ).2.1 0 (setf S (2 + w) p (nI i)) = -1
            · rw [if_pos hq]
              by_cases h0 : y.2 = 0
              · rw [if_pos (show nI y.2 = 0 by rw [h0]; rfl), f_X6_states_b110, nI_1, nI_1, show staG (Bs S.2.2.2) (sh σ).2.2 p (sh σ).2.1 S w i y = (nI i, y.2 + 1) from by rw [staG, if_pos hq, if_pos h0]]
                exact nx (nI i, y.2 + 1) (by show y.2 + 1 ≤ i + 1; omega)
              · rw [if_neg (show ¬ nI y.2 = 0 from fun hh => h0 ((nI_eq' (b := 0) (by omega) (by omega)).mp hh)), f_X6_states_b110, nI_1, nI_1, show staG (Bs S.2.2.2) (sh σ).2.2 p (sh σ).2.1 S w i y = (y.1, y.2 + 1) from by rw [staG, if_pos hq, if_neg h0]]
                exact nx (y.1, y.2 + 1) (by show y.2 + 1 ≤ i + 1; omega)
            · rw [if_neg hq, show staG (Bs S.2.2.2) (sh σ).2.2 p (sh σ).2.1 S w i y = y from by rw [staG, if_neg hq]]
              exact nx y (by omega)
        have k4 : (4 : Int32) * nI p + nI w = nI (4 * p + w) := by rw [fact4, nI_add]
        have keyM : ∀ (I0 : Mem) (x : Int32), GB (2 + w) x → ∀ (k n i : Nat) (y : Int32 × Nat) (x1 : Int32) (J : Mem), i + k = 100 → y.2 ≤ i → (y.2 = 0 ↔ y.1 = -1) → k < n → setf S (2 + w) p x = S → MK (Bs S.2.2.2) sh I0 J (setf S (2 + w) p x1) → ∃ K, f_X7_states_b59 (nI σ) (nI p) (nI w) (nI o) n (nI i) y.1 (nI y.2) x J = some (if nI o = 0 then nI (lp (staG (Bs S.2.2.2) (sh σ).2.2 p (sh σ).2.1 S w) k i y).2 else (lp (staG (Bs S.2.2.2) (sh σ).2.2 p (sh σ).2.1 S w) k i y).1, K) ∧ MK (Bs S.2.2.2) sh I0 K S := by
          intro I0 x gx k
          induction k with
          | zero =>
            intro n i y x1 J hi hy hy2 hn hx h
            obtain ⟨n, rfl⟩ : ∃ m, n = m + 1 := ⟨n - 1, by omega⟩
            have h2 := mk_set (j := w) (p := p) (v := x) h (by omega) gx
            rw [setf_2, hx] at h2
            rw [f_X7_states_b59, show (99 : Int32) = nI 99 from rfl, if_pos ((nI_lt' (by omega) (by omega)).mpr (by omega)), k4, if_pos (inb_t (by omega) (by omega)), lt1_eq, cl_nI (by omega), some_if]
            exact ⟨_, rfl, h2⟩
          | succ k ih =>
            intro n i y x1 J hi hy hy2 hn hx h
            obtain ⟨n, rfl⟩ : ∃ m, n = m + 1 := ⟨n - 1, by omega⟩
            have h2 := mk_set (j := w) (p := p) (v := nI i) h (by omega) (hGB i (by omega))
            rw [setf_2] at h2
            obtain ⟨J3, d3, h3⟩ := mk_unlike (p := p) h2 b1 hσ (by omega) hp (by show S.2.2.1.toInt + _ ≤ 2000; omega)
            rw [f_X7_states_b59, show (99 : Int32) = nI 99 from rfl, if_neg (by rw [nI_lt' (by omega) (by omega)]; omega), k4, if_pos (inb_t (by omega) (by omega)), lt1_eq, cl_nI (by omega), d3, bnd_some, lp]
            by_cases hq : foS (Bs S.2.2.2) (sh σ).2.2 p (sh σ).2.1 0 (setf S (2 + w) p (nI i)) = -1
            · rw [if_pos hq, f_X7_states_b93, if_neg (show ¬ (1 : Int32) = 0 by decide), f_X7_states_b107, lt1_eq, if_neg (show ¬ (1 : Int32) = 0 by decide), nI_1]
              by_cases h0 : y.2 = 0
              · rw [if_pos (hy2.mp h0), f_X7_states_b128, nI_1, show staG (Bs S.2.2.2) (sh σ).2.2 p (sh σ).2.1 S w i y = (nI i, y.2 + 1) from by rw [staG, if_pos hq, if_pos h0]]
                exact ih n (i + 1) (nI i, y.2 + 1) _ J3 (by omega) (by show y.2 + 1 ≤ i + 1; omega) ⟨fun hh => absurd hh (by show ¬ y.2 + 1 = 0; omega), fun hh => absurd hh (ne_m1 (by omega))⟩ (by omega) hx h3
              · have hne : ¬ y.1 = -1 := fun hh => h0 (hy2.mpr hh)
                rw [if_neg hne, f_X7_states_b126, f_X7_states_b128, nI_1, show staG (Bs S.2.2.2) (sh σ).2.2 p (sh σ).2.1 S w i y = (y.1, y.2 + 1) from by rw [staG, if_pos hq, if_neg h0]]
                exact ih n (i + 1) (y.1, y.2 + 1) _ J3 (by omega) (by show y.2 + 1 ≤ i + 1; omega) ⟨fun hh => absurd hh (by show ¬ y.2 + 1 = 0; omega), fun hh => absurd hh hne⟩ (by omega) hx h3
            · rw [if_neg hq, f_X7_states_b93, if_pos rfl, f_X7_states_b107, lt1_eq, if_pos rfl, f_X7_states_b126, f_X7_states_b128, nI_1, show nI y.2 + (0 : Int32) = nI y.2 from nI_add _ 0, show staG (Bs S.2.2.2) (sh σ).2.2 p (sh σ).2.1 S w i y = y from by rw [staG, if_neg hq]]
              exact ih n (i + 1) y _ J3 (by omega) (by omega) hy2 (by omega) hx h3
        obtain ⟨J, d1, f1⟩ := keyC 100 FU 0 (-1, 0) I (by omega) (by show 0 ≤ 0; omega) (by show _ < 4096; omega) ⟨⟨g, c, z, b2⟩, s1⟩
        have hvJ := IV_c f1 hv
        have k0 : MK (Bs S.2.2.2) sh J J S := ⟨g, hvJ.1.2.1, (hvJ.2.2.1 _ t3).2.2, hvJ.2.2.2.2.1.2.1, FrK.rf⟩
        have m4 := k0.2.1.2.2.2.1 p hp
        have gq := g.2.2.2.2.1 p hp
        have h59 : J 59 (4 * p + w) = S.1 (2 + w) p := by rcases hw with rfl | rfl; exact m4.2.2.2.1; exact m4.2.2.2.2.1
        have gw : GB (2 + w) (S.1 (2 + w) p) := by rcases hw with rfl | rfl; exact gq.2.2.2.1; exact gq.2.2.2.2.1
        obtain ⟨K, d3, k1⟩ := keyM J (S.1 (2 + w) p) gw 100 FU 0 (-1, 0) (S.1 (2 + w) p) J (by omega) (by show 0 ≤ 0; omega) ⟨fun _ => rfl, fun _ => rfl⟩ (by show _ < 4096; omega) (setf_id _ _ _) (by rw [setf_id]; exact k0)
        refine ⟨if nI o = 0 then nI (lp (staG (Bs S.2.2.2) (sh σ).2.2 p (sh σ).2.1 S w) 100 0 (-1, 0)).2 else (lp (staG (Bs S.2.2.2) (sh σ).2.2 p (sh σ).2.1 S w) 100 0 (-1, 0)).1, J, K, ?_, ?_, S, T, Bs, tp, tx, sh, im, IV_k k1.2.2.2.2 k1.2.1 hvJ⟩
        · rw [f_X6_states, e, bnd_some, if_pos rfl, s6_within, bnd_some, u, if_neg (by decide), s6_within, bnd_some, u3', if_neg (by decide)]
          rcases hw with rfl | rfl
          · rw [if_pos (show nI 1 = (1 : Int32) from rfl), f_X6_states_b60]
            exact d1
          · rw [if_neg (show ¬ nI 2 = (1 : Int32) by decide), f_X6_states_b60]
            exact d1
        · rw [f_X7_states, e2 J k0.2.2.2.1 k0.2.1.1, bnd_some, if_pos rfl, s7_in, bnd_some, u, if_neg (by decide), s7_in, bnd_some, u3', if_neg (by decide), k4, if_pos (inb_t (by omega) (by omega)), lt1_eq, cl_nI (by omega), h59]
          exact d3
      · have u3' : wth a4 0 1 = 0 := u3
        exact ⟨-7, I, I, by rw [f_X6_states, e, bnd_some, if_pos rfl, s6_within, bnd_some, u, if_neg (by decide), s6_within, bnd_some, u3', if_pos rfl], by rw [f_X7_states, e2 I s2 m.1, bnd_some, if_pos rfl, s7_in, bnd_some, u, if_neg (by decide), s7_in, bnd_some, u3', if_pos rfl], hI⟩
    · exact ⟨-7, I, I, by rw [f_X6_states, e, bnd_some, if_pos rfl, s6_within, bnd_some, u, if_pos rfl], by rw [f_X7_states, e2 I s2 m.1, bnd_some, if_pos rfl, s7_in, bnd_some, u, if_pos rfl], hI⟩
  · exact ⟨v, I, I, by rw [f_X6_states, e, bnd_some, if_neg hv0], by rw [f_X7_states, e2 I s2 m.1, bnd_some, if_neg hv0], hI⟩
def plaG (B : Bk) (c : Nat → Int32) (p z : Nat) (S : RS) (i : Nat) (b : Int64) : Int64 := if foS B c p z 0 (setf S 2 p (nI i)) = -1 then b ||| ((1 : Int64) <<< ((nI i).toInt64 &&& 63)) else b
theorem p_places (a a2 : Int32) : Pair (f_X6_places a a2) (f_X7_places a a2) := by
  intro I hI
  obtain ⟨S, T, Bs, tp, tx, sh, im, hv⟩ := id hI
  obtain ⟨⟨c, m, g, r, z⟩, ⟨t1, t2, t3, t4, t5⟩, b, -, ⟨s1, s2, s3⟩, -, -⟩ := id hv
  have hN6 := g.1
  obtain ⟨b1, b2, b3⟩ := b S.2.2.2 t3
  rcases sh_or2 a a2 s1 s3 c.1 hN6 with ⟨σ, p, hσ, rfl, hz, hp, rfl, e, e2⟩ | ⟨v, hv0, e, e2⟩
  · have keyC : ∀ (k n i : Nat) (y : Int64) (J : Mem), i + k = 64 → k < n → CS (Bs S.2.2.2) sh J S → ∃ K, f_X6_places_b18 (nI σ) (nI p) n (nI i) y J = some (lp (plaG (Bs S.2.2.2) (sh σ).2.2 p (sh σ).2.1 S) k i y, K) ∧ FrC 1 J K := by
      intro k
      induction k with
      | zero =>
        intro n i y J hi hn h
        obtain ⟨n, rfl⟩ : ∃ m, n = m + 1 := ⟨n - 1, by omega⟩
        rw [f_X6_places_b18, show (64 : Int32) = nI 64 from rfl, if_pos ((nI_le' (by omega) (by omega)).mpr (by omega))]
        exact ⟨J, rfl, FrC.rf⟩
      | succ k ih =>
        intro n i y J hi hn h
        obtain ⟨n, rfl⟩ : ∃ m, n = m + 1 := ⟨n - 1, by omega⟩
        obtain ⟨J1, d1, w1, f1⟩ := cb_im h.1
        have w2 : TH (Bs S.2.2.2) (wr J1 13 p (nI i)) (setf S 2 p (nI i)) := th_set0 (f := 2) (p := p) (v := nI i) w1 (by omega) (GB2 (by omega))
        have f2 : FrC 1 J1 (wr J1 13 p (nI i)) := fun c _ h2 => wr_k _ _ _ (by omega)
        have f12 := f1.tr f2
        obtain ⟨J2, d2, f3⟩ := th_first (p := p) w2 (ShC_F h.2 f12) b1 hσ (by omega) hp (by show S.2.2.1.toInt + _ ≤ 2000; omega)
        have f13 := f12.tr f3
        rw [f_X6_places_b18, show (64 : Int32) = nI 64 from rfl, if_neg (by rw [nI_le' (by omega) (by omega)]; omega), d1, bnd_some, if_pos (inb_t (by omega) (by omega)), lt1_eq, cl_nI (by omega), d2, bnd_some, nI_1, lp, plaG]
        by_cases hq : foS (Bs S.2.2.2) (sh σ).2.2 p (sh σ).2.1 0 (setf S 2 p (nI i)) = -1
        · rw [if_pos hq, if_pos hq, lt1_eq]
          obtain ⟨K, e, f⟩ := ih n (i + 1) _ J2 (by omega) (by omega) (cs_Fr h f13)
          exact ⟨K, e, f13.tr f⟩
        · rw [if_neg hq, if_neg hq]
          obtain ⟨K, e, f⟩ := ih n (i + 1) y J2 (by omega) (by omega) (cs_Fr h f13)
          exact ⟨K, e, f13.tr f⟩
    have gq := g.2.2.2.2.1 p hp
    have keyM : ∀ (I0 : Mem) (k n i : Nat) (y : Int64) (x1 : Int32) (J : Mem), i + k = 64 → k < n → MK (Bs S.2.2.2) sh I0 J (setf S 2 p x1) → ∃ K, f_X7_places_b28 (nI σ) (nI p) n (nI i) y (S.1 2 p) J = some (lp (plaG (Bs S.2.2.2) (sh σ).2.2 p (sh σ).2.1 S) k i y, K) ∧ MK (Bs S.2.2.2) sh I0 K S := by
      intro I0 k
      induction k with
      | zero =>
        intro n i y x1 J hi hn h
        obtain ⟨n, rfl⟩ : ∃ m, n = m + 1 := ⟨n - 1, by omega⟩
        have h2 := mk_set (j := 0) (p := p) (v := S.1 2 p) h (by omega) gq.2.2.1
        rw [setf_2, setf_id] at h2
        rw [f_X7_places_b28, show (64 : Int32) = nI 64 from rfl, if_pos ((nI_le' (by omega) (by omega)).mpr (by omega)), fact4, if_pos (inb_t (by omega) (by omega)), lt1_eq, cl_nI (by omega)]
        exact ⟨_, rfl, h2⟩
      | succ k ih =>
        intro n i y x1 J hi hn h
        obtain ⟨n, rfl⟩ : ∃ m, n = m + 1 := ⟨n - 1, by omega⟩
        have h2 : MK (Bs S.2.2.2) sh I0 (wr J 59 (4 * p) (nI i)) _ := mk_set (j := 0) (p := p) (v := nI i) h (by omega) (GB2 (by omega))
        rw [setf_2] at h2
        obtain ⟨J3, d3, h3⟩ := mk_unlike (p := p) h2 b1 hσ (by omega) hp (by show S.2.2.1.toInt + _ ≤ 2000; omega)
        rw [f_X7_places_b28, show (64 : Int32) = nI 64 from rfl, if_neg (by rw [nI_le' (by omega) (by omega)]; omega), fact4, if_pos (inb_t (by omega) (by omega)), lt1_eq, cl_nI (by omega), d3, bnd_some, lp, plaG]
        by_cases hq : foS (Bs S.2.2.2) (sh σ).2.2 p (sh σ).2.1 0 (setf S 2 p (nI i)) = -1
        · rw [if_pos hq, if_pos hq, f_X7_places_b65, lt1_eq, nI_1]
          exact ih n (i + 1) _ _ J3 (by omega) (by omega) h3
        · rw [if_neg hq, if_neg hq, f_X7_places_b65, lt1_eq, nI_1, show y ||| (0 : Int64) = y from Int64.or_zero]
          exact ih n (i + 1) y _ J3 (by omega) (by omega) h3
    obtain ⟨J, d1, f1⟩ := keyC 64 FU 0 0 I (by omega) (by show _ < 4096; omega) ⟨⟨g, c, z, b2⟩, s1⟩
    have hvJ := IV_c f1 hv
    have k0 : MK (Bs S.2.2.2) sh J J S := ⟨g, hvJ.1.2.1, (hvJ.2.2.1 _ t3).2.2, hvJ.2.2.2.2.1.2.1, FrK.rf⟩
    have m4 := k0.2.1.2.2.2.1 p hp
    obtain ⟨K, d3, k1⟩ := keyM J 64 FU 0 0 (S.1 2 p) J (by omega) (by show _ < 4096; omega) (by rw [setf_id]; exact k0)
    refine ⟨lp (plaG (Bs S.2.2.2) (sh σ).2.2 p (sh σ).2.1 S) 64 0 0, J, K, ?_, ?_, S, T, Bs, tp, tx, sh, im, IV_k k1.2.2.2.2 k1.2.1 hvJ⟩
    · rw [f_X6_places, e, bnd_some, if_pos rfl]
      exact d1
    · rw [f_X7_places, e2 J k0.2.2.2.1 k0.2.1.1, bnd_some, if_pos rfl, fact4, if_pos (inb_t (by omega) (by omega)), lt1_eq, cl_nI (by omega), m4.2.2.1]
      exact d3
  · exact ⟨-4611686018427387904, I, I, by rw [f_X6_places, e, bnd_some, if_neg hv0], by rw [f_X7_places, e2 I s2 m.1, bnd_some, if_neg hv0], hI⟩
