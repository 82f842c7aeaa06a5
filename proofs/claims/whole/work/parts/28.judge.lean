/-! PURE 19: judge, whose, kinds, states, places -/
theorem p_judge (a a2 : Int32) : Pair (f_X6_judge a a2) (f_X7_judge a a2) := by
  intro I hI
  obtain ⟨S, T, Bs, tp, tx, sh, im, hv⟩ := id hI
  obtain ⟨⟨c, m, g, r, z⟩, ⟨t1, t2, t3, t4, t5⟩, b, -, ⟨s1, s2, s3⟩, -, -⟩ := id hv
  have hN6 := g.1
  obtain ⟨b1, b2, b3⟩ := b S.2.2.2 t3
  rcases sh_or2 a a2 s1 s3 c.1 hN6 with ⟨σ, p, hσ, rfl, hz, hp, rfl, e, e2⟩ | ⟨v, hv0, e, e2⟩
  · obtain ⟨J1, d1, w1, f1⟩ := th_start g c z b2
    obtain ⟨J, d2, f2⟩ := th_first (p := p) w1 (ShC_F s1 f1) b1 hσ (by omega) hp (by omega)
    have f12 := f1.tr f2
    have hvJ := IV_c f12 hv
    have k0 : MK (Bs S.2.2.2) sh J J S := ⟨g, hvJ.1.2.1, (hvJ.2.2.1 _ t3).2.2, hvJ.2.2.2.2.1.2.1, FrK.rf⟩
    obtain ⟨K, d3, k1⟩ := mk_unlike (p := p) k0 b1 hσ (by omega) hp (by omega)
    refine ⟨foS (Bs S.2.2.2) (sh σ).2.2 p (sh σ).2.1 0 S, J, K, ?_, ?_, S, T, Bs, tp, tx, sh, im, IV_k k1.2.2.2.2 k1.2.1 hvJ⟩
    · rw [f_X6_judge, e, bnd_some, if_pos rfl, d1, bnd_some, d2, bnd_some]
    · rw [f_X7_judge, e2 J k0.2.2.2.1 k0.2.1.1, bnd_some, if_pos rfl, d3, bnd_some]
  · exact ⟨v, I, I, by rw [f_X6_judge, e, bnd_some, if_neg hv0], by rw [f_X7_judge, e2 I s2 m.1, bnd_some, if_neg hv0], hI⟩
def whoG (B : Bk) (c : Nat → Int32) (z : Nat) (S : RS) (p : Nat) (b : Int32) : Int32 := if foS B c p z 0 S = -1 then b ||| (1 <<< (nI p &&& 31)) else b
theorem p_whose (a : Int32) : Pair (f_X6_whose a) (f_X7_whose a) := by
  intro I hI
  obtain ⟨S, T, Bs, tp, tx, sh, im, hv⟩ := id hI
  obtain ⟨⟨c, m, g, r, z⟩, ⟨t1, t2, t3, t4, t5⟩, b, -, ⟨s1, s2, s3⟩, -, -⟩ := id hv
  have hN6 := g.1
  obtain ⟨b1, b2, b3⟩ := b S.2.2.2 t3
  rcases sh_or a s1 s3 with ⟨σ, hσ, rfl, hz, e, e2⟩ | ⟨v, hv0, e, e2⟩
  · have keyC : ∀ (k n i : Nat) (y : Int32) (J : Mem), i + k = S.2.1 → k < n → CS (Bs S.2.2.2) sh J S → ∃ K, f_X6_whose_b17 (nI σ) n (nI i) y J = some (lp (whoG (Bs S.2.2.2) (sh σ).2.2 (sh σ).2.1 S) k i y, K) ∧ FrC 1 J K := by
      intro k
      induction k with
      | zero =>
        intro n i y J hi hn h
        obtain ⟨n, rfl⟩ : ∃ m, n = m + 1 := ⟨n - 1, by omega⟩
        have h8 : J 2 8 = nI S.2.1 := h.1.2.1.1
        rw [f_X6_whose_b17, h8, if_pos ((nI_le' (by omega) (by omega)).mpr (by omega))]
        exact ⟨J, rfl, FrC.rf⟩
      | succ k ih =>
        intro n i y J hi hn h
        obtain ⟨n, rfl⟩ : ∃ m, n = m + 1 := ⟨n - 1, by omega⟩
        have h8 : J 2 8 = nI S.2.1 := h.1.2.1.1
        obtain ⟨J1, d1, w1, f1⟩ := cb_im h.1
        obtain ⟨J2, d2, f2⟩ := th_first (p := i) w1 (ShC_F h.2 f1) b1 hσ (by omega) (by omega) (by omega)
        have f12 := f1.tr f2
        rw [f_X6_whose_b17, h8, if_neg (by rw [nI_le' (by omega) (by omega)]; omega), d1, bnd_some, d2, bnd_some, nI_1, lp, whoG]
        by_cases hq : foS (Bs S.2.2.2) (sh σ).2.2 i (sh σ).2.1 0 S = -1
        · rw [if_pos hq, if_pos hq, lt1_eq]
          obtain ⟨K, e, f⟩ := ih n (i + 1) (y ||| (1 <<< (nI i &&& 31))) J2 (by omega) (by omega) (cs_Fr h f12)
          exact ⟨K, e, f12.tr f⟩
        · rw [if_neg hq, if_neg hq]
          obtain ⟨K, e, f⟩ := ih n (i + 1) y J2 (by omega) (by omega) (cs_Fr h f12)
          exact ⟨K, e, f12.tr f⟩
    have keyM : ∀ (I0 : Mem) (k n i : Nat) (y : Int32) (J : Mem), i + k = S.2.1 → k < n → MK (Bs S.2.2.2) sh I0 J S → ∃ K, f_X7_whose_b17 (nI σ) n (nI i) y J = some (lp (whoG (Bs S.2.2.2) (sh σ).2.2 (sh σ).2.1 S) k i y, K) ∧ MK (Bs S.2.2.2) sh I0 K S := by
      intro I0 k
      induction k with
      | zero =>
        intro n i y J hi hn h
        obtain ⟨n, rfl⟩ : ∃ m, n = m + 1 := ⟨n - 1, by omega⟩
        rw [f_X7_whose_b17, h.2.1.1, if_pos ((nI_le' (by omega) (by omega)).mpr (by omega))]
        exact ⟨J, rfl, h⟩
      | succ k ih =>
        intro n i y J hi hn h
        obtain ⟨n, rfl⟩ : ∃ m, n = m + 1 := ⟨n - 1, by omega⟩
        obtain ⟨J2, d2, h2⟩ := mk_unlike (p := i) h b1 hσ (by omega) (by omega) (by omega)
        rw [f_X7_whose_b17, h.2.1.1, if_neg (by rw [nI_le' (by omega) (by omega)]; omega), d2, bnd_some, lp, whoG]
        by_cases hq : foS (Bs S.2.2.2) (sh σ).2.2 i (sh σ).2.1 0 S = -1
        · rw [if_pos hq, if_pos hq, f_X7_whose_b46, lt1_eq, nI_1]
          exact ih n (i + 1) _ J2 (by omega) (by omega) h2
        · rw [if_neg hq, if_neg hq, f_X7_whose_b46, lt1_eq, or0, nI_1]
          exact ih n (i + 1) y J2 (by omega) (by omega) h2
    obtain ⟨J, d1, f1⟩ := keyC S.2.1 FU 0 0 I (by omega) (by show _ < 4096; omega) ⟨⟨g, c, z, b2⟩, s1⟩
    have hvJ := IV_c f1 hv
    have k0 : MK (Bs S.2.2.2) sh J J S := ⟨g, hvJ.1.2.1, (hvJ.2.2.1 _ t3).2.2, hvJ.2.2.2.2.1.2.1, FrK.rf⟩
    obtain ⟨K, d3, k1⟩ := keyM J S.2.1 FU 0 0 J (by omega) (by show _ < 4096; omega) k0
    refine ⟨lp (whoG (Bs S.2.2.2) (sh σ).2.2 (sh σ).2.1 S) S.2.1 0 0, J, K, ?_, ?_, S, T, Bs, tp, tx, sh, im, IV_k k1.2.2.2.2 k1.2.1 hvJ⟩
    · rw [f_X6_whose, e, bnd_some, if_pos rfl]
      exact d1
    · rw [f_X7_whose, e2 J k0.2.2.2.1, bnd_some, if_pos rfl]
      exact d3
  · exact ⟨v, I, I, by rw [f_X6_whose, e, bnd_some, if_neg hv0], by rw [f_X7_whose, e2 I s2, bnd_some, if_neg hv0], hI⟩
def kinG (B : Bk) (c : Nat → Int32) (p z : Nat) (S : RS) (w q : Nat) (i : Nat) (b : Int32) : Int32 := if foS B c p z 0 (setf S w q (nI i)) = -1 then b ||| (1 <<< (nI i &&& 31)) else b
def kml (w : Nat) : Nat := if w = 0 then 6 else 10
/-- kind and more of q are x and y -/
def km (S : RS) (q : Nat) (x y : Int32) : RS := setf (setf S 0 q x) 1 q y
theorem km_km {S : RS} {q : Nat} {x y x' y' : Int32} : setf (setf (km S q x y) 0 q x') 1 q y' = km S q x' y' := by
  unfold km
  rw [setf_c (setf S 0 q x) y x' (by omega), setf_2, setf_2]
theorem km_0 {S : RS} {q : Nat} {x : Int32} : km S q x (S.1 1 q) = setf S 0 q x := by
  unfold km
  rw [setf_c S x _ (by omega), setf_id]
theorem km_1 {S : RS} {q : Nat} {y : Int32} : km S q (S.1 0 q) y = setf S 1 q y := by
  unfold km
  rw [setf_id]
theorem km_i {S : RS} {q : Nat} : km S q (S.1 0 q) (S.1 1 q) = S := by rw [km_1, setf_id]
theorem p_kinds (a a2 a3 a4 : Int32) : Pair (f_X6_kinds a a2 a3 a4) (f_X7_kinds a a2 a3 a4) := by
  intro I hI
  obtain ⟨S, T, Bs, tp, tx, sh, im, hv⟩ := id hI
  obtain ⟨⟨c, m, g, r, z⟩, ⟨t1, t2, t3, t4, t5⟩, b, -, ⟨s1, s2, s3⟩, -, -⟩ := id hv
  have hN6 := g.1
  have c1 : I 2 8 = nI S.2.1 := c.1
  obtain ⟨b1, b2, b3⟩ := b S.2.2.2 t3
  rcases sh_or2 a a2 s1 s3 c.1 hN6 with ⟨σ, p, hσ, rfl, hz, hp, rfl, e, e2⟩ | ⟨v, hv0, e, e2⟩
  · rcases hat_or a3 (N := S.2.1) (by omega) with ⟨q, hq, rfl, u⟩ | ⟨_, u⟩
    · rcases hat_or a4 (N := 2) (by omega) with ⟨w, hw, rfl, u3⟩ | ⟨_, u3⟩
      · have u3' : wth (nI w) 0 1 = 1 := u3
        have hw0 : nI w = 0 ↔ w = 0 := nI_eq' (b := 0) (by omega) (by omega)
        have hGB : ∀ i, i < kml w → GB w (nI i) := by
          intro i hi
          unfold kml at hi
          rcases (show w = 0 ∨ w = 1 by omega) with rfl | rfl
          · rw [if_pos rfl] at hi
            refine ⟨by rw [ti_nI (by omega)]; omega, ?_⟩
            rw [ti_nI (by omega)]
            show (i : Int) ≤ 5
            omega
          · rw [if_neg (by omega)] at hi
            refine ⟨by rw [ti_nI (by omega)]; omega, ?_⟩
            rw [ti_nI (by omega)]
            show (i : Int) ≤ 9
            omega
        have hl10 : kml w ≤ 10 := by unfold kml; split <;> omega
        have keyC : ∀ (k n i : Nat) (y : Int32) (J : Mem), i + k = kml w → k < n → CS (Bs S.2.2.2) sh J S → ∃ K, f_X6_kinds_b70 (nI σ) (nI p) (nI q) (nI w) n (nI i) y (11 + w) J = some (lp (kinG (Bs S.2.2.2) (sh σ).2.2 p (sh σ).2.1 S w q) k i y, K) ∧ FrC 1 J K := by
          intro k
          induction k with
          | zero =>
            intro n i y J hi hn h
            obtain ⟨n, rfl⟩ : ∃ m, n = m + 1 := ⟨n - 1, by omega⟩
            have hle : nI (kml w) ≤ nI i := (nI_le' (by omega) (by omega)).mpr (by omega)
            refine ⟨J, ?_, FrC.rf⟩
            rw [f_X6_kinds_b70]
            by_cases h0 : nI w = 0
            · rw [if_pos h0, f_X6_kinds_b84, if_pos (by have hq : kml w = 6 := if_pos (hw0.mp h0); rw [hq] at hle; exact hle)]
              rfl
            · rw [if_neg h0, f_X6_kinds_b84, if_pos (by have hq : kml w = 10 := if_neg (fun hh => h0 (hw0.mpr hh)); rw [hq] at hle; exact hle)]
              rfl
          | succ k ih =>
            intro n i y J hi hn h
            obtain ⟨n, rfl⟩ : ∃ m, n = m + 1 := ⟨n - 1, by omega⟩
            obtain ⟨J1, d1, w1, f1⟩ := cb_im h.1
            have w2 : TH (Bs S.2.2.2) (wr J1 (11 + w) q (nI i)) (setf S w q (nI i)) := by
              have hh := th_set0 (f := w) (p := q) (v := nI i) w1 (by omega) (hGB i (by omega))
              rw [show 2 + 8 * 1 + (w + 1) = 11 + w by omega] at hh
              exact hh
            have f2 : FrC 1 J1 (wr J1 (11 + w) q (nI i)) := fun c _ h2 => wr_k _ _ _ (by omega)
            have f12 := f1.tr f2
            obtain ⟨J2, d2, f3⟩ := th_first (p := p) w2 (ShC_F h.2 f12) b1 hσ (by omega) hp (by show S.2.2.1.toInt + _ ≤ 2000; omega)
            have f13 := f12.tr f3
            have hnle : ¬ nI (kml w) ≤ nI i := by rw [nI_le' (by omega) (by omega)]; omega
            have step : ∀ lim : Int32, lim = nI (kml w) → ∃ K, f_X6_kinds_b84 (nI σ) (nI p) (nI q) (nI w) (f_X6_kinds_b70 (nI σ) (nI p) (nI q) (nI w) n) (nI i) y (11 + w) lim (nI i) J = some (lp (kinG (Bs S.2.2.2) (sh σ).2.2 p (sh σ).2.1 S w q) (k + 1) i y, K) ∧ FrC 1 J K := by
              rintro lim rfl
              rw [f_X6_kinds_b84, if_neg hnle, d1, bnd_some, if_pos (inb_t (by omega) (by omega)), lt1_eq, cl_nI (by omega), d2, bnd_some, nI_1, lp, kinG]
              by_cases hq : foS (Bs S.2.2.2) (sh σ).2.2 p (sh σ).2.1 0 (setf S w q (nI i)) = -1
              · rw [if_pos hq, if_pos hq, lt1_eq]
                obtain ⟨K, e, f⟩ := ih n (i + 1) (y ||| (1 <<< (nI i &&& 31))) J2 (by omega) (by omega) (cs_Fr h f13)
                exact ⟨K, e, f13.tr f⟩
              · rw [if_neg hq, if_neg hq]
                obtain ⟨K, e, f⟩ := ih n (i + 1) y J2 (by omega) (by omega) (cs_Fr h f13)
                exact ⟨K, e, f13.tr f⟩
            rw [f_X6_kinds_b70]
            by_cases h0 : nI w = 0
            · rw [if_pos h0]
              exact step 6 (by rw [show kml w = 6 from if_pos (hw0.mp h0)]; rfl)
            · rw [if_neg h0]
              exact step 10 (by rw [show kml w = 10 from if_neg (fun hh => h0 (hw0.mpr hh))]; rfl)
        have gq := g.2.2.2.2.1 q hq
        have gb0 : GB 0 (S.1 0 q) := gq.1
        have gb1 : GB 1 (S.1 1 q) := gq.2.1
        have keyM : ∀ (I0 : Mem) (k n i : Nat) (y x1 y1 : Int32) (J : Mem), i + k = kml w → k < n → MK (Bs S.2.2.2) sh I0 J (km S q x1 y1) → ∃ K, f_X7_kinds_b62 (nI σ) (nI p) (nI q) (nI w) n (nI i) y (S.1 1 q) (S.1 0 q) J = some (lp (kinG (Bs S.2.2.2) (sh σ).2.2 p (sh σ).2.1 S w q) k i y, K) ∧ MK (Bs S.2.2.2) sh I0 K S := by
          intro I0 k
          induction k with
          | zero =>
            intro n i y x1 y1 J hi hn h
            obtain ⟨n, rfl⟩ : ∃ m, n = m + 1 := ⟨n - 1, by omega⟩
            have hle : nI (kml w) ≤ nI i := (nI_le' (by omega) (by omega)).mpr (by omega)
            have h2 := mk_more (p := q) (v := S.1 1 q) (mk_kind (p := q) (v := S.1 0 q) h gb0) gb1
            rw [km_km, km_i] at h2
            refine ⟨wr (wr J 57 q (S.1 0 q)) 58 q (S.1 1 q), ?_, h2⟩
            rw [f_X7_kinds_b62]
            by_cases h0 : nI w = 0
            · rw [if_pos h0, f_X7_kinds_b76, if_pos (by have hq : kml w = 6 := if_pos (hw0.mp h0); rw [hq] at hle; exact hle), if_pos (inb_t (by omega) (by omega)), lt1_eq, if_pos (inb_t (by omega) (by omega)), lt1_eq, cl_nI (by omega)]
              rfl
            · rw [if_neg h0, f_X7_kinds_b76, if_pos (by have hq : kml w = 10 := if_neg (fun hh => h0 (hw0.mpr hh)); rw [hq] at hle; exact hle), if_pos (inb_t (by omega) (by omega)), lt1_eq, if_pos (inb_t (by omega) (by omega)), lt1_eq, cl_nI (by omega)]
              rfl
          | succ k ih =>
            intro n i y x1 y1 J hi hn h
            obtain ⟨n, rfl⟩ : ∃ m, n = m + 1 := ⟨n - 1, by omega⟩
            have hnle : ¬ nI (kml w) ≤ nI i := by rw [nI_le' (by omega) (by omega)]; omega
            have step : ∀ x2 y2 : Int32, GB 0 x2 → GB 1 y2 → km S q x2 y2 = setf S w q (nI i) → ∃ K, f_X7_kinds_b115 (nI σ) (nI p) (nI q) (nI w) (f_X7_kinds_b62 (nI σ) (nI p) (nI q) (nI w) n) (nI i) y (S.1 1 q) (S.1 0 q) y2 (nI q) (wr J 57 q x2) = some (lp (kinG (Bs S.2.2.2) (sh σ).2.2 p (sh σ).2.1 S w q) (k + 1) i y, K) ∧ MK (Bs S.2.2.2) sh I0 K S := by
              intro x2 y2 g0 g1 hk
              have h2 := mk_more (p := q) (v := y2) (mk_kind (p := q) (v := x2) h g0) g1
              rw [km_km] at h2
              obtain ⟨J3, d3, h3⟩ := mk_unlike (p := p) h2 b1 hσ (by omega) hp (by show S.2.2.1.toInt + _ ≤ 2000; omega)
              rw [f_X7_kinds_b115, if_pos (inb_t (by omega) (by omega)), lt1_eq, cl_nI (by omega), d3, bnd_some, lp, kinG, hk]
              by_cases hf : foS (Bs S.2.2.2) (sh σ).2.2 p (sh σ).2.1 0 (setf S w q (nI i)) = -1
              · rw [if_pos hf, if_pos hf, f_X7_kinds_b136, lt1_eq, nI_1]
                exact ih n (i + 1) _ x2 y2 J3 (by omega) (by omega) h3
              · rw [if_neg hf, if_neg hf, f_X7_kinds_b136, lt1_eq, or0, nI_1]
                exact ih n (i + 1) y x2 y2 J3 (by omega) (by omega) h3
            rw [f_X7_kinds_b62]
            by_cases h0 : nI w = 0
            · have w0 := hw0.mp h0
              have hq6 : kml w = 6 := if_pos w0
              rw [hq6] at hnle
              rw [if_pos h0, f_X7_kinds_b76, if_neg (show ¬ (6 : Int32) ≤ nI i from hnle), if_pos h0, f_X7_kinds_b96, if_pos (inb_t (by omega) (by omega)), lt1_eq, cl_nI (by omega), if_neg (by rw [h0]; decide)]
              exact step (nI i) (S.1 1 q) (by have := hGB i (by omega); rw [w0] at this; exact this) gb1 (by rw [km_0, w0])
            · have w1 : w = 1 := by
                have : ¬ w = 0 := fun hh => h0 (hw0.mpr hh)
                omega
              have hq10 : kml w = 10 := by rw [w1]; rfl
              rw [hq10] at hnle
              rw [if_neg h0, f_X7_kinds_b76, if_neg (show ¬ (10 : Int32) ≤ nI i from hnle), if_neg h0, f_X7_kinds_b96, if_pos (inb_t (by omega) (by omega)), lt1_eq, cl_nI (by omega), if_pos (by rw [w1]; rfl)]
              exact step (S.1 0 q) (nI i) gb0 (by have := hGB i (by omega); rw [w1] at this; exact this) (by rw [km_1, w1])
        obtain ⟨J, d1, f1⟩ := keyC (kml w) FU 0 0 I (by omega) (by show _ < 4096; omega) ⟨⟨g, c, z, b2⟩, s1⟩
        have hvJ := IV_c f1 hv
        have k0 : MK (Bs S.2.2.2) sh J J S := ⟨g, hvJ.1.2.1, (hvJ.2.2.1 _ t3).2.2, hvJ.2.2.2.2.1.2.1, FrK.rf⟩
        have m4 := k0.2.1.2.2.2.1 q hq
        obtain ⟨K, d3, k1⟩ := keyM J (kml w) FU 0 0 (S.1 0 q) (S.1 1 q) J (by omega) (by show _ < 4096; omega) (by rw [km_i]; exact k0)
        refine ⟨lp (kinG (Bs S.2.2.2) (sh σ).2.2 p (sh σ).2.1 S w q) (kml w) 0 0, J, K, ?_, ?_, S, T, Bs, tp, tx, sh, im, IV_k k1.2.2.2.2 k1.2.1 hvJ⟩
        · rw [f_X6_kinds, e, bnd_some, if_pos rfl, s6_isHat, bnd_some, c1, u, if_neg (by decide), s6_within, bnd_some, u3', if_neg (by decide)]
          by_cases h0 : nI w = 0
          · rw [if_pos h0, f_X6_kinds_b62]
            rw [hw0.mp h0] at d1 ⊢
            exact d1
          · have w1 : w = 1 := by
              have : ¬ w = 0 := fun hh => h0 (hw0.mpr hh)
              omega
            rw [if_neg h0, f_X6_kinds_b62]
            rw [w1] at d1 ⊢
            exact d1
        · rw [f_X7_kinds, e2 J k0.2.2.2.1 k0.2.1.1, bnd_some, if_pos rfl, s7_isOne, bnd_some, k0.2.1.1, u, if_neg (by decide), s7_in, bnd_some, u3', if_neg (by decide), if_pos (inb_t (by omega) (by omega)), lt1_eq, if_pos (inb_t (by omega) (by omega)), lt1_eq, cl_nI (by omega), m4.1, m4.2.1]
          exact d3
      · have u3' : wth a4 0 1 = 0 := u3
        exact ⟨-7, I, I, by rw [f_X6_kinds, e, bnd_some, if_pos rfl, s6_isHat, bnd_some, c1, u, if_neg (by decide), s6_within, bnd_some, u3', if_pos rfl], by rw [f_X7_kinds, e2 I s2 m.1, bnd_some, if_pos rfl, s7_isOne, bnd_some, m.1, u, if_neg (by decide), s7_in, bnd_some, u3', if_pos rfl], hI⟩
    · exact ⟨-6, I, I, by rw [f_X6_kinds, e, bnd_some, if_pos rfl, s6_isHat, bnd_some, c1, u, if_pos rfl], by rw [f_X7_kinds, e2 I s2 m.1, bnd_some, if_pos rfl, s7_isOne, bnd_some, m.1, u, if_pos rfl], hI⟩
  · exact ⟨v, I, I, by rw [f_X6_kinds, e, bnd_some, if_neg hv0], by rw [f_X7_kinds, e2 I s2 m.1, bnd_some, if_neg hv0], hI⟩
