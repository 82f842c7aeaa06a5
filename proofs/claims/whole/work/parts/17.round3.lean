/-! PURE 8: a round of the model -/
section RM
variable {p q : Nat} {B : Bk} {S : RS} {I : Mem}
theorem BM_Fr {I J : Mem} {τ : Nat} {B : Bk} (h : BM I τ B) (hf : FrM I J) : BM J τ B := ⟨fun k hk => by rw [hf.1 _ (by omega) (by omega) (by omega) (by omega) (by omega)]; exact h.1 k hk, fun j hj => by rw [hf.1 _ (by omega) (by omega) (by omega) (by omega) (by omega)]; exact h.2 j hj⟩
theorem s7w (x : Int32) (I : Mem) : f_X7_within x 0 99 I = some (c99 x, I) := s7_within (by decide) I
theorem s7_hitBy (hg : GS S) (hp : p < S.2.1) (hq : q < S.2.1) (hO : BOK B) (hB : BM I S.2.2.2 B) (hM : MR I S) : ∃ J, f_X7_hitBy (nI p) (nI q) I = some (if (landS B S p q).1 3 q = 0 then 1 else 0, J) ∧ MR J (landS B S p q) ∧ FrM I J := by
  have hN := hg.1
  obtain ⟨J0, e0, o0⟩ := s7_blow (q := q) hg hp hq hO hB hM
  have m0 := MR_off hM o0
  have f0 : FrM I J0 := FrM.of o0
  obtain ⟨g1, g2, g3, g4⟩ := landS_G (B := B) hg hp hq
  have e6 : (6 : Int32) * nI p + nI q = nI (6 * p + q) := by rw [show (6 : Int32) = nI 6 from rfl, pk_mul, nI_add]
  have a1 : nI (4 * q) + (1 : Int32) = nI (4 * q + 1) := nI_1 _
  have a3 : nI (4 * q) + (3 : Int32) = nI (4 * q + 3) := nI_add _ 3
  have a2 : nI (4 * p) + (2 : Int32) = nI (4 * p + 2) := nI_add _ 2
  rw [f_X7_hitBy, e0, bnd_some, fact4, fact4, e6, a1, a3, a2, lt1_eq, if_pos (inb_t (by omega) (by omega)), cl_nI (by omega), s7w, bnd_some, if_pos (inb_t (by omega) (by omega)), lt1_eq]
  have v1 : c99 (J0 59 (4 * q + 1) - blowS B S p q) = sub0 (S.1 3 q) (blowS B S p q) := by rw [(m0.2.2.2.1 q hq).2.2.2.1]; exact (sub0_b (hg.2.2.2.2.1 q hq).2.2.2.1 (c99_b _)).2
  rw [v1]
  have c1 : MR (wr J0 59 (4 * q + 1) (sub0 (S.1 3 q) (blowS B S p q))) (lS1 B S p q) := MR_set m0 (j := 1) (by omega)
  generalize hJ1 : wr J0 59 (4 * q + 1) (sub0 (S.1 3 q) (blowS B S p q)) = J1 at c1 ⊢
  have f1 : FrM I J1 := by rw [← hJ1]; exact f0.tr FrM.wr59
  rw [lt1_eq, if_pos (inb_t (by omega) (by omega)), cl_nI (by omega), s7w, bnd_some, if_pos (inb_t (by omega) (by omega)), lt1_eq]
  have v2 : c99 (J1 59 (4 * q + 3) + 1) = inc ((lS1 B S p q).1 5 q) := by rw [(c1.2.2.2.1 q hq).2.2.2.2.2]; exact (inc_b (g1.2.2.2.2.1 q hq).2.2.2.2.2).2
  rw [v2]
  have c2 : MR (wr J1 59 (4 * q + 3) (inc ((lS1 B S p q).1 5 q))) (lS2 B S p q) := MR_set c1 (j := 3) (by omega)
  generalize hJ2 : wr J1 59 (4 * q + 3) (inc ((lS1 B S p q).1 5 q)) = J2 at c2 ⊢
  have f2 : FrM I J2 := by rw [← hJ2]; exact f1.tr FrM.wr59
  rw [if_pos (inb_t (by omega) (by omega)), cl_nI (by omega), s7w, bnd_some, if_pos (inb_t (by omega) (by omega)), lt1_eq]
  have v3 : c99 (J2 60 (6 * p + q) + 1) = inc ((lS2 B S p q).1 (6 + q) p) := by rw [c2.2.2.2.2 p q hp hq]; exact (inc_b (g2.2.2.2.2.2 p q hp hq)).2
  rw [v3]
  have c3 : MR (wr J2 60 (6 * p + q) (inc ((lS2 B S p q).1 (6 + q) p))) (lS3 B S p q) := MR_tal c2 hN hp hq
  generalize hJ3 : wr J2 60 (6 * p + q) (inc ((lS2 B S p q).1 (6 + q) p)) = J3 at c3 ⊢
  have f3 : FrM I J3 := by rw [← hJ3]; exact f2.tr FrM.wr60
  rw [lt1_eq, if_pos (inb_t (by omega) (by omega)), cl_nI (by omega), s7w, bnd_some, if_pos (inb_t (by omega) (by omega)), lt1_eq]
  have v4 : c99 (J3 59 (4 * p + 2) + 1) = inc ((lS3 B S p q).1 4 p) := by rw [(c3.2.2.2.1 p hp).2.2.2.2.1]; exact (inc_b (g3.2.2.2.2.1 p hp).2.2.2.2.1).2
  rw [v4]
  have c4 : MR (wr J3 59 (4 * p + 2) (inc ((lS3 B S p q).1 4 p))) (landS B S p q) := MR_set c3 (j := 2) (by omega)
  generalize hJ4 : wr J3 59 (4 * p + 2) (inc ((lS3 B S p q).1 4 p)) = J4 at c4 ⊢
  have f4 : FrM I J4 := by rw [← hJ4]; exact f3.tr FrM.wr59
  rw [s7_isUp (by omega), bnd_some, (c4.2.2.2.1 q hq).2.2.2.1]
  have hb := (g4.2.2.2.2.1 q hq).2.2.2.1
  refine ⟨J4, ?_, c4, f4⟩
  by_cases h : (landS B S p q).1 3 q = 0
  · rw [if_pos (show (landS B S p q).1 3 q ≤ 0 by rw [h]; decide), if_pos rfl, if_pos h]
  · have h' : ¬ (landS B S p q).1 3 q ≤ 0 := by
      intro hh
      have a := (i_le _ _).mp hh
      rw [show (0 : Int32).toInt = 0 from rfl] at a
      exact h ((i_eq _ _).mpr (by rw [show (0 : Int32).toInt = 0 from rfl]; omega))
    rw [if_neg h', if_neg (by decide), if_neg h]
theorem s7_steps (hg : GS S) (hp : p < S.2.1) (hq : q < S.2.1) (hM : MR I S) : ∃ J, f_X7_steps (nI p) (nI q) I = some ((), J) ∧ MR J (stepS S p q) ∧ FrM I J := by
  have hN := hg.1
  have hx := (hM.2.2.2.1 p hp).2.2.1
  have hy := (hM.2.2.2.1 q hq).2.2.1
  have bx := (hg.2.2.2.2.1 p hp).2.2.1
  have by' := (hg.2.2.2.2.1 q hq).2.2.1
  have mr : MR (wr I 59 (4 * p) (stepV (S.1 2 p) (S.1 2 q))) (stepS S p q) := by
    have h := MR_set (j := 0) (p := p) (v := stepV (S.1 2 p) (S.1 2 q)) hM (by omega)
    exact h
  refine ⟨wr I 59 (4 * p) (stepV (S.1 2 p) (S.1 2 q)), ?_, mr, FrM.wr59⟩
  generalize hX : S.1 2 p = X at *
  generalize hY : S.1 2 q = Y at *
  have a1 := ti_m8 bx.1 bx.2
  have a2 := ti_m8 by'.1 by'.2
  have b1 := ti_div8 bx.1 bx.2
  have b2 := ti_div8 by'.1 by'.2
  have c3 : ((Y - Y / 8 * 8) - (X - X / 8 * 8)).toInt = Y.toInt % 8 - X.toInt % 8 := by rw [ti_sub] <;> omega
  have c4 : (Y / 8 - X / 8).toInt = Y.toInt / 8 - X.toInt / 8 := by rw [ti_sub] <;> omega
  have e0 : (0 : Int32).toInt = 0 := rfl
  have k1 : (X / 8 = Y / 8) ↔ (Y / 8 - X / 8 = 0) := by rw [i_eq, i_eq, c4, b1, b2, e0]; omega
  have k2 : (Y - Y / 8 * 8 ≤ X - X / 8 * 8) ↔ ((Y - Y / 8 * 8) - (X - X / 8 * 8) ≤ 0) := by rw [i_le, i_le, c3, a1, a2, e0]; omega
  have k3 : (Y / 8 ≤ X / 8) ↔ (Y / 8 - X / 8 ≤ 0) := by rw [i_le, i_le, c4, b1, b2, e0]; omega
  rw [f_X7_steps, fact4, fact4]
  simp (disch := omega) only [inb_t, if_true, lt1_eq, cl_nI, hx, hy, f_X7_steps_b97, f_X7_steps_b53, stepV]
  by_cases h1 : X / 8 = Y / 8
  · rw [if_pos h1, if_pos (k1.mp h1)]
    by_cases h2 : Y - Y / 8 * 8 ≤ X - X / 8 * 8
    · rw [if_pos h2, if_pos (k2.mp h2)]
    · rw [if_neg h2, if_neg (fun h => h2 (k2.mpr h))]
  · rw [if_neg h1, if_neg (fun h => h1 (k1.mpr h))]
    by_cases h2 : Y / 8 ≤ X / 8
    · rw [if_pos h2, if_pos (k3.mp h2)]
    · rw [if_neg h2, if_neg (fun h => h2 (k3.mpr h))]
theorem s7_pstep {n : Nat} {fl : Int32} (hg : GS S) (hp : p < S.2.1) (hO : BOK B) (hB : BM I S.2.2.2 B) (hM : MR I S) : ∃ J, f_X7_roundOf_b4 (n + 1) (nI p) fl I = f_X7_roundOf_b4 n (nI (p + 1)) (pstep B p (S, fl)).2 J ∧ MR J (pstep B p (S, fl)).1 ∧ FrM I J := by
  have hN := hg.1
  rw [f_X7_roundOf_b4, hM.1, if_neg (by rw [nI_le' (by omega) (by omega)]; omega), s7_isUp (by omega), bnd_some, (hM.2.2.2.1 p hp).2.2.2.1]
  unfold pstep
  by_cases h1 : S.1 3 p ≤ 0
  · rw [if_pos h1, if_pos rfl, if_pos h1, f_X7_roundOf_b29, if_pos rfl, f_X7_roundOf_b40, if_pos rfl, f_X7_roundOf_b54, if_pos rfl, nI_1]
    exact ⟨I, rfl, hM, FrM.rf⟩
  · rw [if_neg h1, if_neg (by decide), if_neg h1, s7_nearest hg hp hM, bnd_some, f_X7_roundOf_b29]
    dsimp only
    rcases near_or (S := S) (p := p) with hq | ⟨q, hqN, hqp, hu, hq⟩
    · rw [if_pos hq, f_X7_roundOf_b40, if_pos rfl, f_X7_roundOf_b54, if_pos rfl, nI_1]
      refine ⟨I, ?_, ?_, FrM.rf⟩
      · by_cases h2 : goesS B S p = 0
        · rw [if_pos h2]
        · rw [if_neg h2, if_pos hq]
      · by_cases h2 : goesS B S p = 0
        · rw [if_pos h2]; exact hM
        · rw [if_neg h2, if_pos hq]; exact hM
    · have hne : ¬ nearS S p = -1 := by
        rw [hq]
        intro hh
        have h' := (i_eq _ _).mp hh
        rw [ti_nI (by omega), show (-1 : Int32).toInt = -1 from rfl] at h'
        omega
      have hcl : (nearS S p).toNatClampNeg = q := by rw [hq]; exact cl_nI (by omega)
      obtain ⟨J1, e1, o1⟩ := s7_goes hg hp hO hB hM
      have hM1 := MR_off hM o1
      rw [if_neg hne, f_X7_roundOf_b40, if_neg (by decide), e1, bnd_some, f_X7_roundOf_b54]
      by_cases h2 : goesS B S p = 0
      · rw [if_pos h2, if_pos h2, nI_1]
        exact ⟨J1, rfl, hM1, FrM.of o1⟩
      · rw [if_neg h2, if_neg h2, if_neg hne, hcl, hq, s7_far (by omega) (by omega), bnd_some, (hM1.2.2.2.1 p hp).2.2.1, (hM1.2.2.2.1 q hqN).2.2.1]
        by_cases h3 : farS (S.1 2 p) (S.1 2 q) ≤ 1
        · rw [if_pos h3, if_pos h3]
          obtain ⟨J2, e2, m2, f2⟩ := s7_hitBy (q := q) hg hp hqN hO (BM_Fr hB (FrM.of o1)) hM1
          rw [e2, bnd_some]
          refine ⟨J2, ?_, m2, (FrM.of o1).tr f2⟩
          by_cases h4 : (landS B S p q).1 3 q = 0
          · rw [if_pos h4, if_neg (by decide), if_pos h4, f_X7_roundOf_b95, lt1_eq, nI_1]
          · rw [if_neg h4, if_pos rfl, if_neg h4, f_X7_roundOf_b95, lt1_eq, nI_1]
        · rw [if_neg h3, if_neg h3]
          obtain ⟨J2, e2, m2, f2⟩ := s7_steps (q := q) hg hp hqN hM1
          rw [e2, bnd_some, nI_1]
          exact ⟨J2, rfl, m2, (FrM.of o1).tr f2⟩
theorem s7_round (hg : GS S) (hO : BOK B) (hB : BM I S.2.2.2 B) (hM : MR I S) : ∃ J, f_X7_roundOf I = some (rndF B S, J) ∧ MR J (rndS B S) ∧ FrM I J := by
  have key : ∀ (k n p : Nat) (S' : RS) (fl : Int32) (I : Mem), p + k = S'.2.1 → k < n → GS S' → BM I S'.2.2.2 B → MR I S' → ∃ J, f_X7_roundOf_b4 n (nI p) fl I = some ((lp (pstep B) k p (S', fl)).2, J) ∧ MR J ((lp (pstep B) k p (S', fl)).1.1, (lp (pstep B) k p (S', fl)).1.2.1, (lp (pstep B) k p (S', fl)).1.2.2.1 + 1, (lp (pstep B) k p (S', fl)).1.2.2.2) ∧ FrM I J := by
    intro k
    induction k with
    | zero =>
      intro n p S' fl I hp hn hg hB hM
      obtain ⟨n, rfl⟩ : ∃ m, n = m + 1 := ⟨n - 1, by omega⟩
      have hN := hg.1
      rw [f_X7_roundOf_b4, hM.1, if_pos ((nI_le' (by omega) (by omega)).mpr (by omega)), lt1_eq, hM.2.1]
      refine ⟨wr I 56 5 (S'.2.2.1 + 1), rfl, ?_, ⟨fun c a1 _ _ _ _ => wr_k _ _ _ a1, fun j hj => wr_j _ _ _ hj⟩⟩
      obtain ⟨h1, h2, h3, h4, h5⟩ := hM
      refine ⟨by rw [wr_j _ _ _ (by omega)]; exact h1, by rw [wr_s]; rfl, by rw [wr_j _ _ _ (by omega)]; exact h3, fun p hp => ?_, fun p q hp hq => by rw [wr_k _ _ _ (by omega)]; exact h5 p q hp hq⟩
      rw [wr_k _ _ _ (by omega), wr_k _ _ _ (by omega), wr_k _ _ _ (by omega)]
      exact h4 p hp
    | succ k ih =>
      intro n p S' fl I hp hn hg hB hM
      obtain ⟨n, rfl⟩ : ∃ m, n = m + 1 := ⟨n - 1, by omega⟩
      obtain ⟨J, e, c, f⟩ := s7_pstep (n := n) (fl := fl) hg (p := p) (by omega) hO hB hM
      obtain ⟨g, g2⟩ := pstep_G (B := B) (fl := fl) hg (p := p) (by omega)
      have gN : (pstep B p (S', fl)).1.2.1 = S'.2.1 := by rw [g2]
      have gL : (pstep B p (S', fl)).1.2.2.2 = S'.2.2.2 := by rw [g2]
      obtain ⟨K, e', c', f'⟩ := ih n (p + 1) (pstep B p (S', fl)).1 (pstep B p (S', fl)).2 J (by rw [gN]; omega) (by omega) g (by rw [gL]; exact BM_Fr hB f) c
      exact ⟨K, e.trans e', c', f.tr f'⟩
  exact key S.2.1 FU 0 S 0 I (by omega) (by show _ < 4096; have := hg.1; omega) hg hB hM
theorem rndL_G (hg : GS S) : GS (rndL B S).1 ∧ (rndL B S).1.2 = S.2 := by
  have key : ∀ (k p : Nat) (z : RS × Int32), p + k = z.1.2.1 → GS z.1 → GS (lp (pstep B) k p z).1 ∧ (lp (pstep B) k p z).1.2 = z.1.2 := by
    intro k
    induction k with
    | zero => intro p z _ h; exact ⟨h, rfl⟩
    | succ k ih =>
      intro p z hp h
      obtain ⟨g1, g2⟩ := pstep_G (B := B) (fl := z.2) h (p := p) (by omega)
      have gN : (pstep B p z).1.2.1 = z.1.2.1 := by rw [show z = (z.1, z.2) from rfl, g2]
      obtain ⟨a, b⟩ := ih (p + 1) (pstep B p z) (by rw [gN]; omega) g1
      exact ⟨a, b.trans g2⟩
  exact key S.2.1 0 (S, 0) (Nat.zero_add _) hg
theorem rndS_G (hg : GS S) (hr : S.2.2.1.toInt < 2000) : GS (rndS B S) ∧ (rndS B S).2.1 = S.2.1 ∧ (rndS B S).2.2.1.toInt = S.2.2.1.toInt + 1 ∧ (rndS B S).2.2.2 = S.2.2.2 := by
  obtain ⟨⟨h1, h2, h3, h4, h5, h6⟩, e⟩ := rndL_G (B := B) hg
  have er : (rndL B S).1.2.2.1 = S.2.2.1 := by rw [e]
  have g3 := hg.2.2.1
  have e1 : (S.2.2.1 + 1).toInt = S.2.2.1.toInt + 1 := by rw [ti_add] <;> rw [show (1 : Int32).toInt = 1 from rfl] <;> omega
  have e2 : (rndS B S).2.2.1.toInt = S.2.2.1.toInt + 1 := by show ((rndL B S).1.2.2.1 + 1).toInt = _; rw [er, e1]
  refine ⟨⟨h1, h2, by rw [e2]; omega, by rw [e2]; omega, h5, h6⟩, by show (rndL B S).1.2.1 = _; rw [e], e2, by show (rndL B S).1.2.2.2 = _; rw [e]⟩
end RM
