/-! PURE 12: told, duel, taken, force, put, bell, betting -/
theorem okA_r {j : Nat} (h : j = 5 ∨ j = 6 ∨ j = 7 ∨ j = 8) : okA j = true := by rcases h with rfl | rfl | rfl | rfl <;> rfl
theorem om_some {α : Type} (k : Nat) (a : α) (f : Nat → α) : om (some k) a f = f k := rfl
theorem om_none {α : Type} (a : α) (f : Nat → α) : om none a f = a := rfl
theorem goesS_or (B : Bk) (S : RS) (p : Nat) : goesS B S p = 0 ∨ goesS B S p = 1 := goS_or (b01_or _)
theorem p_told (a w : Int32) : Pair (f_X6_told a w) (f_X7_told a w) := by
  intro I hI
  obtain ⟨S, T, Bs, tp, tx, sh, im, hv⟩ := id hI
  obtain ⟨⟨c, m, g, r, z⟩, ⟨t1, t2, t3, t4, t5⟩, b, -, -, -, -⟩ := id hv
  have hN := g.1
  have c1 : I 2 8 = nI S.2.1 := c.1
  rcases hat_or a (N := S.2.1) (by omega) with ⟨p, hp, rfl, u⟩ | ⟨_, u⟩
  · obtain ⟨b1, b2, b3⟩ := b S.2.2.2 t3
    have h4 := c.2.2.2.1 p hp
    have m4 := m.2.2.2.1 p hp
    have e6 : f_X6_told (nI p) w I = (bnd (f_X2_rowOf 0 w I) fun v4 J3 => om v4 (if w = (4 : Int32) then (if inb (nI p) 6 = true then (some (J3 3 (nI p).toNatClampNeg, J3)) else none) else if w = (5 : Int32) then (if inb (nI p) 6 = true then (some (J3 4 (nI p).toNatClampNeg, J3)) else none) else if w = (6 : Int32) then (bnd (f_X2_goes 0 (nI p) J3) fun v17 J16 => if v17 = 0 then (some ((0 : Int32), J16)) else some ((1 : Int32), J16)) else if w = (7 : Int32) then (bnd (f_X2_nearest 0 (nI p) J3) fun v15 J14 => some (v15, J14)) else if w = (8 : Int32) then (bnd (f_X2_soft 0 (nI p) J3) fun v13 J12 => some ((1000 : Int32) + v13, J12)) else some ((-7 : Int32), J3)) (fun k5 => if okA k5 = true then if inb (nI p) 6 = true then (some (J3 k5 (nI p).toNatClampNeg, J3)) else none else none)) := by
      rw [f_X6_told, s6_isHat, bnd_some, c1, u, if_neg (by decide)]
    have f4 : (4 : Int32) * nI p + w = nI (4 * p) + w := by rw [fact4]
    have e7 : ∀ J, MR J S → f_X7_told (nI p) w J = (if w = (0 : Int32) then some (S.1 2 p, J) else if w = (1 : Int32) then some (S.1 3 p, J) else if w = (2 : Int32) then some (S.1 4 p, J) else if w = (3 : Int32) then some (S.1 5 p, J) else if w = (4 : Int32) then some (S.1 0 p, J) else if w = (5 : Int32) then some (S.1 1 p, J) else if w = (6 : Int32) then (bnd (f_X7_goes (nI p) J) fun v17 J16 => if v17 = 0 then (some ((0 : Int32), J16)) else some ((1 : Int32), J16)) else if w = (7 : Int32) then (bnd (f_X7_nearestOf (nI p) J) fun v15 J14 => some (v15, J14)) else if w = (8 : Int32) then (bnd (f_X7_softOf (nI p) J) fun v13 J12 => some ((1000 : Int32) + v13, J12)) else some ((-7 : Int32), J)) := by
      intro J mJ
      have m4 := mJ.2.2.2.1 p hp
      rw [f_X7_told, s7_isOne, bnd_some, mJ.1, u, if_neg (by decide), f4]
      by_cases w0 : w = 0
      · subst w0
        rw [if_pos rfl, if_pos rfl, show nI (4 * p) + (0 : Int32) = nI (4 * p) from nI_add _ 0, if_pos (inb_t (by omega) (by omega)), cl_nI (by omega), m4.2.2.1]
      · rw [if_neg w0, if_neg w0]
        by_cases w1 : w = 1
        · subst w1
          rw [if_pos rfl, if_pos rfl, show nI (4 * p) + (1 : Int32) = nI (4 * p + 1) from nI_add _ 1, if_pos (inb_t (by omega) (by omega)), cl_nI (by omega), m4.2.2.2.1]
        · rw [if_neg w1, if_neg w1]
          by_cases w2 : w = 2
          · subst w2
            rw [if_pos rfl, if_pos rfl, show nI (4 * p) + (2 : Int32) = nI (4 * p + 2) from nI_add _ 2, if_pos (inb_t (by omega) (by omega)), cl_nI (by omega), m4.2.2.2.2.1]
          · rw [if_neg w2, if_neg w2]
            by_cases w3 : w = 3
            · subst w3
              rw [if_pos rfl, if_pos rfl, show nI (4 * p) + (3 : Int32) = nI (4 * p + 3) from nI_add _ 3, if_pos (inb_t (by omega) (by omega)), cl_nI (by omega), m4.2.2.2.2.2]
            · rw [if_neg w3, if_neg w3, if_pos (inb_t (by omega) (by omega)), cl_nI (by omega), m4.1, if_pos (inb_t (by omega) (by omega)), m4.2.1]
    rw [e6, f_X2_rowOf]
    by_cases w0 : w = 0
    · refine ⟨S.1 2 p, I, I, ?_, by rw [e7 I m, if_pos w0], hI⟩
      rw [if_pos w0, bnd_some, om_some, if_pos (by rfl), if_pos (inb_t (by omega) (by omega)), cl_nI (by omega)]
      rw [show I (2 + 8 * 0 + 3) p = S.1 2 p from h4.2.2.1]
    · by_cases w1 : w = 1
      · refine ⟨S.1 3 p, I, I, ?_, by rw [e7 I m, if_neg w0, if_pos w1], hI⟩
        rw [if_neg w0, if_pos w1, bnd_some, om_some, if_pos (by rfl), if_pos (inb_t (by omega) (by omega)), cl_nI (by omega)]
        rw [show I (2 + 8 * 0 + 4) p = S.1 3 p from h4.2.2.2.1]
      · by_cases w2 : w = 2
        · refine ⟨S.1 4 p, I, I, ?_, by rw [e7 I m, if_neg w0, if_neg w1, if_pos w2], hI⟩
          rw [if_neg w0, if_neg w1, if_pos w2, bnd_some, om_some, if_pos (by rfl), if_pos (inb_t (by omega) (by omega)), cl_nI (by omega)]
          rw [show I (2 + 8 * 0 + 5) p = S.1 4 p from h4.2.2.2.2.1]
        · by_cases w3 : w = 3
          · refine ⟨S.1 5 p, I, I, ?_, by rw [e7 I m, if_neg w0, if_neg w1, if_neg w2, if_pos w3], hI⟩
            rw [if_neg w0, if_neg w1, if_neg w2, if_pos w3, bnd_some, om_some, if_pos (by rfl), if_pos (inb_t (by omega) (by omega)), cl_nI (by omega)]
            rw [show I (2 + 8 * 0 + 6) p = S.1 5 p from h4.2.2.2.2.2]
          · rw [if_neg w0, if_neg w1, if_neg w2, if_neg w3, bnd_some, om_none, if_pos (inb_t (by omega) (by omega)), cl_nI (by omega), show I 3 p = S.1 0 p from h4.1, if_pos (inb_t (by omega) (by omega)), show I 4 p = S.1 1 p from h4.2.1]
            by_cases w4 : w = 4
            · exact ⟨S.1 0 p, I, I, by rw [if_pos w4], by rw [e7 I m, if_neg w0, if_neg w1, if_neg w2, if_neg w3, if_pos w4], hI⟩
            · by_cases w5 : w = 5
              · exact ⟨S.1 1 p, I, I, by rw [if_neg w4, if_pos w5], by rw [e7 I m, if_neg w0, if_neg w1, if_neg w2, if_neg w3, if_neg w4, if_pos w5], hI⟩
              · by_cases w6 : w = 6
                · obtain ⟨J, e, o⟩ := s2_goes (ρ := 0) (by omega) g hp b1 b2 c
                  have hvJ := IV_c (FrC.id29 o) hv
                  obtain ⟨K, e2, o2⟩ := s7_goes g hp b1 (hvJ.2.2.1 S.2.2.2 t3).2.2 hvJ.1.2.1
                  refine ⟨goesS (Bs S.2.2.2) S p, J, K, ?_, ?_, IV_q (FrC.id29 o) (FrQ.of72 o2) (MR_off hvJ.1.2.1 o2) hv⟩
                  · rw [if_neg w4, if_neg w5, if_pos w6, e, bnd_some]
                    rcases goesS_or (Bs S.2.2.2) S p with h | h <;> rw [h] <;> rfl
                  · rw [e7 J hvJ.1.2.1, if_neg w0, if_neg w1, if_neg w2, if_neg w3, if_neg w4, if_neg w5, if_pos w6, e2, bnd_some]
                    rcases goesS_or (Bs S.2.2.2) S p with h | h <;> rw [h] <;> rfl
                · by_cases w7 : w = 7
                  · exact ⟨nearS S p, I, I, by rw [if_neg w4, if_neg w5, if_neg w6, if_pos w7, s2_nearest (ρ := 0) g hp c, bnd_some], by rw [e7 I m, if_neg w0, if_neg w1, if_neg w2, if_neg w3, if_neg w4, if_neg w5, if_neg w6, if_pos w7, s7_nearest g hp m, bnd_some], hI⟩
                  · by_cases w8 : w = 8
                    · obtain ⟨J, e, o⟩ := s2_soft (ρ := 0) (by omega) g hp b1 b2 c
                      have hvJ := IV_c (FrC.id29 o) hv
                      obtain ⟨K, e2, o2⟩ := s7_soft g hp b1 (hvJ.2.2.1 S.2.2.2 t3).2.2 hvJ.1.2.1
                      exact ⟨1000 + softS (Bs S.2.2.2) S p, J, K, by rw [if_neg w4, if_neg w5, if_neg w6, if_neg w7, if_pos w8, e, bnd_some], by rw [e7 J hvJ.1.2.1, if_neg w0, if_neg w1, if_neg w2, if_neg w3, if_neg w4, if_neg w5, if_neg w6, if_neg w7, if_pos w8, e2, bnd_some], IV_q (FrC.id29 o) (FrQ.of72 o2) (MR_off hvJ.1.2.1 o2) hv⟩
                    · exact ⟨-7, I, I, by rw [if_neg w4, if_neg w5, if_neg w6, if_neg w7, if_neg w8], by rw [e7 I m, if_neg w0, if_neg w1, if_neg w2, if_neg w3, if_neg w4, if_neg w5, if_neg w6, if_neg w7, if_neg w8], hI⟩
  · refine ⟨-5, I, I, ?_, ?_, hI⟩
    · rw [f_X6_told, s6_isHat, bnd_some, c1, u, if_pos rfl]
    · rw [f_X7_told, s7_isOne, bnd_some, m.1, u, if_pos rfl]
theorem p_duel (a a2 w : Int32) : Pair (f_X6_duel a a2 w) (f_X7_duel a a2 w) := by
  intro I hI
  obtain ⟨S, T, Bs, tp, tx, sh, im, hv⟩ := id hI
  obtain ⟨⟨c, m, g, r, z⟩, ⟨t1, t2, t3, t4, t5⟩, b, -, -, -, -⟩ := id hv
  have hN := g.1
  have c1 : I 2 8 = nI S.2.1 := c.1
  rcases hat_or a (N := S.2.1) (by omega) with ⟨p, hp, rfl, u⟩ | ⟨_, u⟩
  · rcases hat_or a2 (N := S.2.1) (by omega) with ⟨q, hq, rfl, u2⟩ | ⟨_, u2⟩
    · by_cases hpq : nI p = nI q
      · refine ⟨-5, I, I, ?_, ?_, hI⟩
        · rw [f_X6_duel, s6_isHat, bnd_some, c1, u, if_neg (by decide), s6_isHat, bnd_some, c1, u2, if_neg (by decide), if_pos hpq]
        · rw [f_X7_duel, f_X7_areTwo, s7_isOne, bnd_some, m.1, u, if_neg (by decide), s7_isOne, bnd_some, m.1, u2, if_neg (by decide), if_pos hpq, bnd_some, if_pos rfl]
      · obtain ⟨b1, b2, b3⟩ := b S.2.2.2 t3
        have k6 : nI p * (6 : Int32) + nI q = nI (p * 6 + q) := by rw [show (6 : Int32) = nI 6 from rfl, pk_mul, nI_add]
        have k7 : (6 : Int32) * nI p + nI q = nI (6 * p + q) := by rw [show (6 : Int32) = nI 6 from rfl, pk_mul, nI_add]
        have e6 : f_X6_duel (nI p) (nI q) w I = (if w = (0 : Int32) then (bnd (f_X2_hits 0 (nI p) (nI q) I) fun v18 J17 => some (v18, J17)) else if w = (1 : Int32) then (bnd (f_X2_hits 0 (nI p) (nI q) I) fun v12 J11 => bnd (f_X2_soft 0 (nI q) J11) fun v14 J13 => bnd (f_X2_blow v12 v14 J13) fun v16 J15 => some (v16, J15)) else if w = (2 : Int32) then (bnd (f_X2_far 0 (nI p) (nI q) I) fun v10 J9 => some (v10, J9)) else if w = (3 : Int32) then some (S.1 (6 + q) p, I) else some ((-7 : Int32), I)) := by
          rw [f_X6_duel, s6_isHat, bnd_some, c1, u, if_neg (by decide), s6_isHat, bnd_some, c1, u2, if_neg (by decide), if_neg hpq, k6, if_pos (inb_t (by omega) (by omega)), cl_nI (by omega)]
          rw [show I 9 (p * 6 + q) = S.1 (6 + q) p from c.2.2.2.2 p q hp hq]
        have e7 : ∀ J, MR J S → f_X7_duel (nI p) (nI q) w J = (if w = (0 : Int32) then (bnd (f_X7_hitsOf (nI p) (nI q) J) fun v12 J11 => some (v12, J11)) else if w = (1 : Int32) then (bnd (f_X7_blowOf (nI p) (nI q) J) fun v10 J9 => some (v10, J9)) else if w = (2 : Int32) then (bnd (f_X7_farOf (nI p) (nI q) J) fun v8 J7 => some (v8, J7)) else if w = (3 : Int32) then some (S.1 (6 + q) p, J) else some ((-7 : Int32), J)) := by
          intro J mJ
          rw [f_X7_duel, f_X7_areTwo, s7_isOne, bnd_some, mJ.1, u, if_neg (by decide), s7_isOne, bnd_some, mJ.1, u2, if_neg (by decide), if_neg hpq, bnd_some, if_neg (by decide), k7, if_pos (inb_t (by omega) (by omega)), cl_nI (by omega), mJ.2.2.2.2 p q hp hq]
        rw [e6]
        by_cases w0 : w = 0
        · obtain ⟨J, e, o⟩ := s2_hits (ρ := 0) (q := q) (by omega) g hp hq b1 b2 c
          have hvJ := IV_c (FrC.id29 o) hv
          obtain ⟨K, e2, o2⟩ := s7_hits (q := q) g hp hq b1 (hvJ.2.2.1 S.2.2.2 t3).2.2 hvJ.1.2.1
          exact ⟨hitsS (Bs S.2.2.2) S p q, J, K, by rw [if_pos w0, e, bnd_some], by rw [e7 J hvJ.1.2.1, if_pos w0, e2, bnd_some], IV_q (FrC.id29 o) (FrQ.of72 o2) (MR_off hvJ.1.2.1 o2) hv⟩
        · by_cases w1 : w = 1
          · obtain ⟨J, e, o⟩ := s2_hits (ρ := 0) (q := q) (by omega) g hp hq b1 b2 c
            have hvJ := IV_c (FrC.id29 o) hv
            obtain ⟨J2, e2, o2⟩ := s2_soft (ρ := 0) (p := q) (by omega) g hq b1 (hvJ.2.2.1 S.2.2.2 t3).2.1 hvJ.1.1
            have hvJ2 := IV_c (FrC.id29 o2) hvJ
            obtain ⟨K, e3, o3⟩ := s7_blow (q := q) g hp hq b1 (hvJ2.2.2.1 S.2.2.2 t3).2.2 hvJ2.1.2.1
            refine ⟨blowS (Bs S.2.2.2) S p q, J2, K, ?_, by rw [e7 J2 hvJ2.1.2.1, if_neg w0, if_pos w1, e3, bnd_some], IV_q (FrC.id29 o2) (FrQ.of72 o3) (MR_off hvJ2.1.2.1 o3) hvJ⟩
            rw [if_neg w0, if_pos w1, e, bnd_some, e2, bnd_some, s2_blow, bnd_some]
            rfl
          · by_cases w2 : w = 2
            · refine ⟨farS (S.1 2 p) (S.1 2 q), I, I, ?_, ?_, hI⟩
              · rw [if_neg w0, if_neg w1, if_pos w2, s2_far (by omega) (by omega), bnd_some, (c.2.2.2.1 p hp).2.2.1, (c.2.2.2.1 q hq).2.2.1]
              · rw [e7 I m, if_neg w0, if_neg w1, if_pos w2, s7_far (by omega) (by omega), bnd_some, (m.2.2.2.1 p hp).2.2.1, (m.2.2.2.1 q hq).2.2.1]
            · by_cases w3 : w = 3
              · exact ⟨S.1 (6 + q) p, I, I, by rw [if_neg w0, if_neg w1, if_neg w2, if_pos w3], by rw [e7 I m, if_neg w0, if_neg w1, if_neg w2, if_pos w3], hI⟩
              · exact ⟨-7, I, I, by rw [if_neg w0, if_neg w1, if_neg w2, if_neg w3], by rw [e7 I m, if_neg w0, if_neg w1, if_neg w2, if_neg w3], hI⟩
    · refine ⟨-5, I, I, ?_, ?_, hI⟩
      · rw [f_X6_duel, s6_isHat, bnd_some, c1, u, if_neg (by decide), s6_isHat, bnd_some, c1, u2, if_pos rfl]
      · rw [f_X7_duel, f_X7_areTwo, s7_isOne, bnd_some, m.1, u, if_neg (by decide), s7_isOne, bnd_some, m.1, u2, if_pos rfl, bnd_some, if_pos rfl]
  · refine ⟨-5, I, I, ?_, ?_, hI⟩
    · rw [f_X6_duel, s6_isHat, bnd_some, c1, u, if_pos rfl]
    · rw [f_X7_duel, f_X7_areTwo, s7_isOne, bnd_some, m.1, u, if_pos rfl, bnd_some, if_pos rfl]
