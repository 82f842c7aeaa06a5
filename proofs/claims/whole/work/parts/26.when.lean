/-! PURE 17: when, end -/
theorem s7_w5 {p : Nat} (hp : p < 6) (I : Mem) : f_X7_within (nI p) 0 5 I = some (nI p, I) := by
  rw [f_X7_within, show (0 : Int32) = nI 0 from rfl, show (5 : Int32) = nI 5 from rfl, if_pos ((nI_le' (by omega) (by omega)).mpr (by omega)), if_pos ((nI_le' (by omega) (by omega)).mpr (by omega))]
theorem s7_in5 {p : Nat} (hp : p < 6) (I : Mem) : f_X7_in (nI p) 0 5 I = some (1, I) := by
  rw [s7_in, wth, show (0 : Int32) = nI 0 from rfl, show (5 : Int32) = nI 5 from rfl, if_pos ((nI_le' (by omega) (by omega)).mpr (by omega)), if_pos ((nI_le' (by omega) (by omega)).mpr (by omega))]
/-- the first moment at which a is so -/
def whenS (B : Bk) (st : RS → Bool) : Nat → Nat → RS → Int32
  | 0, _, _ => -1
  | k + 1, i, S => if st S = true then nI i else whenS B st k (i + 1) (rndS B S)
def stA (p : Nat) (S : RS) : Bool := decide (S.1 3 p = 0)
def stB (S : RS) : Bool := decide (¬ 2 ≤ upn S)
theorem p_when (a : Int32) : Pair (f_X6_when a) (f_X7_when a) := by
  intro I hI
  obtain ⟨S, T, Bs, tp, tx, sh, im, hv⟩ := id hI
  obtain ⟨⟨c, m, g, r, z⟩, ⟨t1, t2, t3, t4, t5⟩, b, -, -, -, -⟩ := id hv
  have hN6 := g.1
  have c1 : I 2 8 = nI S.2.1 := c.1
  obtain ⟨b1, b2, b3⟩ := b S.2.2.2 t3
  have go : ∀ (st : RS → Bool), (a = 6 ∧ st = stB ∨ ∃ p, p < S.2.1 ∧ a = nI p ∧ st = stA p) → ∃ v J K, f_X6_when_b17 a I = some (v, J) ∧ FrC 1 I J ∧ f_X7_when_b26 a J = some (v, K) ∧ MO (Bs S.2.2.2) J K S := by
    intro st hst
    have keyC : ∀ (k n i : Nat) (S' : RS) (J : Mem), i + k = 61 → S'.2.1 = S.2.1 → k < n → S'.2.2.1.toInt + k ≤ 2000 → TH (Bs S.2.2.2) J S' → ∃ K, f_X6_when_b23 a n (nI i) J = some (whenS (Bs S.2.2.2) st k i S', K) ∧ FrC 1 J K := by
      intro k
      induction k with
      | zero =>
        intro n i S' J hi hs hn hr h
        obtain ⟨n, rfl⟩ : ∃ m, n = m + 1 := ⟨n - 1, by omega⟩
        rw [f_X6_when_b23, show (60 : Int32) = nI 60 from rfl, if_pos ((nI_lt' (by omega) (by omega)).mpr (by omega))]
        exact ⟨J, rfl, FrC.rf⟩
      | succ k ih =>
        intro n i S' J hi hs hn hr h
        obtain ⟨n, rfl⟩ : ∃ m, n = m + 1 := ⟨n - 1, by omega⟩
        obtain ⟨J2, e2, h2, f2⟩ := th_play b1 h (by omega)
        obtain ⟨g', a', b', d'⟩ := rndS_G (B := Bs S.2.2.2) h.1 (by omega)
        obtain ⟨K, e, f⟩ := ih n (i + 1) (rndS (Bs S.2.2.2) S') J2 (by omega) (by rw [a', hs]) (by omega) (by rw [b']; omega) h2
        rw [f_X6_when_b23, show (60 : Int32) = nI 60 from rfl, if_neg (by rw [nI_lt' (by omega) (by omega)]; omega), whenS]
        have e9 : f_X6_when_b63 a (f_X6_when_b23 a n) (nI i) J = some (whenS (Bs S.2.2.2) st k (i + 1) (rndS (Bs S.2.2.2) S'), K) := by rw [f_X6_when_b63, e2, bnd_some, nI_1, e]
        rcases hst with ⟨rfl, rfl⟩ | ⟨p, hp, rfl, rfl⟩
        · rw [if_pos rfl, s2_upCount h.2.1 h.1, bnd_some]
          by_cases hq : 2 ≤ upn S'
          · rw [if_pos hq, if_neg (by simp [stB, hq])]
            exact ⟨K, e9, f2.tr f⟩
          · rw [if_neg hq, if_pos (by simp [stB, hq])]
            exact ⟨J, rfl, FrC.rf⟩
        · have h14 : J 14 p = S'.1 3 p := (h.2.1.2.2.2.1 p (by rw [hs]; exact hp)).2.2.2.1
          rw [if_neg (show ¬ nI p = (6 : Int32) from fun hh => by have := (nI_eq' (b := 6) (by omega) (by omega)).mp hh; omega), if_pos (inb_t (by omega) (by omega)), cl_nI (by omega), h14]
          by_cases hq : S'.1 3 p = 0
          · rw [if_pos hq, if_pos (by simp [stA, hq])]
            exact ⟨J, rfl, FrC.rf⟩
          · rw [if_neg hq, if_neg (by simp [stA, hq])]
            exact ⟨K, e9, f2.tr f⟩
    have keyM : ∀ (I0 : Mem), MR I0 S → BM I0 S.2.2.2 (Bs S.2.2.2) → ∀ (k n i : Nat) (S' : RS) (J : Mem), i + k = 61 → S'.2.1 = S.2.1 → k + 1 < n → S'.2.2.1.toInt + k ≤ 2000 → MO (Bs S.2.2.2) I0 J S' → ∃ K, f_X7_when_b34 a n (nI i) (-1) J = some (whenS (Bs S.2.2.2) st k i S', K) ∧ MO (Bs S.2.2.2) I0 K S := by
      intro I0 m0 b0 k
      induction k with
      | zero =>
        intro n i S' J hi hs hn hr h
        obtain ⟨n, rfl⟩ : ∃ m, n = m + 1 := ⟨n - 1, by omega⟩
        obtain ⟨K, e, o⟩ := mo_back g m0 b0 h
        rw [f_X7_when_b34, show (60 : Int32) = nI 60 from rfl, if_pos ((nI_lt' (by omega) (by omega)).mpr (by omega)), f_X7_when_b112, e, bnd_some]
        exact ⟨K, rfl, o⟩
      | succ k ih =>
        intro n i S' J hi hs hn hr h
        obtain ⟨n, rfl⟩ : ∃ m, n = m + 1 := ⟨n - 1, by omega⟩
        obtain ⟨J2, e2, h2⟩ := mo_play b1 h (by omega)
        obtain ⟨g', a', b', d'⟩ := rndS_G (B := Bs S.2.2.2) h.1 (by omega)
        have yes : ∃ K, f_X7_when_b88 a (f_X7_when_b34 a n) (nI i) 1 J = some (nI i, K) ∧ MO (Bs S.2.2.2) I0 K S := by
          obtain ⟨K, e, o⟩ := mo_back g m0 b0 h2
          obtain ⟨n, rfl⟩ : ∃ m, n = m + 1 := ⟨n - 1, by omega⟩
          rw [f_X7_when_b88, if_neg (by decide), f_X7_when_b100, e2, bnd_some, f_X7_when_b34, if_neg (ne_m1 (by omega)), ite_self, f_X7_when_b112, e, bnd_some]
          exact ⟨K, rfl, o⟩
        have no : ∃ K, f_X7_when_b88 a (f_X7_when_b34 a n) (nI i) 0 J = some (whenS (Bs S.2.2.2) st k (i + 1) (rndS (Bs S.2.2.2) S'), K) ∧ MO (Bs S.2.2.2) I0 K S := by
          rw [f_X7_when_b88, if_pos rfl, f_X7_when_b100, e2, bnd_some, nI_1]
          exact ih n (i + 1) (rndS (Bs S.2.2.2) S') J2 (by omega) (by rw [a', hs]) (by omega) (by rw [b']; omega) h2
        rw [f_X7_when_b34, show (60 : Int32) = nI 60 from rfl, if_neg (by rw [nI_lt' (by omega) (by omega)]; omega), if_pos rfl, whenS]
        rcases hst with ⟨rfl, rfl⟩ | ⟨p, hp, rfl, rfl⟩
        · rw [if_pos rfl, s7_upSet h.2.1 h.1, bnd_some, s7_onesOf, bnd_some, ones_upb h.1]
          by_cases hq : 2 ≤ upn S'
          · rw [if_pos hq, if_neg (by simp [stB, hq])]
            exact no
          · rw [if_neg hq, if_pos (by simp [stB, hq])]
            exact yes
        · have h14 := (h.2.1.2.2.2.1 p (by rw [hs]; exact hp)).2.2.2.1
          have gi := (h.1.2.2.2.2.1 p (by rw [hs]; exact hp)).2.2.2.1
          rw [if_neg (show ¬ nI p = (6 : Int32) from fun hh => by have := (nI_eq' (b := 6) (by omega) (by omega)).mp hh; omega), s7_w5 (by omega), bnd_some, s7_isUp (by omega), bnd_some, h14]
          by_cases hq : S'.1 3 p ≤ 0
          · rw [if_pos hq, if_pos rfl, if_pos (by simp [stA, felt0 gi.1 hq])]
            exact yes
          · rw [if_neg hq, if_neg (show ¬ (1 : Int32) = 0 by decide), if_neg (by rw [stA, decide_eq_true_eq]; exact fun hh => hq (by rw [hh]; decide))]
            exact no
    obtain ⟨C1, d1, w1, f1⟩ := th_start g c z b2
    obtain ⟨J, e, f⟩ := keyC 61 FU 0 S C1 (by omega) rfl (by show _ < 4096; omega) (by omega) w1
    have ff := f1.tr f
    have hvK := IV_c ff hv
    have mK := hvK.1.2.1
    have bK := (hvK.2.2.1 _ t3).2.2
    obtain ⟨J1, e1, o1⟩ := mo_start g mK bK
    obtain ⟨K2, e3, o3⟩ := keyM J mK bK 61 FU 0 S J1 (by omega) rfl (by show _ < 4096; omega) (by omega) o1
    refine ⟨whenS (Bs S.2.2.2) st 61 0 S, J, K2, ?_, ff, ?_, o3⟩
    · rw [f_X6_when_b17, d1, bnd_some]
      exact e
    · rw [f_X7_when_b26, e1, bnd_some]
      exact e3
  rcases hat_or a (N := S.2.1) (by omega) with ⟨p, hp, rfl, u⟩ | ⟨hnp, u⟩
  · obtain ⟨v, J, K, e, f, e2, o⟩ := go (stA p) (Or.inr ⟨p, hp, rfl, rfl⟩)
    have mJ := (IV_c f hv).1.2.1
    refine ⟨v, J, K, ?_, ?_, IV_q f o.2.2.2.2 o.2.1 hv⟩
    · rw [f_X6_when, s6_isHat, bnd_some, c1, u, if_neg (by decide), e]
    · rw [f_X7_when, if_neg (show ¬ nI p = (6 : Int32) from fun hh => by have := (nI_eq' (b := 6) (by omega) (by omega)).mp hh; omega), s7_in5 (by omega), bnd_some, if_neg (by decide), s7_isOne, bnd_some, mJ.1, u, if_neg (by decide), e2]
  · by_cases h6 : a = 6
    · obtain ⟨v, J, K, e, f, e2, o⟩ := go stB (Or.inl ⟨h6, rfl⟩)
      refine ⟨v, J, K, ?_, ?_, IV_q f o.2.2.2.2 o.2.1 hv⟩
      · rw [f_X6_when, s6_isHat, bnd_some, c1, u, if_pos rfl, if_pos h6, e]
      · rw [f_X7_when, if_pos h6, e2]
    · refine ⟨-5, I, I, ?_, ?_, hI⟩
      · rw [f_X6_when, s6_isHat, bnd_some, c1, u, if_pos rfl, if_neg h6]
      · rw [f_X7_when, if_neg h6, s7_in, bnd_some, s7_isOne, bnd_some, m.1, u, if_pos rfl, ite_self]
theorem mf_or {S : RS} : mfS S = -1 ∨ ∃ j, j < S.2.1 ∧ mfS S = nI j := by
  have key : ∀ (k p : Nat) (b : Int32 × Int32), p + k = S.2.1 → (b.2 = -1 ∨ ∃ j, j < S.2.1 ∧ b.2 = nI j) → ((lp (mfG S) k p b).2 = -1 ∨ ∃ j, j < S.2.1 ∧ (lp (mfG S) k p b).2 = nI j) := by
    intro k
    induction k with
    | zero => intro p b _ h; exact h
    | succ k ih =>
      intro p b hp h
      refine ih (p + 1) (mfG S p b) (by omega) ?_
      unfold mfG
      split
      · exact h
      · exact Or.inr ⟨p, by omega, rfl⟩
  exact key S.2.1 0 (0, -1) (by omega) (Or.inl rfl)
/-- the lowest bit: from below, from above -/
def lowF (a : Int32) : Nat → Nat → Int32
  | 0, _ => -1
  | k + 1, i => if ((a >>> (nI i &&& 31)) &&& 1) = 0 then lowF a k (i + 1) else nI i
def lowD (a : Int32) : Nat → Int32 → Int32
  | 0, x => x
  | k + 1, x => lowD a k (if ((a >>> (nI k &&& 31)) &&& 1) = 1 then nI k else x)
theorem low_eq {x : Int32} (h : BS x) (h0 : ¬ x = 0) : lowD x 6 (-1) = lowF x 6 0 ∧ ¬ lowF x 6 0 = -1 := by
  obtain ⟨m, hm, rfl⟩ := h
  have hd : ∀ m : Fin 64, ¬ nI m.1 = 0 → lowD (nI m.1) 6 (-1) = lowF (nI m.1) 6 0 ∧ ¬ lowF (nI m.1) 6 0 = -1 := by decide
  exact hd ⟨m, hm⟩ h0
theorem s6_lowestBit (a : Int32) (I : Mem) : f_X6_lowestBit a I = some (lowF a 6 0, I) := by
  have key : ∀ (k n i : Nat), i + k = 6 → k < n → f_X6_lowestBit_b2 a n (nI i) I = some (lowF a k i, I) := by
    intro k
    induction k with
    | zero =>
      intro n i hi hn
      obtain ⟨n, rfl⟩ : ∃ m, n = m + 1 := ⟨n - 1, by omega⟩
      rw [f_X6_lowestBit_b2, show (6 : Int32) = nI 6 from rfl, if_pos ((nI_le' (by omega) (by omega)).mpr (by omega))]
      rfl
    | succ k ih =>
      intro n i hi hn
      obtain ⟨n, rfl⟩ : ∃ m, n = m + 1 := ⟨n - 1, by omega⟩
      rw [f_X6_lowestBit_b2, show (6 : Int32) = nI 6 from rfl, if_neg (by rw [nI_le' (by omega) (by omega)]; omega), nI_1, lowF, ih n (i + 1) (by omega) (by omega)]
      split <;> rfl
  exact key 6 FU 0 (by omega) (by show _ < 4096; omega)
theorem rndF_BS {B : Bk} {S : RS} (g : GS S) : BS (rndF B S) := by
  have key : ∀ (k p : Nat) (z : RS × Int32), p + k = S.2.1 → z.1.2 = S.2 → GS z.1 → BS z.2 → BS (lp (pstep B) k p z).2 := by
    intro k
    induction k with
    | zero => intro p z _ _ _ h; exact h
    | succ k ih =>
      intro p z hp hz hg h
      have hN := g.1
      have hN2 : z.1.2.1 = S.2.1 := by rw [hz]
      obtain ⟨g1, g2⟩ := pstep_G (B := B) (fl := z.2) hg (p := p) (by omega)
      refine ih (p + 1) (pstep B p z) (by omega) (g2.trans hz) g1 ?_
      unfold pstep
      by_cases h1 : z.1.1 3 p ≤ 0
      · rw [if_pos h1]; exact h
      · rw [if_neg h1]
        by_cases h2 : goesS B z.1 p = 0
        · rw [if_pos h2]; exact h
        · rw [if_neg h2]
          rcases near_or (S := z.1) (p := p) with hq | ⟨q, hqN, hqp, hu, hq⟩
          · rw [if_pos hq]; exact h
          · have hcl : (nearS z.1 p).toNatClampNeg = q := by rw [hq]; exact cl_nI (by omega)
            rw [if_neg (by rw [hq]; exact ne_m1 (by omega)), hcl]
            split
            · dsimp only
              split
              · exact BS_or h (by omega)
              · rw [or0]; exact h
            · exact h
  exact key S.2.1 0 (S, 0) (by omega) rfl g BS_0
/-- the first round with a fall: which, and who -/
def endF (B : Bk) : Nat → Nat → RS → Int32 × Int32 → Int32 × Int32
  | 0, _, _, y => y
  | k + 1, i, S, y => endF B k (i + 1) (rndS B S) (if y.2 = 0 then (if rndF B S = 0 then y else (nI i, rndF B S)) else y)
def endV (S : RS) (y : Int32 × Int32) (w : Int32) : Int32 := if w = 0 then mfS S else if w = 1 then (if mfS S = -1 then 0 else S.1 3 (mfS S).toNatClampNeg) else if w = 2 then lowF y.2 6 0 else y.1
theorem p_end (a : Int32) : Pair (f_X6_end a) (f_X7_end a) := by
  intro I hI
  obtain ⟨S, T, Bs, tp, tx, sh, im, hv⟩ := id hI
  obtain ⟨⟨c, m, g, r, z⟩, ⟨t1, t2, t3, t4, t5⟩, b, -, -, -, -⟩ := id hv
  have hN6 := g.1
  have c1 : I 2 8 = nI S.2.1 := c.1
  obtain ⟨b1, b2, b3⟩ := b S.2.2.2 t3
  rcases hat_or a (N := 4) (by omega) with ⟨w, hw, rfl, u⟩ | ⟨_, u⟩
  · have u' : wth (nI w) 0 3 = 1 := u
    have keyC : ∀ (k n i : Nat) (S' : RS) (y : Int32 × Int32) (J : Mem), i + k = 60 → S'.2.1 = S.2.1 → k < n → S'.2.2.1.toInt + k ≤ 2000 → TH (Bs S.2.2.2) J S' → ∃ K, f_X6_end_b23 (nI w) n (nI i) y.1 y.2 J = some (endV (itS (Bs S.2.2.2) k S') (endF (Bs S.2.2.2) k i S' y) (nI w), K) ∧ FrC 1 J K := by
      intro k
      induction k with
      | zero =>
        intro n i S' y J hi hs hn hr h
        obtain ⟨n, rfl⟩ : ∃ m, n = m + 1 := ⟨n - 1, by omega⟩
        rw [f_X6_end_b23, show (60 : Int32) = nI 60 from rfl, if_pos ((nI_le' (by omega) (by omega)).mpr (by omega)), s2_mostFelt h.1 h.2.1, bnd_some, s6_lowestBit, bnd_some, endV, itS, endF]
        refine ⟨J, ?_, FrC.rf⟩
        have i14 : (if mfS S' = -1 then some ((0 : Int32), J) else if inb (mfS S') 6 = true then some (J 14 (mfS S').toNatClampNeg, J) else none) = some (if mfS S' = -1 then 0 else S'.1 3 (mfS S').toNatClampNeg, J) := by
          by_cases hm : mfS S' = -1
          · rw [if_pos hm, if_pos hm]
          · rcases mf_or (S := S') with hm2 | ⟨j, hj, hm2⟩
            · exact absurd hm2 hm
            · have h14 : J 14 j = S'.1 3 j := (h.2.1.2.2.2.1 j hj).2.2.2.1
              rw [if_neg hm, if_neg hm, hm2, if_pos (inb_t (by omega) (by omega)), cl_nI (by omega), h14]
        rw [i14, some_if, some_if, some_if]
      | succ k ih =>
        intro n i S' y J hi hs hn hr h
        obtain ⟨n, rfl⟩ : ∃ m, n = m + 1 := ⟨n - 1, by omega⟩
        obtain ⟨J2, e2, h2, f2⟩ := th_play b1 h (by omega)
        obtain ⟨g', a', b', d'⟩ := rndS_G (B := Bs S.2.2.2) h.1 (by omega)
        rw [f_X6_end_b23, show (60 : Int32) = nI 60 from rfl, if_neg (by rw [nI_le' (by omega) (by omega)]; omega), e2, bnd_some, nI_1, itS, endF]
        have nx : ∀ y : Int32 × Int32, ∃ K, f_X6_end_b23 (nI w) n (nI (i + 1)) y.1 y.2 J2 = some (endV (itS (Bs S.2.2.2) k (rndS (Bs S.2.2.2) S')) (endF (Bs S.2.2.2) k (i + 1) (rndS (Bs S.2.2.2) S') y) (nI w), K) ∧ FrC 1 J K := by
          intro y
          obtain ⟨K, e, f⟩ := ih n (i + 1) (rndS (Bs S.2.2.2) S') y J2 (by omega) (by rw [a', hs]) (by omega) (by rw [b']; omega) h2
          exact ⟨K, e, f2.tr f⟩
        by_cases h0 : y.2 = 0
        · rw [if_pos h0, if_pos h0]
          by_cases h1 : rndF (Bs S.2.2.2) S' = 0
          · rw [if_pos h1, if_pos h1]; exact nx y
          · rw [if_neg h1, if_neg h1]; exact nx (nI i, rndF (Bs S.2.2.2) S')
        · rw [if_neg h0, if_neg h0]; exact nx y
    have keyM : ∀ (I0 : Mem), MR I0 S → BM I0 S.2.2.2 (Bs S.2.2.2) → ∀ (k n i : Nat) (S' : RS) (y : Int32 × Int32) (J : Mem), i + k = 60 → S'.2.1 = S.2.1 → k < n → S'.2.2.1.toInt + k ≤ 2000 → BS y.2 → MO (Bs S.2.2.2) I0 J S' → ∃ K, f_X7_end_b23 (nI w) n (nI i) y.1 (lowF y.2 6 0) J = some (endV (itS (Bs S.2.2.2) k S') (endF (Bs S.2.2.2) k i S' y) (nI w), K) ∧ MO (Bs S.2.2.2) I0 K S := by
      intro I0 m0 b0 k
      induction k with
      | zero =>
        intro n i S' y J hi hs hn hr hy h
        obtain ⟨n, rfl⟩ : ∃ m, n = m + 1 := ⟨n - 1, by omega⟩
        obtain ⟨K, e, o⟩ := mo_back g m0 b0 h
        obtain ⟨em, hm⟩ := s7_mostFelt h.1 h.2.1
        rw [f_X7_end_b23, show (60 : Int32) = nI 60 from rfl, if_pos ((nI_le' (by omega) (by omega)).mpr (by omega)), em, bnd_some, endV, itS, endF]
        rcases hm with hm | ⟨j, hj, hm⟩
        · rw [if_pos hm, f_X7_end_b115, e, bnd_some, if_pos hm]
          exact ⟨K, by rw [some_if, some_if, some_if], o⟩
        · have h14 := (h.2.1.2.2.2.1 j hj).2.2.2.1
          have hne : ¬ mfS S' = -1 := by rw [hm]; exact ne_m1 (by omega)
          rw [if_neg hne, lt1_eq, hm, fact4, nI_1, if_pos (inb_t (by omega) (by omega)), lt1_eq, cl_nI (by omega), cl_nI (by omega), h14, f_X7_end_b115, e, bnd_some, show (if nI j = -1 then (0 : Int32) else S'.1 3 j) = S'.1 3 j from if_neg (by rw [← hm]; exact hne)]
          exact ⟨K, by rw [some_if, some_if, some_if], o⟩
      | succ k ih =>
        intro n i S' y J hi hs hn hr hy h
        obtain ⟨n, rfl⟩ : ∃ m, n = m + 1 := ⟨n - 1, by omega⟩
        obtain ⟨J2, e2, h2⟩ := mo_play b1 h (by omega)
        obtain ⟨g', a', b', d'⟩ := rndS_G (B := Bs S.2.2.2) h.1 (by omega)
        have hF : BS (rndF (Bs S.2.2.2) S') := rndF_BS h.1
        rw [f_X7_end_b23, show (60 : Int32) = nI 60 from rfl, if_neg (by rw [nI_le' (by omega) (by omega)]; omega), e2, bnd_some, nI_1, itS, endF]
        have nx : ∀ y : Int32 × Int32, BS y.2 → ∃ K, f_X7_end_b23 (nI w) n (nI (i + 1)) y.1 (lowF y.2 6 0) J2 = some (endV (itS (Bs S.2.2.2) k (rndS (Bs S.2.2.2) S')) (endF (Bs S.2.2.2) k (i + 1) (rndS (Bs S.2.2.2) S') y) (nI w), K) ∧ MO (Bs S.2.2.2) I0 K S := by
          intro y hy
          exact ih n (i + 1) (rndS (Bs S.2.2.2) S') y J2 (by omega) (by rw [a', hs]) (by omega) (by rw [b']; omega) hy h2
        by_cases h1 : rndF (Bs S.2.2.2) S' = 0
        · rw [if_pos h1, show (if y.2 = 0 then (if rndF (Bs S.2.2.2) S' = 0 then y else (nI i, rndF (Bs S.2.2.2) S')) else y) = y from by rw [if_pos h1, ite_self]]
          exact nx y hy
        · rw [if_neg h1]
          by_cases h0 : y.2 = 0
          · have hl : lowF y.2 6 0 = -1 := by rw [h0]; decide
            rw [if_pos hl, if_pos h0, if_neg h1, hl]
            have inner : ∀ (l n2 : Nat) (x2 : Int32), l ≤ 6 → l < n2 → f_X7_end_b52 (nI w) (f_X7_end_b23 (nI w) n) n2 (nI l + (-1)) (nI i) (rndF (Bs S.2.2.2) S') (nI i) x2 J2 = f_X7_end_b23 (nI w) n (nI i + 1) (nI i) (lowD (rndF (Bs S.2.2.2) S') l x2) J2 := by
              intro l
              induction l with
              | zero =>
                intro n2 x2 _ hn2
                obtain ⟨n2, rfl⟩ : ∃ m, n2 = m + 1 := ⟨n2 - 1, by omega⟩
                rw [f_X7_end_b52, if_pos (by decide), lowD]
              | succ l ihl =>
                intro n2 x2 hl6 hn2
                obtain ⟨n2, rfl⟩ : ∃ m, n2 = m + 1 := ⟨n2 - 1, by omega⟩
                have d1 : ∀ l : Fin 6, nI (l.1 + 1) + (-1) = nI l.1 := by decide
                have d2 : nI (l + 1) + (-1) = nI l := d1 ⟨l, by omega⟩
                have d3 : ∀ l : Fin 6, ¬ nI l.1 < 0 := by decide
                rw [f_X7_end_b52, d2, if_neg (d3 ⟨l, by omega⟩), f_X7_end_b74, f_X7_end_b74, ihl n2 _ (by omega) (by omega), ihl n2 _ (by omega) (by omega), lowD]
                split <;> rfl
            have e5 : (5 : Int32) = nI 6 + (-1) := by decide
            rw [e5, inner 6 FU (-1) (by omega) (by show _ < 4096; omega), nI_1, (low_eq hF h1).1]
            exact nx (nI i, rndF (Bs S.2.2.2) S') hF
          · rw [if_neg (low_eq hy h0).2, if_neg h0]
            exact nx y hy
    obtain ⟨C1, d1, w1, f1⟩ := th_start g c z b2
    obtain ⟨J, e, f⟩ := keyC 60 FU 0 S (-1, 0) C1 (by omega) rfl (by show _ < 4096; omega) (by omega) w1
    have ff := f1.tr f
    have hvK := IV_c ff hv
    have mK := hvK.1.2.1
    have bK := (hvK.2.2.1 _ t3).2.2
    obtain ⟨J1, e1, o1⟩ := mo_start g mK bK
    obtain ⟨K2, e3, o3⟩ := keyM J mK bK 60 FU 0 S (-1, 0) J1 (by omega) rfl (by show _ < 4096; omega) (by omega) BS_0 o1
    refine ⟨endV (itS (Bs S.2.2.2) 60 S) (endF (Bs S.2.2.2) 60 0 S (-1, 0)) (nI w), J, K2, ?_, ?_, IV_q ff o3.2.2.2.2 o3.2.1 hv⟩
    · rw [f_X6_end, s6_within, bnd_some, u', if_neg (by decide), d1, bnd_some]
      exact e
    · rw [f_X7_end, s7_in, bnd_some, u', if_neg (by decide), e1, bnd_some]
      exact e3
  · have u' : wth a 0 3 = 0 := u
    exact ⟨-2, I, I, by rw [f_X6_end, s6_within, bnd_some, u', if_pos rfl], by rw [f_X7_end, s7_in, bnd_some, u', if_pos rfl], hI⟩
