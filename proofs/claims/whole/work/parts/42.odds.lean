/-! PURE 33: odds -/
theorem bit_up (u : Nat → Bool) {N p : Nat} (hN : N ≤ 6) (hp : p < N) : (((lp (fun p b => if u p = true then b ||| (1 <<< (nI p &&& 31)) else b) N 0 (0 : Int32)) >>> (nI p &&& 31)) &&& 1) = if u p = true then 1 else 0 := by
  rcases (show N = 1 ∨ N = 2 ∨ N = 3 ∨ N = 4 ∨ N = 5 ∨ N = 6 by omega) with rfl | rfl | rfl | rfl | rfl | rfl
  · rcases (show p = 0 by omega) with rfl
    cases h0 : u 0 <;> simp only [lp, h0] <;> decide
  · rcases (show p = 0 ∨ p = 1 by omega) with rfl | rfl <;> cases h0 : u 0 <;> cases h1 : u 1 <;> simp only [lp, h0, h1] <;> decide
  · rcases (show p = 0 ∨ p = 1 ∨ p = 2 by omega) with rfl | rfl | rfl <;> cases h0 : u 0 <;> cases h1 : u 1 <;> cases h2 : u 2 <;> simp only [lp, h0, h1, h2] <;> decide
  · rcases (show p = 0 ∨ p = 1 ∨ p = 2 ∨ p = 3 by omega) with rfl | rfl | rfl | rfl <;> cases h0 : u 0 <;> cases h1 : u 1 <;> cases h2 : u 2 <;> cases h3 : u 3 <;> simp only [lp, h0, h1, h2, h3] <;> decide
  · rcases (show p = 0 ∨ p = 1 ∨ p = 2 ∨ p = 3 ∨ p = 4 by omega) with rfl | rfl | rfl | rfl | rfl <;> cases h0 : u 0 <;> cases h1 : u 1 <;> cases h2 : u 2 <;> cases h3 : u 3 <;> cases h4 : u 4 <;> simp only [lp, h0, h1, h2, h3, h4] <;> decide
  · rcases (show p = 0 ∨ p = 1 ∨ p = 2 ∨ p = 3 ∨ p = 4 ∨ p = 5 by omega) with rfl | rfl | rfl | rfl | rfl | rfl <;> cases h0 : u 0 <;> cases h1 : u 1 <;> cases h2 : u 2 <;> cases h3 : u 3 <;> cases h4 : u 4 <;> cases h5 : u 5 <;> simp only [lp, h0, h1, h2, h3, h4, h5] <;> decide
theorem bit_upb {S : RS} {p : Nat} (hg : GS S) (hp : p < S.2.1) : ((upb S >>> (nI p &&& 31)) &&& 1) = 1 ↔ ¬ S.1 3 p ≤ 0 := by
  have h := bit_up (fun p => decide (¬ S.1 3 p ≤ 0)) hg.1 hp
  have e1 : upb S = lp (fun p b => if (decide (¬ S.1 3 p ≤ 0)) = true then b ||| (1 <<< (nI p &&& 31)) else b) S.2.1 0 0 := lp_congr _ _ _ (fun j b _ _ => by by_cases hh : S.1 3 j ≤ 0 <;> simp [hh])
  rw [e1, h]
  by_cases hh : S.1 3 p ≤ 0
  · rw [if_neg (by simp [hh])]
    exact ⟨fun q => absurd q (by decide), fun q => absurd hh q⟩
  · rw [if_pos (by simp [hh])]
    exact ⟨fun _ => hh, fun _ => rfl⟩
def odG (B : Bk) (S : RS) (p A : Nat) (i : Nat) (c : Nat) : Nat := if (itS B 20 (drS S (A + i))).1 3 p ≤ 0 then c else c + 1
theorem od_le {B : Bk} {S : RS} {p A : Nat} : ∀ (k i c : Nat), lp (odG B S p A) k i c ≤ c + k
  | 0, _, c => Nat.le_refl _
  | k + 1, i, c => by
    have h := od_le (B := B) (S := S) (p := p) (A := A) k (i + 1) (odG B S p A i c)
    have h2 : odG B S p A i c ≤ c + 1 := by unfold odG; split <;> omega
    rw [lp]
    omega
theorem p_odds (a a2 a3 a4 : Int32) : Pair (f_X6_odds a a2 a3 a4) (f_X7_odds a a2 a3 a4) := by
  intro I hI
  obtain ⟨S, T, Bs, tp, tx, sh, im, hv⟩ := id hI
  obtain ⟨⟨c, m, g, r, z⟩, ⟨t1, t2, t3, t4, t5⟩, b, -, -, -, -⟩ := id hv
  have hN6 := g.1
  have c1 : I 2 8 = nI S.2.1 := c.1
  obtain ⟨b1, b2, b3⟩ := b S.2.2.2 t3
  by_cases w1 : wth a 0 99999 = 0
  · exact ⟨-4611686018427387904, I, I, by rw [f_X6_odds, s6_within, bnd_some, if_pos w1], by rw [f_X7_odds, s7_in, bnd_some, if_pos w1], hI⟩
  · by_cases w2 : wth a2 1 40 = 0
    · exact ⟨-4611686018427387904, I, I, by rw [f_X6_odds, s6_within, bnd_some, if_neg w1, s6_within, bnd_some, if_pos w2], by rw [f_X7_odds, s7_in, bnd_some, if_neg w1, s7_in, bnd_some, if_pos w2], hI⟩
    · obtain ⟨A, hA, rfl⟩ := lot_of w1
      have hn : ∃ n : Nat, 1 ≤ n ∧ n ≤ 40 ∧ a2 = nI n := by
        by_cases q1 : (1 : Int32) ≤ a2
        · by_cases q2 : a2 ≤ 40
          · have g1 := (i_le _ _).mp q1
            have g2 := (i_le _ _).mp q2
            rw [show (1 : Int32).toInt = 1 from rfl] at g1
            rw [show (40 : Int32).toInt = 40 from rfl] at g2
            obtain ⟨n, hn, e, e2⟩ := nI_of_toInt (x := a2) (by omega)
            exact ⟨n, by omega, by omega, e⟩
          · exact absurd (by rw [wth, if_pos q1, if_neg q2]) w2
        · exact absurd (by rw [wth, if_neg q1]) w2
      obtain ⟨n, hn1, hn2, rfl⟩ := hn
      rcases hat_or a3 (N := S.2.1) (by omega) with ⟨p, hp, rfl, u⟩ | ⟨_, u⟩
      · have keyC : ∀ (k n' i cnt : Nat) (J : Mem), i + k = n → cnt ≤ i → k < n' → CB (Bs S.2.2.2) J S → ∃ K, f_X6_odds_b38 (nI A) (nI n) (nI p) a4 n' (nI i) (nI cnt) J = (bnd (f_X6_lowestTerms (nI (lp (odG (Bs S.2.2.2) S p A) k i cnt)) (nI n) a4 K) fun v8 J7 => some (v8, J7)) ∧ FrC 1 J K := by
          intro k
          induction k with
          | zero =>
            intro n' i cnt J hi hc hn' h
            obtain ⟨n', rfl⟩ : ∃ m, n' = m + 1 := ⟨n' - 1, by omega⟩
            rw [f_X6_odds_b38, if_pos ((nI_le' (by omega) (by omega)).mpr (by omega))]
            exact ⟨J, rfl, FrC.rf⟩
          | succ k ih =>
            intro n' i cnt J hi hc hn' h
            obtain ⟨n', rfl⟩ : ∃ m, n' = m + 1 := ⟨n' - 1, by omega⟩
            obtain ⟨J2, e2, h2, hd, f2⟩ := th_drawn (A := A + i) (by omega) b1 h r
            have hNT : (itS (Bs S.2.2.2) 20 (drS S (A + i))).2.1 = S.2.1 := by
              have gd : ∀ (k j : Nat) (zz : RS × Int64), GS zz.1 → LB zz.2 → GS (lp drG k j zz).1 := by
                intro k
                induction k with
                | zero => intro j zz h _; exact h
                | succ k ihk => intro j zz h hl; exact ihk (j + 1) (drG j zz) (GS_set h (plc_b hl)) (lcg_b hl)
              rw [(itS_G (B := Bs S.2.2.2) 20 (drS S (A + i)) (gd _ _ _ g (seed_b (by omega))) (by rw [hd]; omega)).2.1, hd]
            have h14 : J2 14 p = (itS (Bs S.2.2.2) 20 (drS S (A + i))).1 3 p := (h2.2.1.2.2.2.1 p (by rw [hNT]; exact hp)).2.2.2.1
            rw [f_X6_odds_b38, if_neg (by rw [nI_le' (by omega) (by omega)]; omega), nI_add, e2, bnd_some, if_pos (inb_t (by omega) (by omega)), cl_nI (by omega), h14, nI_1, nI_1, lp, odG]
            by_cases hq : (itS (Bs S.2.2.2) 20 (drS S (A + i))).1 3 p ≤ 0
            · rw [if_pos hq, if_pos hq]
              obtain ⟨K, e, f⟩ := ih n' (i + 1) cnt J2 (by omega) (by omega) (by omega) (cb_Fr h f2)
              exact ⟨K, e, f2.tr f⟩
            · rw [if_neg hq, if_neg hq]
              obtain ⟨K, e, f⟩ := ih n' (i + 1) (cnt + 1) J2 (by omega) (by omega) (by omega) (cb_Fr h f2)
              exact ⟨K, e, f2.tr f⟩
        obtain ⟨J, e, f⟩ := keyC n FU 0 0 I (by omega) (by omega) (by show _ < 4096; omega) ⟨g, c, z, b2⟩
        have hvJ := IV_c f hv
        have eC : f_X6_odds (nI A) (nI n) (nI p) a4 I = (bnd (f_X6_lowestTerms (nI (lp (odG (Bs S.2.2.2) S p A) n 0 0)) (nI n) a4 J) fun v8 J7 => some (v8, J7)) := by
          rw [f_X6_odds, s6_within, bnd_some, if_neg w1, s6_within, bnd_some, if_neg w2, s6_isHat, bnd_some, c1, u, if_neg (by decide)]
          exact e
        have hle : lp (odG (Bs S.2.2.2) S p A) n 0 0 ≤ 40 := by
          have := od_le (B := Bs S.2.2.2) (S := S) (p := p) (A := A) n 0 0
          omega
        rcases hat_or a4 (N := 2) (by omega) with ⟨w, hw, rfl, u4⟩ | ⟨_, u4⟩
        · have u4' : wth (nI w) 0 1 = 1 := u4
          have hlow := s7_lowest (c := lp (odG (Bs S.2.2.2) S p A) n 0 0) (n := n) (by omega) (by omega) (by omega) (w := nI w) (by rcases (show w = 0 ∨ w = 1 by omega) with rfl | rfl; exact Or.inl rfl; exact Or.inr rfl)
          have keyM : ∀ (k n' i cnt : Nat) (M : Mem), i + k = n → cnt ≤ i → k < n' → GS S → MR M S → FrQ J M → ∃ K, f_X7_odds_b48 (nI A) (nI n) (nI p) (nI w) n' (nI i) (nL cnt) M = (bnd (f_X7_lowest (nL (lp (odG (Bs S.2.2.2) S p A) k i cnt)) (nL n) (nI w) K) fun v10 J9 => some (v10, J9)) ∧ MR K S ∧ FrQ J K := by
            intro k
            induction k with
            | zero =>
              intro n' i cnt M hi hc hn' g mM fM
              obtain ⟨n', rfl⟩ : ∃ m, n' = m + 1 := ⟨n' - 1, by omega⟩
              rw [f_X7_odds_b48, if_pos ((nI_le' (by omega) (by omega)).mpr (by omega))]
              exact ⟨M, rfl, mM, fM⟩
            | succ k ih =>
              intro n' i cnt M hi hc hn' g mM fM
              obtain ⟨n', rfl⟩ : ∃ m, n' = m + 1 := ⟨n' - 1, by omega⟩
              obtain ⟨M2, e2, -, m2, q2⟩ := mo_lots (A := A + i) (by omega) b1 g mM (BM_Q (hvJ.2.2.1 _ t3).2.2 fM) r
              have gd : ∀ (k j : Nat) (zz : RS × Int64), GS zz.1 → LB zz.2 → GS (lp drG k j zz).1 ∧ (lp drG k j zz).1.2 = zz.1.2 := by
                intro k
                induction k with
                | zero => intro j zz h _; exact ⟨h, rfl⟩
                | succ k ihk => intro j zz h hl; exact ihk (j + 1) (drG j zz) (GS_set h (plc_b hl)) (lcg_b hl)
              obtain ⟨gd1, gd2⟩ := gd S.2.1 0 (S, lcg (nL (A + i) + 1)) g (seed_b (by omega))
              have gd2' : (drS S (A + i)).2 = S.2 := gd2
              obtain ⟨gT, aT, -, -⟩ := itS_G (B := Bs S.2.2.2) 20 (drS S (A + i)) gd1 (by rw [gd2']; omega)
              have hb := bit_upb (p := p) gT (by rw [aT, gd2']; exact hp)
              rw [f_X7_odds_b48, if_neg (by rw [nI_le' (by omega) (by omega)]; omega), nI_add, e2, bnd_some, lp, odG]
              by_cases hq : (itS (Bs S.2.2.2) 20 (drS S (A + i))).1 3 p ≤ 0
              · rw [if_neg (fun h => hb.mp h hq), if_pos hq, f_X7_odds_b77, lt1_eq, nI_1, show nL cnt + (0 : Int64) = nL cnt from Int64.add_zero _]
                exact ih n' (i + 1) cnt M2 (by omega) (by omega) (by omega) g m2 (fM.tr q2)
              · rw [if_pos (hb.mpr hq), if_neg hq, f_X7_odds_b77, lt1_eq, nI_1, show nL cnt + (1 : Int64) = nL (cnt + 1) from nL_add (b := 1) (by omega)]
                exact ih n' (i + 1) (cnt + 1) M2 (by omega) (by omega) (by omega) g m2 (fM.tr q2)
          obtain ⟨K, e3, mK, qK⟩ := keyM n FU 0 0 J (by omega) (by omega) (by show _ < 4096; omega) g hvJ.1.2.1 FrQ.rf
          refine ⟨if nI w = 0 then nL (lp (odG (Bs S.2.2.2) S p A) n 0 0 / Nat.gcd (lp (odG (Bs S.2.2.2) S p A) n 0 0) n) else nL (n / Nat.gcd (lp (odG (Bs S.2.2.2) S p A) n 0 0) n), J, K, ?_, ?_, IV_q f qK mK hv⟩
          · rw [eC, f_X6_lowestTerms, s6_within, bnd_some, u4', if_neg (by decide), if_pos (show 0 < nI n by rw [i_lt, ti_nI (by omega), show (0 : Int32).toInt = 0 from rfl]; omega), s6_lowest (by omega) (by omega) (by omega), bnd_some]
          · rw [f_X7_odds, s7_in, bnd_some, if_neg w1, s7_in, bnd_some, if_neg w2, s7_isOne, bnd_some, hvJ.1.2.1.1, u, if_neg (by decide), s7_in, bnd_some, u4', if_neg (by decide)]
            have e3' : f_X7_odds_b48 (nI A) (nI n) (nI p) (nI w) FU 0 0 J = _ := e3
            rw [e3', hlow, bnd_some]
        · have u4' : wth a4 0 1 = 0 := u4
          refine ⟨-4611686018427387904, J, J, ?_, ?_, S, T, Bs, tp, tx, sh, im, hvJ⟩
          · rw [eC, f_X6_lowestTerms, s6_within, bnd_some, u4', if_pos rfl, bnd_some]
          · rw [f_X7_odds, s7_in, bnd_some, if_neg w1, s7_in, bnd_some, if_neg w2, s7_isOne, bnd_some, hvJ.1.2.1.1, u, if_neg (by decide), s7_in, bnd_some, u4', if_pos rfl]
      · exact ⟨-4611686018427387904, I, I, by rw [f_X6_odds, s6_within, bnd_some, if_neg w1, s6_within, bnd_some, if_neg w2, s6_isHat, bnd_some, c1, u, if_pos rfl], by rw [f_X7_odds, s7_in, bnd_some, if_neg w1, s7_in, bnd_some, if_neg w2, s7_isOne, bnd_some, m.1, u, if_pos rfl], hI⟩
