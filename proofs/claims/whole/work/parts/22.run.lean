/-! PURE 13: thinking; run, when, end -/
/-- in thought (class): the ring thought is S, its text is B -/
def TH (B : Bk) (J : Mem) (S : RS) : Prop := GS S ∧ CR J 1 S ∧ ZC J 1 S.2.1 ∧ BC J S.2.2.2 B
/-- in thought (model): the hats are S; I, the start, is kept -/
def MO (B : Bk) (I J : Mem) (S : RS) : Prop := GS S ∧ MR J S ∧ BM J S.2.2.2 B ∧ Kp I J ∧ FrQ I J
theorem th_start {I : Mem} {S : RS} {B : Bk} (g : GS S) (c : CR I 0 S) (z : ZC I 0 S.2.1) (b : BC I S.2.2.2 B) : ∃ J, f_X6_imagine I = some ((), J) ∧ TH B J S ∧ FrC 1 I J := by
  obtain ⟨J, e, c1, z1, o⟩ := s6_imagine g.1 c z
  have f : FrC 1 I J := fun d _ h => o d (by omega)
  exact ⟨J, e, ⟨g, c1, z1, BC_Fr b (ρ := 1) (by omega) g.2.1 f⟩, f⟩
theorem th_play {J : Mem} {S : RS} {B : Bk} (hO : BOK B) (h : TH B J S) (hr : S.2.2.1.toInt < 2000) : ∃ K, f_X2_play 1 J = some (rndF B S, K) ∧ TH B K (rndS B S) ∧ FrC 1 J K := by
  obtain ⟨g, c, z, b⟩ := h
  obtain ⟨K, e, c', z', f⟩ := s2_play (ρ := 1) (by omega) g hO b c z
  obtain ⟨g', a, b', d⟩ := rndS_G (B := B) g hr
  exact ⟨K, e, ⟨g', c', by rw [a]; exact z', by rw [d]; exact BC_Fr b (ρ := 1) (by omega) g.2.1 f⟩, f⟩
theorem mo_start {I : Mem} {S : RS} {B : Bk} (g : GS S) (m : MR I S) (b : BM I S.2.2.2 B) : ∃ J, f_X7_keeps I = some ((), J) ∧ MO B I J S := by
  obtain ⟨J, e, k, o⟩ := s7_keeps I
  refine ⟨J, e, g, ⟨by rw [o _ (by omega)]; exact m.1, by rw [o _ (by omega)]; exact m.2.1, by rw [o _ (by omega)]; exact m.2.2.1, fun p hp => by rw [o _ (by omega), o _ (by omega), o _ (by omega)]; exact m.2.2.2.1 p hp, fun p q hp hq => by rw [o _ (by omega)]; exact m.2.2.2.2 p q hp hq⟩, ⟨fun k hk => by rw [o _ (by omega)]; exact b.1 k hk, fun j hj => by rw [o _ (by omega)]; exact b.2 j hj⟩, k, ⟨fun c _ _ _ _ _ a6 => o c a6, fun j _ _ => by rw [o 56 (by omega)]⟩⟩
theorem mo_Fr {I J K : Mem} {S S' : RS} {B : Bk} (h : MO B I J S) (f : FrM J K) (g : GS S') (m : MR K S') (hl : S'.2.2.2 = S.2.2.2) : MO B I K S' := ⟨g, m, by rw [hl]; exact BM_Fr h.2.2.1 f, ⟨fun j hj => by rw [f.K]; exact h.2.2.2.1.1 j hj, fun j hj => by rw [f.K]; exact h.2.2.2.1.2.1 j hj, by rw [f.K]; exact h.2.2.2.1.2.2⟩, h.2.2.2.2.tr f.Q⟩
theorem mo_play {I J : Mem} {S : RS} {B : Bk} (hO : BOK B) (h : MO B I J S) (hr : S.2.2.1.toInt < 2000) : ∃ K, f_X7_roundOf J = some (rndF B S, K) ∧ MO B I K (rndS B S) := by
  obtain ⟨g, m, b, k, q⟩ := id h
  obtain ⟨K, e, m', f⟩ := s7_round g hO b m
  obtain ⟨g', a, b', d⟩ := rndS_G (B := B) g hr
  exact ⟨K, e, mo_Fr h f g' m' d⟩
theorem mo_passes {I J : Mem} {S : RS} {B : Bk} {N : Nat} (hN : N ≤ 1000) (hO : BOK B) (h : MO B I J S) (hr : S.2.2.1.toInt + N ≤ 2000) : ∃ K, f_X7_passes (nI N) J = some ((), K) ∧ MO B I K (itS B N S) := by
  obtain ⟨g, m, b, k, q⟩ := id h
  obtain ⟨K, e, m', f⟩ := s7_passes hN g hr hO b m
  obtain ⟨g', a, b', d⟩ := itS_G (B := B) N S g hr
  exact ⟨K, e, mo_Fr h f g' m' d⟩
theorem mo_lays {I J : Mem} {S S0 : RS} {B : Bk} (g0 : GS S0) (m0 : MR I S0) (h : MO B I J S) : ∃ K, f_X7_lays J = some ((), K) ∧ MR K S0 ∧ Kp I K ∧ FrQ I K := by
  obtain ⟨g, m, b, k, q⟩ := id h
  obtain ⟨K, e, m', k', f⟩ := s7_laysK (I := I) (J := J) (S := S0) (S' := S) g0.1 m0 k (q.2 0 (by omega) (by omega)) (q.2 11 (by omega) (by omega)) ⟨q.1 57 (by omega) (by omega) (by omega) (by omega) (by omega) (by omega), q.1 58 (by omega) (by omega) (by omega) (by omega) (by omega) (by omega)⟩
  exact ⟨K, e, m', k', q.tr f⟩
theorem ne_m1 {n : Nat} (h : n < 2147483648) : ¬ nI n = -1 := by
  intro hh
  have h' := (i_eq _ _).mp hh
  rw [ti_nI h, show (-1 : Int32).toInt = -1 from rfl] at h'
  omega
theorem ti_div10 (x : Int32) : (x / 10).toInt = x.toInt.tdiv 10 := by
  have hx1 := ti_lo x
  have hx2 := ti_hi x
  rw [Int32.toInt_div, show (10 : Int32).toInt = 10 from rfl]
  apply Int.bmod_eq_of_le
  · rcases Int.le_total 0 x.toInt with h | h
    · rw [Int.tdiv_eq_ediv_of_nonneg h]; omega
    · obtain ⟨m, hm, e⟩ : ∃ m : Int, 0 ≤ m ∧ x.toInt = -m := ⟨-x.toInt, by omega, by omega⟩
      rw [e, Int.neg_tdiv, Int.tdiv_eq_ediv_of_nonneg hm]; omega
  · rcases Int.le_total 0 x.toInt with h | h
    · rw [Int.tdiv_eq_ediv_of_nonneg h]; omega
    · obtain ⟨m, hm, e⟩ : ∃ m : Int, 0 ≤ m ∧ x.toInt = -m := ⟨-x.toInt, by omega, by omega⟩
      rw [e, Int.neg_tdiv, Int.tdiv_eq_ediv_of_nonneg hm]; omega
theorem div10_c (x : Int32) : (∃ w, 10 ≤ w ∧ w ≤ 39 ∧ x = nI w ∧ wth (x / 10) 1 3 = 1 ∧ wth x 10 39 = 1 ∧ x / 10 = nI (w / 10) ∧ x - x / 10 * 10 = nI (w % 10)) ∨ (wth (x / 10) 1 3 = 0 ∧ wth x 10 39 = 0) := by
  have e10 : (10 : Int32).toInt = 10 := rfl
  have e39 : (39 : Int32).toInt = 39 := rfl
  have e1 : (1 : Int32).toInt = 1 := rfl
  have e3 : (3 : Int32).toInt = 3 := rfl
  have hd := ti_div10 x
  by_cases h1 : (10 : Int32) ≤ x
  · have g1 := (i_le _ _).mp h1
    rw [Int.tdiv_eq_ediv_of_nonneg (by omega)] at hd
    by_cases h2 : x ≤ 39
    · have g2 := (i_le _ _).mp h2
      obtain ⟨n, hn, e, e2⟩ := nI_of_toInt (x := x) (by omega)
      refine Or.inl ⟨n, by omega, by omega, e, ?_, ?_, ?_, ?_⟩
      · have a1 : (1 : Int32) ≤ x / 10 := (i_le _ _).mpr (by omega)
        have a2 : x / 10 ≤ 3 := (i_le _ _).mpr (by omega)
        rw [wth, if_pos a1, if_pos a2]
      · rw [wth, if_pos h1, if_pos h2]
      · rw [e, show (10 : Int32) = nI 10 from rfl, pk_div (by omega) (by omega) (by omega)]
      · rw [e, show (10 : Int32) = nI 10 from rfl, pk_rem (by omega) (by omega) (by omega)]
    · have g2 : ¬ x.toInt ≤ 39 := fun h => h2 ((i_le _ _).mpr (by omega))
      refine Or.inr ⟨?_, by rw [wth, if_pos h1, if_neg h2]⟩
      have a2 : ¬ x / 10 ≤ 3 := fun h => by have := (i_le _ _).mp h; omega
      simp [wth, a2]
  · have g1 : ¬ 10 ≤ x.toInt := fun h => h1 ((i_le _ _).mpr (by omega))
    refine Or.inr ⟨?_, by rw [wth, if_neg h1]⟩
    have a1 : ¬ (1 : Int32) ≤ x / 10 := fun h => by
      have h' := (i_le _ _).mp h
      rcases Int.le_total 0 x.toInt with q | q
      · rw [Int.tdiv_eq_ediv_of_nonneg q] at hd; omega
      · obtain ⟨m, hm, e⟩ : ∃ m : Int, 0 ≤ m ∧ x.toInt = -m := ⟨-x.toInt, by omega, by omega⟩
        rw [e, Int.neg_tdiv, Int.tdiv_eq_ediv_of_nonneg hm] at hd; omega
    rw [wth, if_neg a1]
section Run
variable {I : Mem} {S : RS} {T : Nat} {Bs : Nat → Bk} {tp : Nat} {tx : Nat → Nat} {sh : SHt} {im : Option RS}
theorem run_b25 (a1 a2 x4 x3 s0 : Int32) (I : Mem) : f_X6_run_b25 a1 a2 x4 x3 s0 I = f_X6_run_b50 a1 a2 s0 x4 x3 (if wth x3 1 3 = 0 then 0 else wth x4 0 (I 2 8 - 1)) I := by
  rw [f_X6_run_b25, s6_within, bnd_some, f_X6_run_b49, s6_isHat, bnd_some]
  rcases wth_01 x3 1 3 with h | h <;> rw [h]
  · rw [if_pos rfl, if_pos rfl]
  · rw [if_neg (show ¬ (1 : Int32) = 0 by decide), if_neg (show ¬ (1 : Int32) = 0 by decide)]
    rcases wth_01 x4 0 (I 2 8 - 1) with h2 | h2 <;> rw [h2]
    · rw [if_pos rfl, f_X6_run_b49]
    · rw [if_neg (show ¬ (1 : Int32) = 0 by decide)]
theorem run_b82 {B : Bk} (hO : BOK B) {N : Nat} (hN : N ≤ 1000) (a2 x4 x3 : Int32) : ∀ (k n i : Nat) (S : RS) (J : Mem), i + k = N → k < n → TH B J S → S.2.2.1.toInt + k ≤ 2000 → ∃ K, f_X6_run_b82 (nI N) a2 n (nI i) x4 x3 J = (if x3 = (1 : Int32) then (if inb x4 6 = true then (some (K 13 (x4).toNatClampNeg, K)) else none) else if x3 = (2 : Int32) then (if inb x4 6 = true then (some (K 14 (x4).toNatClampNeg, K)) else none) else if x3 = (3 : Int32) then (if inb x4 6 = true then (some (K 16 (x4).toNatClampNeg, K)) else none) else if a2 = 0 then (bnd (f_X2_upBits 1 K) fun v11 J10 => some (v11, J10)) else bnd (f_X2_tallySum 1 K) fun v9 J8 => some (v9, J8)) ∧ TH B K (itS B k S) ∧ FrC 1 J K := by
  intro k
  induction k with
  | zero =>
    intro n i S J hi hn h hr
    obtain ⟨n, rfl⟩ : ∃ m, n = m + 1 := ⟨n - 1, by omega⟩
    rw [f_X6_run_b82, if_pos ((nI_le' (by omega) (by omega)).mpr (by omega))]
    exact ⟨J, rfl, h, FrC.rf⟩
  | succ k ih =>
    intro n i S J hi hn h hr
    obtain ⟨n, rfl⟩ : ∃ m, n = m + 1 := ⟨n - 1, by omega⟩
    obtain ⟨K, e, t, f⟩ := th_play hO h (by omega)
    obtain ⟨g', a, b', d⟩ := rndS_G (B := B) h.1 (by omega)
    obtain ⟨K', e', t', f'⟩ := ih n (i + 1) (rndS B S) K (by omega) (by omega) t (by rw [b']; omega)
    rw [f_X6_run_b82, if_neg (by rw [nI_le' (by omega) (by omega)]; omega), e, bnd_some, nI_1]
    exact ⟨K', e', t', f.tr f'⟩
theorem p_run (a w : Int32) : Pair (f_X6_run a w) (f_X7_run a w) := by
  intro I hI
  obtain ⟨S, T, Bs, tp, tx, sh, im, hv⟩ := id hI
  obtain ⟨⟨c, m, g, r, z⟩, ⟨t1, t2, t3, t4, t5⟩, b, -, -, -, -⟩ := id hv
  have hN6 := g.1
  have c1 : I 2 8 = nI S.2.1 := c.1
  obtain ⟨b1, b2, b3⟩ := b S.2.2.2 t3
  have e6 : f_X6_run a w I = f_X6_run_b50 a w (if w = 0 then 1 else if w = 1 then 1 else 0) (w - w / 10 * 10) (w / 10) (if wth (w / 10) 1 3 = 0 then 0 else wth (w - w / 10 * 10) 0 (nI S.2.1 - 1)) I := by
    rw [f_X6_run, lt1_eq, lt1_eq, f_X6_run_b20, run_b25, run_b25, c1]
    by_cases h0 : w = 0
    · rw [if_pos h0, if_pos h0]
    · rw [if_neg h0, if_neg h0]
      by_cases h1 : w = 1
      · rw [if_pos h1, if_pos h1]
      · rw [if_neg h1, if_neg h1]
  rcases hat_or a (N := 61) (by omega) with ⟨n, hn, rfl, u⟩ | ⟨_, u⟩
  · have u' : wth (nI n) 0 60 = 1 := u
    have hr : S.2.2.1.toInt + n ≤ 2000 := by omega
    -- both think n rounds
    have goC : ∀ x4 x3 : Int32, ∃ K, f_X6_run_b75 (nI n) w x4 x3 I = (if x3 = (1 : Int32) then (if inb x4 6 = true then (some (K 13 (x4).toNatClampNeg, K)) else none) else if x3 = (2 : Int32) then (if inb x4 6 = true then (some (K 14 (x4).toNatClampNeg, K)) else none) else if x3 = (3 : Int32) then (if inb x4 6 = true then (some (K 16 (x4).toNatClampNeg, K)) else none) else if w = 0 then (bnd (f_X2_upBits 1 K) fun v11 J10 => some (v11, J10)) else bnd (f_X2_tallySum 1 K) fun v9 J8 => some (v9, J8)) ∧ TH (Bs S.2.2.2) K (itS (Bs S.2.2.2) n S) ∧ FrC 1 I K := by
      intro x4 x3
      obtain ⟨J, e, t, f⟩ := th_start g c z b2
      obtain ⟨K, e', t', f'⟩ := run_b82 b1 (N := n) (by omega) w x4 x3 n FU 0 S J (by omega) (by show _ < 4096; omega) t hr
      refine ⟨K, ?_, t', f.tr f'⟩
      rw [f_X6_run_b75, e, bnd_some]
      exact e'
    have goM : ∀ J, IV J S T Bs tp tx sh im → ∀ x3 : Int32, ∃ K, MO (Bs S.2.2.2) J K (itS (Bs S.2.2.2) n S) ∧ f_X7_run_b46 (nI n) w x3 J = (if (2 : Int32) ≤ w then (if (20 : Int32) ≤ w then (if (30 : Int32) ≤ w then (f_X7_run_b111 (nI n) w (3 : Int32) ((4 : Int32) * x3) K) else f_X7_run_b111 (nI n) w (1 : Int32) ((4 : Int32) * x3) K) else f_X7_run_b111 (nI n) w (0 : Int32) ((4 : Int32) * x3) K) else if w = 0 then (bnd (f_X7_upSet K) fun v13 J12 => f_X7_run_b78 (nI n) w v13 J12) else bnd (f_X7_talliesAll K) fun v11 J10 => f_X7_run_b78 (nI n) w v11 J10) := by
      intro J hJ x3
      obtain ⟨J1, e1, o1⟩ := mo_start g hJ.1.2.1 (hJ.2.2.1 _ t3).2.2
      obtain ⟨K, e2, o2⟩ := mo_passes (N := n) (by omega) b1 o1 hr
      exact ⟨K, o2, by rw [f_X7_run_b46, e1, bnd_some, e2, bnd_some]⟩
    obtain ⟨gT, aT, bT, dT⟩ := itS_G (B := Bs S.2.2.2) n S g hr
    by_cases w01 : w = 0 ∨ w = 1
    · obtain ⟨K, e, t, f⟩ := goC (w - w / 10 * 10) (w / 10)
      have hvK := IV_c f hv
      obtain ⟨K2, o2, e2⟩ := goM K hvK (w - w / 10 * 10)
      obtain ⟨K3, e3, m3, _, q3⟩ := mo_lays g hvK.1.2.1 o2
      have hw : wth w 0 1 = 1 := by rcases w01 with rfl | rfl <;> rfl
      have hnle : ¬ (2 : Int32) ≤ w := by rcases w01 with rfl | rfl <;> decide
      have hd1 : ¬ w / 10 = 1 := by rcases w01 with rfl | rfl <;> decide
      have hd2 : ¬ w / 10 = 2 := by rcases w01 with rfl | rfl <;> decide
      have hd3 : ¬ w / 10 = 3 := by rcases w01 with rfl | rfl <;> decide
      have hone : (if w = 0 then (1 : Int32) else if w = 1 then 1 else 0) = 1 := by rcases w01 with rfl | rfl <;> rfl
      have e7 : f_X7_run (nI n) w K = f_X7_run_b46 (nI n) w (w - w / 10 * 10) K := by
        rw [f_X7_run, lt1_eq, s7_in, bnd_some, u', if_neg (by decide), s7_in, bnd_some, hw, if_neg (by decide)]
      rw [if_neg hd1, if_neg hd2, if_neg hd3] at e
      rw [if_neg hnle] at e2
      by_cases w0 : w = 0
      · refine ⟨upb (itS (Bs S.2.2.2) n S), K, K3, ?_, ?_, IV_q f q3 m3 hv⟩
        · rw [e6, f_X6_run_b50, s6_within, bnd_some, u', if_neg (by decide), hone, if_neg (by decide), e, if_pos w0, s2_upBits t.2.1 t.1, bnd_some]
        · rw [e7, e2, if_pos w0, s7_upSet o2.2.1 o2.1, bnd_some, f_X7_run_b78, f_X7_run_b115, e3, bnd_some]
      · refine ⟨tsS (itS (Bs S.2.2.2) n S), K, K3, ?_, ?_, IV_q f q3 m3 hv⟩
        · rw [e6, f_X6_run_b50, s6_within, bnd_some, u', if_neg (by decide), hone, if_neg (by decide), e, if_neg w0, s2_tallySum t.1 t.2.1, bnd_some]
        · rw [e7, e2, if_neg w0, s7_talliesAll o2.1 o2.2.1, bnd_some, f_X7_run_b78, f_X7_run_b115, e3, bnd_some]
    · have w0 : ¬ w = 0 := fun h => w01 (Or.inl h)
      have w1 : ¬ w = 1 := fun h => w01 (Or.inr h)
      have hw : wth w 0 1 = 0 := by
        rcases hat_or w (N := 2) (by omega) with ⟨x, hx, rfl, _⟩ | ⟨_, h⟩
        · rcases (show x = 0 ∨ x = 1 by omega) with rfl | rfl
          · exact absurd rfl w0
          · exact absurd rfl w1
        · exact h
      rcases div10_c w with ⟨v, hv1, hv2, rfl, d1, d2, d3, d4⟩ | ⟨d1, d2⟩
      · rcases hat_or (nI (v % 10)) (N := S.2.1) (by omega) with ⟨p, hp, hpe, u2⟩ | ⟨_, u2⟩
        · have hpv : v % 10 = p := (nI_eq' (by omega) (by omega)).mp hpe
          obtain ⟨K, e, t, f⟩ := goC (nI p) (nI (v / 10))
          have hvK := IV_c f hv
          obtain ⟨K2, o2, e2⟩ := goM K hvK (nI p)
          obtain ⟨K3, e3, m3, _, q3⟩ := mo_lays g hvK.1.2.1 o2
          have hpT : p < (itS (Bs S.2.2.2) n S).2.1 := by rw [aT]; exact hp
          have h4 := t.2.1.2.2.2.1 p hpT
          have m4 := o2.2.1.2.2.2.1 p hpT
          have e7 : f_X7_run (nI n) (nI v) K = f_X7_run_b46 (nI n) (nI v) (nI p) K := by
            rw [f_X7_run, lt1_eq, s7_in, bnd_some, u', if_neg (by decide), s7_in, bnd_some, hw, if_pos rfl, s7_in, bnd_some, d2, if_neg (by decide), d4, s7_isOne, bnd_some, hvK.1.2.1.1, u2, if_neg (by decide), hpv]
          have hof : (if wth (nI v / 10) 1 3 = 0 then (0 : Int32) else wth (nI v - nI v / 10 * 10) 0 (nI S.2.1 - 1)) = 1 := by rw [d1, if_neg (show ¬ (1 : Int32) = 0 by decide), d4, u2]
          have e66 : f_X6_run (nI n) (nI v) I = f_X6_run_b75 (nI n) (nI v) (nI p) (nI (v / 10)) I := by
            rw [e6, f_X6_run_b50, s6_within, bnd_some, u', if_neg (by decide), if_neg w0, if_neg w1, if_pos rfl, hof, if_neg (by decide), d4, d3, hpv]
          have l2 : (2 : Int32) ≤ nI v := (nI_le' (a := 2) (by omega) (by omega)).mpr (by omega)
          rw [if_pos l2] at e2
          have fin : ∀ (j : Nat) (x : Int32), j < 4 → K2 59 (4 * p + j) = x → f_X7_run_b111 (nI n) (nI v) (nI j) ((4 : Int32) * nI p) K2 = some (x, K3) := by
            intro j x hj hx
            rw [f_X7_run_b111, fact4, nI_add, if_pos (inb_t (by omega) (by omega)), lt1_eq, cl_nI (by omega), hx, f_X7_run_b115, e3, bnd_some]
          by_cases v20 : v < 20
          · refine ⟨(itS (Bs S.2.2.2) n S).1 2 p, K, K3, ?_, ?_, IV_q f q3 m3 hv⟩
            · rw [e66, e, if_pos (show nI (v / 10) = 1 by rw [show v / 10 = 1 by omega]; rfl), if_pos (inb_t (by omega) (by omega)), cl_nI (by omega)]
              rw [show K 13 p = _ from h4.2.2.1]
            · rw [e7, e2, if_neg (show ¬ (20 : Int32) ≤ nI v from fun h => by have := (nI_le' (a := 20) (by omega) (by omega)).mp h; omega)]
              exact fin 0 _ (by omega) m4.2.2.1
          · by_cases v30 : v < 30
            · refine ⟨(itS (Bs S.2.2.2) n S).1 3 p, K, K3, ?_, ?_, IV_q f q3 m3 hv⟩
              · have e1 : v / 10 = 2 := by omega
                rw [e66, e, e1, if_neg (show ¬ nI 2 = (1 : Int32) by decide), if_pos (show nI 2 = (2 : Int32) from rfl), if_pos (inb_t (by omega) (by omega)), cl_nI (by omega)]
                rw [show K 14 p = _ from h4.2.2.2.1]
              · rw [e7, e2, if_pos (show (20 : Int32) ≤ nI v from (nI_le' (a := 20) (by omega) (by omega)).mpr (by omega)), if_neg (show ¬ (30 : Int32) ≤ nI v from fun h => by have := (nI_le' (a := 30) (by omega) (by omega)).mp h; omega)]
                exact fin 1 _ (by omega) m4.2.2.2.1
            · refine ⟨(itS (Bs S.2.2.2) n S).1 5 p, K, K3, ?_, ?_, IV_q f q3 m3 hv⟩
              · have e1 : v / 10 = 3 := by omega
                rw [e66, e, e1, if_neg (show ¬ nI 3 = (1 : Int32) by decide), if_neg (show ¬ nI 3 = (2 : Int32) by decide), if_pos (show nI 3 = (3 : Int32) from rfl), if_pos (inb_t (by omega) (by omega)), cl_nI (by omega)]
                rw [show K 16 p = _ from h4.2.2.2.2.2]
              · rw [e7, e2, if_pos (show (20 : Int32) ≤ nI v from (nI_le' (a := 20) (by omega) (by omega)).mpr (by omega)), if_pos (show (30 : Int32) ≤ nI v from (nI_le' (a := 30) (by omega) (by omega)).mpr (by omega))]
                exact fin 3 _ (by omega) m4.2.2.2.2.2
        · refine ⟨-2, I, I, ?_, ?_, hI⟩
          · have hof : (if wth (nI v / 10) 1 3 = 0 then (0 : Int32) else wth (nI v - nI v / 10 * 10) 0 (nI S.2.1 - 1)) = 0 := by rw [d1, if_neg (show ¬ (1 : Int32) = 0 by decide), d4, u2]
            rw [e6, f_X6_run_b50, s6_within, bnd_some, u', if_neg (by decide), if_neg w0, if_neg w1, if_pos rfl, hof, if_pos rfl]
          · rw [f_X7_run, lt1_eq, s7_in, bnd_some, u', if_neg (by decide), s7_in, bnd_some, hw, if_pos rfl, s7_in, bnd_some, d2, if_neg (by decide), d4, s7_isOne, bnd_some, m.1, u2, if_pos rfl]
      · refine ⟨-2, I, I, ?_, ?_, hI⟩
        · rw [e6, f_X6_run_b50, s6_within, bnd_some, u', if_neg (by decide), if_neg w0, if_neg w1, if_pos rfl, d1, if_pos rfl, if_pos rfl]
        · rw [f_X7_run, lt1_eq, s7_in, bnd_some, u', if_neg (by decide), s7_in, bnd_some, hw, if_pos rfl, s7_in, bnd_some, d2, if_pos rfl]
  · have u' : wth a 0 60 = 0 := u
    refine ⟨-2, I, I, ?_, ?_, hI⟩
    · rw [e6, f_X6_run_b50, s6_within, bnd_some, u', if_pos rfl]
    · rw [f_X7_run, lt1_eq, s7_in, bnd_some, u', if_pos rfl]
end Run
