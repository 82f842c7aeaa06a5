/-! PURE 21: laws, force, bell, put, round, taken -/
def setL (S : RS) (i : Nat) : RS := (S.1, S.2.1, S.2.2.1, i)
theorem GS_setL {S : RS} {i : Nat} (h : GS S) (hi : i < 6) : GS (setL S i) := ⟨h.1, hi, h.2.2.1, h.2.2.2.1, h.2.2.2.2.1, h.2.2.2.2.2⟩
theorem CR_setL {I : Mem} {ρ i : Nat} {S : RS} (h : CR I ρ S) : CR (wr I (2 + 8 * ρ) 10 (nI i)) ρ (setL S i) := by
  obtain ⟨c1, c2, c3, c4, c5⟩ := h
  refine ⟨by rw [wr_j _ _ _ (by omega)]; exact c1, by rw [wr_j _ _ _ (by omega)]; exact c2, wr_s _ _ _ _, fun p hp => ?_, fun p q hp hq => by rw [wr_k _ _ _ (by omega)]; exact c5 p q hp hq⟩
  rw [wr_k _ _ _ (by omega), wr_k _ _ _ (by omega), wr_k _ _ _ (by omega), wr_k _ _ _ (by omega), wr_k _ _ _ (by omega), wr_k _ _ _ (by omega)]
  exact c4 p hp
theorem MR_setL {I : Mem} {i : Nat} {S : RS} (h : MR I S) : MR (wr I 56 11 (nI i)) (setL S i) := by
  obtain ⟨c1, c2, c3, c4, c5⟩ := h
  refine ⟨by rw [wr_j _ _ _ (by omega)]; exact c1, by rw [wr_j _ _ _ (by omega)]; exact c2, wr_s _ _ _ _, fun p hp => ?_, fun p q hp hq => by rw [wr_k _ _ _ (by omega)]; exact c5 p q hp hq⟩
  rw [wr_k _ _ _ (by omega), wr_k _ _ _ (by omega), wr_k _ _ _ (by omega)]
  exact c4 p hp
theorem MR_of {I J : Mem} {S : RS} (e : ∀ c, 56 ≤ c → c ≤ 60 → J c = I c) (h : MR I S) : MR J S := by
  obtain ⟨c1, c2, c3, c4, c5⟩ := h
  refine ⟨by rw [e _ (by omega) (by omega)]; exact c1, by rw [e _ (by omega) (by omega)]; exact c2, by rw [e _ (by omega) (by omega)]; exact c3, fun p hp => ?_, fun p q hp hq => by rw [e _ (by omega) (by omega)]; exact c5 p q hp hq⟩
  rw [e _ (by omega) (by omega), e _ (by omega) (by omega), e _ (by omega) (by omega)]
  exact c4 p hp
theorem BKs_C {I J : Mem} {T : Nat} {Bs : Nat → Bk} (h : BKs I T Bs) (hT : T ≤ 6) (f : FrC 1 I J) : BKs J T Bs := BKs_of hT (fun c hc => f c (by omega) (by omega)) h
def FrL (I J : Mem) : Prop := (∀ c, c ≠ 56 → c ≠ 57 → c ≠ 58 → c ≠ 59 → c ≠ 60 → c ≠ 72 → c ≠ 73 → c ≠ 74 → J c = I c) ∧ ∀ j, j ≠ 5 → j ≠ 31 → j ≠ 11 → J 56 j = I 56 j
theorem FrL.k {I J K : Mem} (h : FrL I J) (f : FrK J K) : FrL I K := ⟨fun c a1 a2 a3 a4 a5 a6 a7 a8 => (f.1 c a1 a2 a3 a4 a5 a6 a7 a8).trans (h.1 c a1 a2 a3 a4 a5 a6 a7 a8), fun j a b c => (f.2 j a b).trans (h.2 j a b c)⟩
theorem FrL.w {I J : Mem} {v : Int32} (h : FrL I J) : FrL I (wr J 56 11 v) := ⟨fun c a1 a2 a3 a4 a5 a6 a7 a8 => by rw [wr_k _ _ _ a1]; exact h.1 c a1 a2 a3 a4 a5 a6 a7 a8, fun j a b c => by rw [wr_j _ _ _ c]; exact h.2 j a b c⟩
theorem FrL.e {I J : Mem} (h : FrL I J) {c : Nat} (hc : c < 56 ∨ (60 < c ∧ c < 72) ∨ 74 < c) : J c = I c := h.1 c (by omega) (by omega) (by omega) (by omega) (by omega) (by omega) (by omega) (by omega)
def lawG (Bs : Nat → Bk) (c : Nat → Int32) (p z : Nat) (S : RS) (i : Nat) (b : Int32) : Int32 := if foS (Bs i) c p z 0 (setL S i) = -1 then b ||| (1 <<< (nI i &&& 31)) else b
theorem p_laws (a a2 : Int32) : Pair (f_X6_laws a a2) (f_X7_laws a a2) := by
  intro I hI
  obtain ⟨S, T, Bs, tp, tx, sh, im, hv⟩ := id hI
  obtain ⟨⟨c, m, g, r, z⟩, ⟨t1, t2, t3, t4, t5⟩, b, -, ⟨s1, s2, s3⟩, -, -⟩ := id hv
  have hN6 := g.1
  obtain ⟨b1, b2, b3⟩ := b S.2.2.2 t3
  rcases sh_or2 a a2 s1 s3 c.1 hN6 with ⟨σ, p, hσ, rfl, hz, hp, rfl, e, e2⟩ | ⟨v, hv0, e, e2⟩
  · have keyC : ∀ (k n i : Nat) (y : Int32) (J : Mem), i + k = T → k < n → CS (Bs S.2.2.2) sh J S → BKs J T Bs → J 0 7 = nI T → ∃ K, f_X6_laws_b19 (nI σ) (nI p) n (nI i) y J = some (lp (lawG Bs (sh σ).2.2 p (sh σ).2.1 S) k i y, K) ∧ FrC 1 J K := by
      intro k
      induction k with
      | zero =>
        intro n i y J hi hn h hB h7
        obtain ⟨n, rfl⟩ : ∃ m, n = m + 1 := ⟨n - 1, by omega⟩
        rw [f_X6_laws_b19, h7, if_pos ((nI_le' (by omega) (by omega)).mpr (by omega))]
        exact ⟨J, rfl, FrC.rf⟩
      | succ k ih =>
        intro n i y J hi hn h hB h7
        obtain ⟨n, rfl⟩ : ∃ m, n = m + 1 := ⟨n - 1, by omega⟩
        obtain ⟨J1, d1, w1, f1⟩ := cb_im h.1
        have f2 : FrC 1 J1 (wr J1 10 10 (nI i)) := fun c _ h2 => wr_k _ _ _ (by omega)
        have f12 := f1.tr f2
        have w2 : TH (Bs i) (wr J1 10 10 (nI i)) (setL S i) := ⟨GS_setL g (by omega), CR_setL (ρ := 1) w1.2.1, ZC_of (wr_k _ _ _ (by omega)) (wr_k _ _ _ (by omega)) w1.2.2.1, ((BKs_C hB t2 f12) i (by omega)).2.1⟩
        obtain ⟨J2, d2, f3⟩ := th_first (p := p) w2 (ShC_F h.2 f12) (hB i (by omega)).1 hσ (by omega) hp (by show S.2.2.1.toInt + _ ≤ 2000; omega)
        have f13 := f12.tr f3
        have n7 : J2 0 7 = nI T := by rw [f13 0 (by omega) (by omega)]; exact h7
        rw [f_X6_laws_b19, h7, if_neg (by rw [nI_le' (by omega) (by omega)]; omega), d1, bnd_some, lt1_eq, d2, bnd_some, nI_1, lp, lawG]
        by_cases hq : foS (Bs i) (sh σ).2.2 p (sh σ).2.1 0 (setL S i) = -1
        · rw [if_pos hq, if_pos hq, lt1_eq]
          obtain ⟨K, e, f⟩ := ih n (i + 1) _ J2 (by omega) (by omega) (cs_Fr h f13) (BKs_C hB t2 f13) n7
          exact ⟨K, e, f13.tr f⟩
        · rw [if_neg hq, if_neg hq]
          obtain ⟨K, e, f⟩ := ih n (i + 1) y J2 (by omega) (by omega) (cs_Fr h f13) (BKs_C hB t2 f13) n7
          exact ⟨K, e, f13.tr f⟩
    have keyM : ∀ (I0 : Mem), ShM I0 sh → BKs I0 T Bs → I0 56 10 = nI T → ∀ (k n i x1 : Nat) (y : Int32) (J : Mem), i + k = T → k < n → MR J (setL S x1) → FrL I0 J → ∃ K, f_X7_laws_b25 (nI σ) (nI p) n (nI i) y (nI S.2.2.2) J = some (lp (lawG Bs (sh σ).2.2 p (sh σ).2.1 S) k i y, K) ∧ MR K S ∧ FrL I0 K := by
      intro I0 hs0 hB0 h10 k
      induction k with
      | zero =>
        intro n i x1 y J hi hn h f
        obtain ⟨n, rfl⟩ : ∃ m, n = m + 1 := ⟨n - 1, by omega⟩
        have h' : J 56 10 = nI T := by rw [f.2 10 (by omega) (by omega) (by omega)]; exact h10
        rw [f_X7_laws_b25, h', if_pos ((nI_le' (by omega) (by omega)).mpr (by omega)), lt1_eq]
        exact ⟨_, rfl, MR_setL (S := setL S x1) (i := S.2.2.2) h, f.w⟩
      | succ k ih =>
        intro n i x1 y J hi hn h f
        obtain ⟨n, rfl⟩ : ∃ m, n = m + 1 := ⟨n - 1, by omega⟩
        have h' : J 56 10 = nI T := by rw [f.2 10 (by omega) (by omega) (by omega)]; exact h10
        have m2 : MR (wr J 56 11 (nI i)) (setL S i) := MR_setL (S := setL S x1) h
        have fw : FrL I0 (wr J 56 11 (nI i)) := f.w
        have k0 : MK (Bs i) sh (wr J 56 11 (nI i)) (wr J 56 11 (nI i)) (setL S i) := ⟨GS_setL g (by omega), m2, ((BKs_of t2 (fun c hc => fw.e (by omega)) hB0) i (by omega)).2.2, ShM_of (fw.e (by omega)) (fw.e (by omega)) (fw.e (by omega)) hs0, FrK.rf⟩
        obtain ⟨J3, d3, h3⟩ := mk_unlike (p := p) k0 (hB0 i (by omega)).1 hσ (by omega) hp (by show S.2.2.1.toInt + _ ≤ 2000; omega)
        rw [f_X7_laws_b25, h', if_neg (by rw [nI_le' (by omega) (by omega)]; omega), lt1_eq, d3, bnd_some, lp, lawG]
        by_cases hq : foS (Bs i) (sh σ).2.2 p (sh σ).2.1 0 (setL S i) = -1
        · rw [if_pos hq, if_pos hq, f_X7_laws_b60, lt1_eq, nI_1]
          exact ih n (i + 1) i _ J3 (by omega) (by omega) h3.2.1 (fw.k h3.2.2.2.2)
        · rw [if_neg hq, if_neg hq, f_X7_laws_b60, lt1_eq, nI_1, or0]
          exact ih n (i + 1) i y J3 (by omega) (by omega) h3.2.1 (fw.k h3.2.2.2.2)
    obtain ⟨J, d1, f1⟩ := keyC T FU 0 0 I (by omega) (by show _ < 4096; omega) ⟨⟨g, c, z, b2⟩, s1⟩ b t4
    have hvJ := IV_c f1 hv
    have mJ := hvJ.1.2.1
    obtain ⟨K, d3, m3, f3⟩ := keyM J hvJ.2.2.2.2.1.2.1 hvJ.2.2.1 hvJ.2.1.2.2.2.2 T FU 0 S.2.2.2 0 J (by omega) (by show _ < 4096; omega) mJ ⟨fun _ _ _ _ _ _ _ _ _ => rfl, fun _ _ _ _ => rfl⟩
    have fk : FrK J K := ⟨f3.1, fun j h1 h2 => by
      by_cases h : j = 11
      · rw [h, m3.2.2.1, mJ.2.2.1]
      · exact f3.2 j h1 h2 h⟩
    refine ⟨lp (lawG Bs (sh σ).2.2 p (sh σ).2.1 S) T 0 0, J, K, ?_, ?_, S, T, Bs, tp, tx, sh, im, IV_k fk m3 hvJ⟩
    · rw [f_X6_laws, e, bnd_some, if_pos rfl]
      exact d1
    · rw [f_X7_laws, e2 J hvJ.2.2.2.2.1.2.1 mJ.1, bnd_some, if_pos rfl, lt1_eq, mJ.2.2.1]
      exact d3
  · exact ⟨v, I, I, by rw [f_X6_laws, e, bnd_some, if_neg hv0], by rw [f_X7_laws, e2 I s2 m.1, bnd_some, if_neg hv0], hI⟩
theorem p_force (a : Int32) : Pair (f_X6_force a) (f_X7_force a) := by
  intro I hI
  obtain ⟨S, T, Bs, tp, tx, sh, im, hv⟩ := id hI
  obtain ⟨⟨c, m, g, r, z⟩, ⟨t1, t2, t3, t4, t5⟩, b, tpp, ⟨s1, s2, s3⟩, hi, hw⟩ := id hv
  rcases hat_or a (N := T) (by omega) with ⟨i, hi2, rfl, u⟩ | ⟨_, u⟩
  · have c10 : I 2 10 = nI S.2.2.2 := c.2.2.1
    have hE : ∀ c, c ≠ 2 → c ≠ 56 → wr (wr I 2 10 (nI i)) 56 11 (nI i) c = I c := fun c h1 h2 => by rw [wr_k _ _ _ h2, wr_k _ _ _ h1]
    have hE56 : ∀ j, j ≠ 11 → wr (wr I 2 10 (nI i)) 56 11 (nI i) 56 j = I 56 j := fun j h => by rw [wr_j _ _ _ h, wr_k _ _ _ (by omega)]
    refine ⟨nI S.2.2.2, wr I 2 10 (nI i), wr (wr I 2 10 (nI i)) 56 11 (nI i), ?_, ?_, setL S i, T, Bs, tp, tx, sh, im, ⟨?_, ?_, GS_setL g (by omega), r, ?_⟩, ⟨t1, t2, hi2, ?_, ?_⟩, BKs_of t2 (fun c hc => hE c (by omega) (by omega)) b, TP_of (hE _ (by omega) (by omega)) (hE _ (by omega) (by omega)) (by rw [hE _ (by omega) (by omega)]) (hE56 _ (by omega)) tpp, ⟨ShC_of (fun c h1 h2 => hE c (by omega) (by omega)) s1, ShM_of (hE _ (by omega) (by omega)) (hE _ (by omega) (by omega)) (hE _ (by omega) (by omega)) s2, s3⟩, ?_, WT_of (hE _ (by omega) (by omega)) hw⟩
    · rw [f_X6_force, t4, s6_within, bnd_some, u, if_neg (by decide), lt1_eq, lt1_eq, c10]
    · rw [f_X7_force, show wr I 2 10 (nI i) 56 10 = nI T from by rw [wr_k _ _ _ (by omega)]; exact t5, s7_in, bnd_some, u, if_neg (by decide), lt1_eq, lt1_eq, show wr I 2 10 (nI i) 56 = I 56 from wr_k _ _ _ (by omega), m.2.2.1]
    · exact CR_of (fun j hj => wr_k _ _ _ (by omega)) (CR_setL (ρ := 0) c)
    · exact MR_setL (MR_of (fun c _ _ => wr_k _ _ _ (by omega)) m)
    · exact ZC_of (hE _ (by omega) (by omega)) (hE _ (by omega) (by omega)) z
    · rw [hE _ (by omega) (by omega)]; exact t4
    · rw [hE56 _ (by omega)]; exact t5
    · exact IMG_S (S := S) (Nat.le_refl _) (fun p _ => ⟨rfl, rfl⟩) (IMG_of (fun c h1 h2 => hE c (by omega) (by omega)) (by rw [hE _ (by omega) (by omega)]) (hE56 _ (by omega)) (hE _ (by omega) (by omega)) (hE _ (by omega) (by omega)) hi)
  · exact ⟨-2, I, I, by rw [f_X6_force, t4, s6_within, bnd_some, u, if_pos rfl], by rw [f_X7_force, t5, s7_in, bnd_some, u, if_pos rfl], hI⟩
def setR (S : RS) (v : Int32) : RS := (S.1, S.2.1, v, S.2.2.2)
theorem p_bell (a : Int32) : Pair (f_X6_bell a) (f_X7_bell a) := by
  intro I hI
  obtain ⟨S, T, Bs, tp, tx, sh, im, hv⟩ := id hI
  obtain ⟨⟨c, m, g, r, z⟩, ⟨t1, t2, t3, t4, t5⟩, b, tpp, ⟨s1, s2, s3⟩, hi, hw⟩ := id hv
  rcases hat_or a (N := 1000) (by omega) with ⟨i, hi2, rfl, u⟩ | ⟨_, u⟩
  · have u' : wth (nI i) 0 999 = 1 := u
    have c9 : I 2 9 = S.2.2.1 := c.2.1
    have hE : ∀ c, c ≠ 2 → c ≠ 56 → wr (wr I 2 9 (nI i)) 56 5 (nI i) c = I c := fun c h1 h2 => by rw [wr_k _ _ _ h2, wr_k _ _ _ h1]
    have hE2 : ∀ j, j ≠ 9 → wr (wr I 2 9 (nI i)) 56 5 (nI i) 2 j = I 2 j := fun j h => by rw [wr_k _ _ _ (by omega), wr_j _ _ _ h]
    have hE56 : ∀ j, j ≠ 5 → wr (wr I 2 9 (nI i)) 56 5 (nI i) 56 j = I 56 j := fun j h => by rw [wr_j _ _ _ h, wr_k _ _ _ (by omega)]
    refine ⟨S.2.2.1, wr I 2 9 (nI i), wr (wr I 2 9 (nI i)) 56 5 (nI i), ?_, ?_, setR S (nI i), T, Bs, tp, tx, sh, im, ⟨?_, ?_, ⟨g.1, g.2.1, ?_, ?_, g.2.2.2.2.1, g.2.2.2.2.2⟩, ?_, ?_⟩, ⟨t1, t2, t3, ?_, ?_⟩, BKs_of t2 (fun c hc => hE c (by omega) (by omega)) b, TP_of (hE _ (by omega) (by omega)) (hE _ (by omega) (by omega)) (by rw [hE _ (by omega) (by omega)]) (hE56 _ (by omega)) tpp, ⟨ShC_of (fun c h1 h2 => hE c (by omega) (by omega)) s1, ShM_of (hE _ (by omega) (by omega)) (hE _ (by omega) (by omega)) (hE _ (by omega) (by omega)) s2, s3⟩, ?_, WT_of (hE _ (by omega) (by omega)) hw⟩
    · rw [f_X6_bell, s6_within, bnd_some, u', if_neg (by decide), lt1_eq, lt1_eq, c9]
    · rw [f_X7_bell, s7_in, bnd_some, u', if_neg (by decide), lt1_eq, lt1_eq, show wr I 2 9 (nI i) 56 = I 56 from wr_k _ _ _ (by omega), m.2.1]
    · obtain ⟨c1, c2, c3, c4, c5⟩ := c
      refine ⟨by rw [hE2 _ (by omega)]; exact c1, by rw [wr_k _ _ _ (by omega), wr_s]; rfl, by rw [hE2 _ (by omega)]; exact c3, fun p hp => ?_, fun p q hp hq => by rw [hE _ (by omega) (by omega)]; exact c5 p q hp hq⟩
      rw [hE _ (by omega) (by omega), hE _ (by omega) (by omega), hE _ (by omega) (by omega), hE _ (by omega) (by omega), hE _ (by omega) (by omega), hE _ (by omega) (by omega)]
      exact c4 p hp
    · obtain ⟨c1, c2, c3, c4, c5⟩ := m
      refine ⟨by rw [hE56 _ (by omega)]; exact c1, wr_s _ _ _ _, by rw [hE56 _ (by omega)]; exact c3, fun p hp => ?_, fun p q hp hq => by rw [hE _ (by omega) (by omega)]; exact c5 p q hp hq⟩
      rw [hE _ (by omega) (by omega), hE _ (by omega) (by omega), hE _ (by omega) (by omega)]
      exact c4 p hp
    · show 0 ≤ (nI i).toInt; rw [ti_nI (by omega)]; omega
    · show (nI i).toInt ≤ 2000; rw [ti_nI (by omega)]; omega
    · show (nI i).toInt ≤ 999; rw [ti_nI (by omega)]; omega
    · exact ZC_of (hE _ (by omega) (by omega)) (hE _ (by omega) (by omega)) z
    · rw [hE _ (by omega) (by omega)]; exact t4
    · rw [hE56 _ (by omega)]; exact t5
    · exact IMG_S (S := S) (Nat.le_refl _) (fun p _ => ⟨rfl, rfl⟩) (IMG_of (fun c h1 h2 => hE c (by omega) (by omega)) (by rw [hE _ (by omega) (by omega)]) (hE56 _ (by omega)) (hE _ (by omega) (by omega)) (hE _ (by omega) (by omega)) hi)
  · have u' : wth a 0 999 = 0 := u
    exact ⟨-2, I, I, by rw [f_X6_bell, s6_within, bnd_some, u', if_pos rfl], by rw [f_X7_bell, s7_in, bnd_some, u', if_pos rfl], hI⟩
theorem under_eq {k w : Nat} (hk : k < 6) (hw : w < 6) (I : Mem) : ∃ v, f_X0_isOne (nI k) (nI w) I = some (v, I) ∧ f_X7_isUnder (nI k) (nI w) I = some (v, I) := by
  rcases (show k = 0 ∨ k = 1 ∨ k = 2 ∨ k = 3 ∨ k = 4 ∨ k = 5 by omega) with rfl | rfl | rfl | rfl | rfl | rfl <;> rcases (show w = 0 ∨ w = 1 ∨ w = 2 ∨ w = 3 ∨ w = 4 ∨ w = 5 by omega) with rfl | rfl | rfl | rfl | rfl | rfl <;> exact ⟨_, rfl, rfl⟩
