/-! PURE 22: put, round, taken -/
theorem IV_S {I K : Mem} {S S' : RS} {T : Nat} {Bs : Nat → Bk} {tp : Nat} {tx : Nat → Nat} {sh : SHt} {im : Option RS} (h : IV I S T Bs tp tx sh im) (hE : ∀ c, (c < 2 ∨ 9 < c) → (c < 56 ∨ 60 < c) → c ≠ 29 → (c < 72 ∨ 74 < c) → K c = I c) (h56 : ∀ j, j = 7 ∨ j = 10 ∨ j = 12 → K 56 j = I 56 j) (c : CR K 0 S') (m : MR K S') (g : GS S') (r : S'.2.2.1.toInt ≤ 999) (z : ZC K 0 S'.2.1) (hl : S'.2.2.2 = S.2.2.2) (hN : S.2.1 ≤ S'.2.1) (hk : ∀ p, p < S.2.1 → S'.1 0 p = S.1 0 p ∧ S'.1 1 p = S.1 1 p) : IV K S' T Bs tp tx sh im := by
  obtain ⟨-, ⟨t1, t2, t3, t4, t5⟩, b, tpp, ⟨s1, s2, s3⟩, hi, hw⟩ := h
  have e : ∀ c, (c < 2 ∨ (9 < c ∧ c < 29) ∨ (29 < c ∧ c < 56) ∨ (60 < c ∧ c < 72)) → K c = I c := fun c hc => hE c (by omega) (by omega) (by omega) (by omega)
  exact ⟨⟨c, m, g, r, z⟩, ⟨t1, t2, by rw [hl]; exact t3, by rw [e _ (by omega)]; exact t4, by rw [h56 _ (by omega)]; exact t5⟩, BKs_of t2 (fun c hc => e c (by omega)) b, TP_of (e _ (by omega)) (e _ (by omega)) (by rw [e _ (by omega)]) (h56 _ (by omega)) tpp, ⟨ShC_of (fun c h1 h2 => e c (by omega)) s1, ShM_of (e _ (by omega)) (e _ (by omega)) (e _ (by omega)) s2, s3⟩, IMG_S hN hk (IMG_of (fun c h1 h2 => e c (by omega)) (by rw [e _ (by omega)]) (h56 _ (by omega)) (e _ (by omega)) (e _ (by omega)) hi), WT_of (e _ (by omega)) hw⟩
theorem p_put (a a2 a3 : Int32) : Pair (f_X6_put a a2 a3) (f_X7_put a a2 a3) := by
  intro I hI
  obtain ⟨S, T, Bs, tp, tx, sh, im, hv⟩ := id hI
  obtain ⟨⟨c, m, g, r, z⟩, -, -, -, -, -, -⟩ := id hv
  have hN6 := g.1
  have c1 : I 2 8 = nI S.2.1 := c.1
  rcases hat_or a (N := S.2.1) (by omega) with ⟨p, hp, rfl, u⟩ | ⟨_, u⟩
  · rcases hat_or a2 (N := 4) (by omega) with ⟨j, hj, rfl, u2⟩ | ⟨hn, u2⟩
    · have u2' : wth (nI j) 0 3 = 1 := u2
      have h4 := c.2.2.2.1 p hp
      have m4 := m.2.2.2.1 p hp
      have hL : ∃ L : Nat, L < 1000 ∧ nI L = (if j = 0 then (63 : Int32) else 99) ∧ (L : Int) = (if j = 0 then 63 else 99) := by
        by_cases h : j = 0
        · exact ⟨63, by omega, by rw [if_pos h]; rfl, by rw [if_pos h]; rfl⟩
        · exact ⟨99, by omega, by rw [if_neg h]; rfl, by rw [if_neg h]; rfl⟩
      obtain ⟨L, hL1, hL2, hL3⟩ := hL
      have fC : I (5 + j) p = S.1 (2 + j) p := by
        rcases (show j = 0 ∨ j = 1 ∨ j = 2 ∨ j = 3 by omega) with rfl | rfl | rfl | rfl
        · exact h4.2.2.1
        · exact h4.2.2.2.1
        · exact h4.2.2.2.2.1
        · exact h4.2.2.2.2.2
      have fM : I 59 (4 * p + j) = S.1 (2 + j) p := by
        rcases (show j = 0 ∨ j = 1 ∨ j = 2 ∨ j = 3 by omega) with rfl | rfl | rfl | rfl
        · exact m4.2.2.1
        · exact m4.2.2.2.1
        · exact m4.2.2.2.2.1
        · exact m4.2.2.2.2.2
      have k4 : (4 : Int32) * nI p + nI j = nI (4 * p + j) := by rw [fact4, nI_add]
      have eC : f_X6_put (nI p) (nI j) a3 I = f_X6_put_b39 (nI p) (nI j) a3 (5 + j) (nI L) 0 a3 I := by
        rw [f_X6_put, s6_isHat, bnd_some, c1, u, if_neg (by decide), f_X2_rowOf]
        rcases (show j = 0 ∨ j = 1 ∨ j = 2 ∨ j = 3 by omega) with rfl | rfl | rfl | rfl <;> rw [hL2] <;> rfl
      have eM : ∀ J, MR J S → f_X7_put (nI p) (nI j) a3 J = f_X7_put_b33 (nI p) (nI j) a3 (nI L) 0 a3 J := by
        intro J mJ
        rw [f_X7_put, s7_isOne, bnd_some, mJ.1, u, if_neg (by decide), s7_in, bnd_some, u2', if_neg (by decide), hL2]
        by_cases h0 : j = 0
        · rw [if_pos (show nI j = 0 by rw [h0]; rfl), if_pos h0]
        · rw [if_neg (show ¬ nI j = 0 from fun hh => h0 ((nI_eq' (b := 0) (by omega) (by omega)).mp hh)), if_neg h0]
      rcases hat_or a3 (N := L + 1) (by omega) with ⟨x, hx, rfl, u3⟩ | ⟨_, u3⟩
      · have hL1 : nI (L + 1) - 1 = nI L := by
          rw [i_eq, ti_sub] <;> rw [ti_nI (by omega), show (1 : Int32).toInt = 1 from rfl]
          · rw [ti_nI (by omega)]; omega
          · omega
          · omega
        rw [hL1] at u3
        have gb : GB (2 + j) (nI x) := by
          refine ⟨by rw [ti_nI (by omega)]; omega, ?_⟩
          rw [ti_nI (by omega), if_neg (by omega), if_neg (by omega)]
          by_cases h0 : j = 0
          · rw [if_pos h0] at hL3; rw [if_pos (by omega)]; omega
          · rw [if_neg h0] at hL3; rw [if_neg (by omega)]; omega
        have cJ : CR (wr I (5 + j) p (nI x)) 0 (setf S (2 + j) p (nI x)) := by
          have hh := CR_set (f := 2 + j) (p := p) (v := nI x) c (by omega)
          rw [show 2 + 8 * 0 + (2 + j + 1) = 5 + j by omega] at hh
          exact hh
        have zJ : ZC (wr I (5 + j) p (nI x)) 0 S.2.1 := by
          rcases (show j < 3 ∨ j = 3 by omega) with h | rfl
          · have hh := ZC_wr (ρ := 0) (f := 3 + j) (j := p) (v := nI x) (by omega) z
            rw [show 2 + 8 * 0 + (3 + j) = 5 + j by omega] at hh
            exact hh
          · exact ZC_wr6 (ρ := 0) (v := nI x) hp z
        have m1 : MR (wr I (5 + j) p (nI x)) S := MR_of (fun c _ _ => wr_k _ _ _ (by omega)) m
        refine ⟨S.1 (2 + j) p, wr I (5 + j) p (nI x), wr (wr I (5 + j) p (nI x)) 59 (4 * p + j) (nI x), ?_, ?_, setf S (2 + j) p (nI x), T, Bs, tp, tx, sh, im, ?_⟩
        · rw [eC, f_X6_put_b39, s6_within, bnd_some, u3, if_neg (by decide), if_pos (inb_t (by omega) (by omega)), lt1_eq, if_pos (inb_t (by omega) (by omega)), lt1_eq, cl_nI (by omega), fC]
        · rw [eM _ m1, f_X7_put_b33, s7_in, bnd_some, u3, if_neg (by decide), k4, if_pos (inb_t (by omega) (by omega)), lt1_eq, if_pos (inb_t (by omega) (by omega)), lt1_eq, cl_nI (by omega), show wr I (5 + j) p (nI x) 59 = I 59 from wr_k _ _ _ (by omega), fM]
        · exact IV_S hv (fun c h1 h2 h3 h4 => by rw [wr_k _ _ _ (by omega), wr_k _ _ _ (by omega)]) (fun j' h => by rw [wr_k _ _ _ (by omega), wr_k _ _ _ (by omega)]) (CR_of (fun j' hj => wr_k _ _ _ (by omega)) cJ) (MR_set m1 (by omega)) (GS_set g gb) r (ZC_of (wr_k _ _ _ (by omega)) (wr_k _ _ _ (by omega)) zJ) rfl (Nat.le_refl _) (fun q _ => ⟨setf_n _ _ (by omega), setf_n _ _ (by omega)⟩)
      · have hL1 : nI (L + 1) - 1 = nI L := by
          rw [i_eq, ti_sub] <;> rw [ti_nI (by omega), show (1 : Int32).toInt = 1 from rfl]
          · rw [ti_nI (by omega)]; omega
          · omega
          · omega
        rw [hL1] at u3
        exact ⟨-7, I, I, by rw [eC, f_X6_put_b39, s6_within, bnd_some, u3, if_pos rfl], by rw [eM _ m, f_X7_put_b33, s7_in, bnd_some, u3, if_pos rfl], hI⟩
    · have u2' : wth a2 0 3 = 0 := u2
      refine ⟨-7, I, I, ?_, by rw [f_X7_put, s7_isOne, bnd_some, m.1, u, if_neg (by decide), s7_in, bnd_some, u2', if_pos rfl], hI⟩
      rw [f_X6_put, s6_isHat, bnd_some, c1, u, if_neg (by decide), f_X2_rowOf, if_neg (show ¬ a2 = 0 from hn 0 (by omega)), if_neg (show ¬ a2 = 1 from hn 1 (by omega)), if_neg (show ¬ a2 = 2 from hn 2 (by omega)), if_neg (show ¬ a2 = 3 from hn 3 (by omega)), bnd_some, om_none]
  · exact ⟨-5, I, I, by rw [f_X6_put, s6_isHat, bnd_some, c1, u, if_pos rfl], by rw [f_X7_put, s7_isOne, bnd_some, m.1, u, if_pos rfl], hI⟩
theorem pstep_k {B : Bk} {p : Nat} {z : RS × Int32} {f q : Nat} (hf : f < 2) : (pstep B p z).1.1 f q = z.1.1 f q := by
  unfold pstep
  split
  · rfl
  · split
    · rfl
    · split
      · rfl
      · split
        · show (landS B z.1 p (nearS z.1 p).toNatClampNeg).1 f q = z.1.1 f q
          rw [landS, setf_n _ _ (by omega), lS3, setf_n _ _ (by omega), lS2, setf_n _ _ (by omega), lS1, setf_n _ _ (by omega)]
        · show (stepS z.1 p (nearS z.1 p).toNatClampNeg).1 f q = z.1.1 f q
          rw [stepS, setf_n _ _ (by omega)]
theorem rndS_k {B : Bk} {S : RS} {f q : Nat} (hf : f < 2) : (rndS B S).1 f q = S.1 f q := by
  have key : ∀ (k p : Nat) (z : RS × Int32), (lp (pstep B) k p z).1.1 f q = z.1.1 f q := by
    intro k
    induction k with
    | zero => intro p z; rfl
    | succ k ih =>
      intro p z
      rw [lp, ih, pstep_k hf]
  exact key S.2.1 0 (S, 0)
theorem BM_Fr2 {I J : Mem} {τ ρ : Nat} {B : Bk} (hf : FrC ρ I J) (hρ : ρ < 3) (h : BM I τ B) : BM J τ B := ⟨fun k hk => by rw [hf _ (by omega) (by omega)]; exact h.1 k hk, fun j hj => by rw [hf _ (by omega) (by omega)]; exact h.2 j hj⟩
theorem p_round : Pair f_X6_round f_X7_round := by
  intro I hI
  obtain ⟨S, T, Bs, tp, tx, sh, im, hv⟩ := id hI
  obtain ⟨⟨c, m, g, r, z⟩, ⟨t1, t2, t3, t4, t5⟩, b, -, -, -, -⟩ := id hv
  obtain ⟨b1, b2, b3⟩ := b S.2.2.2 t3
  have c9 : I 2 9 = S.2.2.1 := c.2.1
  have e999 : (999 : Int32).toInt = 999 := rfl
  by_cases hr : S.2.2.1 < 999
  · have hr' : S.2.2.1.toInt < 999 := by have := (i_lt _ _).mp hr; omega
    have hne : ¬ S.2.2.1 = 999 := by rw [i_eq]; omega
    obtain ⟨J, e, cJ, zJ, f⟩ := s2_play (ρ := 0) (by omega) g b1 b2 c z
    obtain ⟨g', a', b', d'⟩ := rndS_G (B := Bs S.2.2.2) g (by omega)
    have m1 : MR J S := MR_of (fun c h1 h2 => f c (by omega) (by omega)) m
    obtain ⟨K, e2, m2, f2⟩ := s7_round g b1 (BM_Fr2 f (by omega) b3) m1
    refine ⟨rndF (Bs S.2.2.2) S, J, K, by rw [f_X6_round, c9, if_pos hr, e, bnd_some], by rw [f_X7_round, m1.2.1, if_neg hne, e2, bnd_some], rndS (Bs S.2.2.2) S, T, Bs, tp, tx, sh, im, ?_⟩
    have q : ∀ c, c < 56 → K c = J c := fun c h => f2.1 c (by omega) (by omega) (by omega) (by omega) (by omega)
    refine IV_S hv (fun c h1 h2 h3 h4 => ?_) (fun j hj => ?_) (CR_of (fun j hj => q _ (by omega)) cJ) m2 g' (by rw [b']; omega) (by rw [a']; exact ZC_of (q _ (by omega)) (q _ (by omega)) zJ) d' (by rw [a']; exact Nat.le_refl _) (fun p _ => ⟨rndS_k (by omega), rndS_k (by omega)⟩)
    · rw [f2.1 c (by omega) (by omega) (by omega) (by omega) (by omega)]
      exact f c h3 (by omega)
    · rw [f2.2 j (by omega), f 56 (by omega) (by omega)]
  · have he : S.2.2.1 = 999 := by
      have h1 : ¬ S.2.2.1.toInt < 999 := fun h => hr ((i_lt _ _).mpr (by omega))
      rw [i_eq]; omega
    exact ⟨-3, I, I, by rw [f_X6_round, c9, if_neg hr], by rw [f_X7_round, m.2.1, if_pos he], hI⟩
theorem p_taken (a a2 : Int32) : Pair (f_X6_taken a a2) (f_X7_taken a a2) := by
  intro I hI
  obtain ⟨S, T, Bs, tp, tx, sh, im, hv⟩ := id hI
  obtain ⟨⟨c, m, g, r, z⟩, -, -, -, -, -, -⟩ := id hv
  have hN6 := g.1
  have c1 : I 2 8 = nI S.2.1 := c.1
  rcases hat_or a2 (N := 7) (by omega) with ⟨w, hw, rfl, u2⟩ | ⟨_, u2⟩
  · have u2' : wth (nI w) 0 6 = 1 := u2
    rcases hat_or a (N := 12) (by omega) with ⟨x, hx, rfl, u⟩ | ⟨_, u⟩
    · have u' : wth (nI x) 0 11 = 1 := u
      have hm : nI x - nI x / 6 * 6 = nI (x % 6) := by rw [show (6 : Int32) = nI 6 from rfl, pk_rem (by omega) (by omega) (by omega)]
      have h6 : nI x < (6 : Int32) ↔ x < 6 := nI_lt' (b := 6) (by omega) (by omega)
      have hw6 : nI w = (6 : Int32) ↔ w = 6 := nI_eq' (b := 6) (by omega) (by omega)
      have hw6' : (6 : Int32) ≤ nI w ↔ 6 ≤ w := nI_le' (a := 6) (by omega) (by omega)
      by_cases hN : x % 6 < S.2.1
      · have uu : wth (nI (x % 6)) 0 (nI S.2.1 - 1) = 1 := by
          rcases hat_or (nI (x % 6)) (N := S.2.1) (by omega) with ⟨_, _, _, h⟩ | ⟨h, _⟩
          · exact h
          · exact absurd rfl (h _ hN)
        have hlt : nI (x % 6) < nI S.2.1 := (nI_lt' (by omega) (by omega)).mpr hN
        have h3 : I 3 (x % 6) = S.1 0 (x % 6) := (c.2.2.2.1 _ hN).1
        have h66 : I 6 (x % 6) = S.1 3 (x % 6) := (c.2.2.2.1 _ hN).2.2.2.1
        have m3 : I 57 (x % 6) = S.1 0 (x % 6) := (m.2.2.2.1 _ hN).1
        have m6 : I 59 (4 * (x % 6) + 1) = S.1 3 (x % 6) := (m.2.2.2.1 _ hN).2.2.2.1
        have gk := (g.2.2.2.2.1 _ hN).1
        obtain ⟨k, hk, ek, ek2⟩ := nI_of_toInt gk.1
        have eC : ∀ s0, f_X6_taken_b53 (nI x) (nI w) (nI (x % 6)) s0 I = (if nI x < (6 : Int32) then (if s0 = 0 then (bnd (f_X0_isOne (S.1 0 (x % 6)) (nI w) I) fun v9 J8 => if v9 = 0 then (some ((-13), J8)) else some (nI (x % 6), J8)) else some ((-13), I)) else if s0 = 0 then (some ((-13), I)) else some (S.1 3 (x % 6), I)) := by
          intro s0
          rw [f_X6_taken_b53, if_pos (inb_t (by omega) (by omega)), if_pos (inb_t (by omega) (by omega)), cl_nI (by omega), h3, h66]
        by_cases hx6 : x < 6
        · have hxx : x % 6 = x := by omega
          by_cases hww : w = 6
          · refine ⟨-13, I, I, ?_, ?_, hI⟩
            · rw [f_X6_taken, s6_within, bnd_some, u2', if_neg (by decide), s6_within, bnd_some, u', if_neg (by decide), lt1_eq, hm, s6_isHat, bnd_some, c1, uu, if_neg (by decide), if_pos (hw6.mpr hww), eC, if_pos (h6.mpr hx6), if_neg (by decide)]
            · rw [f_X7_taken, s7_in, bnd_some, u2', if_neg (by decide), s7_in, bnd_some, u', if_neg (by decide), hm, m.1, if_pos hlt, if_pos (h6.mpr hx6), if_pos (hw6'.mpr (by omega))]
          · obtain ⟨v, e1, e2⟩ := under_eq (k := k) (w := w) (by omega) (by omega) I
            refine ⟨if v = 0 then -13 else nI x, I, I, ?_, ?_, hI⟩
            · rw [f_X6_taken, s6_within, bnd_some, u2', if_neg (by decide), s6_within, bnd_some, u', if_neg (by decide), lt1_eq, hm, s6_isHat, bnd_some, c1, uu, if_neg (by decide), if_neg (fun h => hww (hw6.mp h)), eC, if_pos (h6.mpr hx6), if_pos rfl, ek, e1, bnd_some, some_if, hxx]
            · rw [f_X7_taken, s7_in, bnd_some, u2', if_neg (by decide), s7_in, bnd_some, u', if_neg (by decide), hm, m.1, if_pos hlt, if_pos (h6.mpr hx6), if_neg (fun h => by have := hw6'.mp h; omega), if_pos (inb_t (by omega) (by omega)), cl_nI (by omega), show I 57 x = nI k by rw [← ek, ← m3, hxx], e2, bnd_some, some_if]
        · have hx2 : x % 6 = x - 6 := by omega
          have hsub : nI x - (6 : Int32) = nI (x - 6) := by
            rw [i_eq, ti_sub] <;> rw [ti_nI (by omega), show (6 : Int32).toInt = 6 from rfl]
            · rw [ti_nI (by omega)]; omega
            · omega
            · omega
          by_cases hww : w = 6
          · refine ⟨S.1 3 (x % 6), I, I, ?_, ?_, hI⟩
            · rw [f_X6_taken, s6_within, bnd_some, u2', if_neg (by decide), s6_within, bnd_some, u', if_neg (by decide), lt1_eq, hm, s6_isHat, bnd_some, c1, uu, if_neg (by decide), if_pos (hw6.mpr hww), eC, if_neg (fun h => hx6 (h6.mp h)), if_neg (by decide)]
            · rw [f_X7_taken, s7_in, bnd_some, u2', if_neg (by decide), s7_in, bnd_some, u', if_neg (by decide), hm, m.1, if_pos hlt, if_neg (fun h => hx6 (h6.mp h)), if_pos (hw6.mpr hww), hsub, fact4, nI_1, lt1_eq, if_pos (inb_t (by omega) (by omega)), cl_nI (by omega), ← hx2, m6]
          · refine ⟨-13, I, I, ?_, ?_, hI⟩
            · rw [f_X6_taken, s6_within, bnd_some, u2', if_neg (by decide), s6_within, bnd_some, u', if_neg (by decide), lt1_eq, hm, s6_isHat, bnd_some, c1, uu, if_neg (by decide), if_neg (fun h => hww (hw6.mp h)), eC, if_neg (fun h => hx6 (h6.mp h)), if_pos rfl]
            · rw [f_X7_taken, s7_in, bnd_some, u2', if_neg (by decide), s7_in, bnd_some, u', if_neg (by decide), hm, m.1, if_pos hlt, if_neg (fun h => hx6 (h6.mp h)), if_neg (fun h => hww (hw6.mp h))]
      · have uu : wth (nI (x % 6)) 0 (nI S.2.1 - 1) = 0 := by
          rcases hat_or (nI (x % 6)) (N := S.2.1) (by omega) with ⟨y, hy, he, h⟩ | ⟨_, h⟩
          · have := (nI_eq' (by omega) (by omega)).mp he
            omega
          · exact h
        have hnlt : ¬ nI (x % 6) < nI S.2.1 := fun h => hN ((nI_lt' (by omega) (by omega)).mp h)
        exact ⟨-11, I, I, by rw [f_X6_taken, s6_within, bnd_some, u2', if_neg (by decide), s6_within, bnd_some, u', if_neg (by decide), lt1_eq, hm, s6_isHat, bnd_some, c1, uu, if_pos rfl], by rw [f_X7_taken, s7_in, bnd_some, u2', if_neg (by decide), s7_in, bnd_some, u', if_neg (by decide), hm, m.1, if_neg hnlt], hI⟩
    · have u' : wth a 0 11 = 0 := u
      exact ⟨-12, I, I, by rw [f_X6_taken, s6_within, bnd_some, u2', if_neg (by decide), s6_within, bnd_some, u', if_pos rfl], by rw [f_X7_taken, s7_in, bnd_some, u2', if_neg (by decide), s7_in, bnd_some, u', if_pos rfl], hI⟩
  · have u2' : wth a2 0 6 = 0 := u2
    exact ⟨-2, I, I, by rw [f_X6_taken, s6_within, bnd_some, u2', if_pos rfl], by rw [f_X7_taken, s7_in, bnd_some, u2', if_pos rfl], hI⟩
