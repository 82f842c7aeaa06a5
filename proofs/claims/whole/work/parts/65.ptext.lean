/-! PURE 56: the pair of text -/
section PText
theorem p_text : Pair f_X6_text f_X7_text := by
  intro I hI
  obtain ⟨S, T, Bs, tp, tx, sh, im, hv⟩ := id hI
  obtain ⟨⟨c, m, g, r, z⟩, ⟨t1, t2, t3, t4, t5⟩, b, ⟨p1, p2, p3, p4⟩, ⟨s1, s2, s3⟩, i, w⟩ := id hv
  by_cases hT : T = 6
  · refine ⟨-4, I, I, ?_, ?_, hI⟩
    · rw [f_X6_text, t4, hT, if_neg (by decide)]
    · rw [f_X7_text, t5, hT, if_pos (by rfl)]
  have hτ : T < 6 := by omega
  obtain ⟨J1, e1, f1, n1, y1⟩ := cl_read (I := I) (tx := tx) (tp := tp) hτ p1 (fun k hk => ⟨(p4 k hk).1, (p4 k hk).2.2⟩)
  have hC : f_X6_text I = (if vR (PX tx tp) = (-1 : Int32) then some (nI T, wr (wr J1 0 8 0) 0 7 (nI (T + 1))) else some (-100 - vR (PX tx tp), wr J1 0 8 0)) := by
    have w7 : wr J1 0 8 0 0 7 = nI T := by rw [wr_j _ _ _ (by omega), f1 0 (by omega) (by omega) (by omega) (by omega)]; exact t4
    rw [f_X6_text, t4, if_pos (show nI T < (6 : Int32) from (nI_lt' (b := 6) (by omega) (by omega)).mpr hτ), lt1_eq, if_pos (inb_t hτ (by omega)), p2, cl_nI (by omega), e1, bnd_some, lt1_eq, lt1_eq, w7, nI_1, wr_s, nI_sub1 (by omega)]
  -- what stays over both readings
  have build : ∀ (J K : Mem) (T' : Nat) (Bs' : Nat → Bk), (∀ c, c ≠ 0 → J c = J1 c) → (∀ j, j ≠ 7 → j ≠ 8 → J 0 j = J1 0 j) → J 0 8 = 0 → FrV T J K → K 56 7 = 0 → J 0 7 = nI T' → K 56 10 = nI T' → T ≤ T' → T' ≤ 6 → BKs K T' Bs' → Inv K := by
    intro J K T' Bs' hJ hJ0 h8 hf k7 j7 k10 hTT hT6 hB
    have eJ : ∀ c, c ≠ 0 → c ≠ 26 → c ≠ 30 + 3 * T → c ≠ 30 + 3 * T + 1 → c ≠ 30 + 3 * T + 2 → J c = I c := fun c a0 a1 a2 a3 a4 => (hJ c a0).trans (f1 c a1 a2 a3 a4)
    have eK : ∀ c, c ≠ 0 → c ≠ 26 → (c < 30 ∨ 47 < c) → c ≠ 56 → c ≠ 62 → c ≠ 63 → c ≠ 71 → K c = I c := fun c a0 a1 a2 a3 a4 a5 a6 => (hf.1 c a3 a4 a5 a6).trans (eJ c a0 a1 (by omega) (by omega) (by omega))
    have e56 : ∀ j, j < 19 → j ≠ 7 → j ≠ 10 → K 56 j = I 56 j := fun j a1 a2 a3 => (hf.2.2.2 j a1 a2 a3).trans (by rw [eJ 56 (by omega) (by omega) (by omega) (by omega) (by omega)])
    have e0 : ∀ j, j ≠ 7 → j ≠ 8 → K 0 j = I 0 j := fun j a1 a2 => by
      rw [hf.1 0 (by omega) (by omega) (by omega) (by omega), hJ0 j a1 a2, f1 0 (by omega) (by omega) (by omega) (by omega)]
    have k0 : K 0 = J 0 := hf.1 0 (by omega) (by omega) (by omega) (by omega)
    refine ⟨S, T', Bs', 0, tx, sh, im, ⟨CR_of (fun j hj => eK _ (by omega) (by omega) (by omega) (by omega) (by omega) (by omega) (by omega)) c, ?_, g, r, ZC_of (eK _ (by omega) (by omega) (by omega) (by omega) (by omega) (by omega) (by omega)) (eK _ (by omega) (by omega) (by omega) (by omega) (by omega) (by omega) (by omega)) z⟩, ⟨by omega, hT6, by omega, by rw [k0]; exact j7, k10⟩, hB, ⟨by omega, by rw [k0]; exact h8, k7, fun k hk => absurd hk (by omega)⟩, ⟨ShC_of (fun c h1 h2 => by
      by_cases q : c = 56
      · omega
      · exact eK c (by omega) (by omega) (by omega) q (by omega) (by omega) (by omega)) s1, ShM_of (eK 66 (by omega) (by omega) (by omega) (by omega) (by omega) (by omega) (by omega)) (eK 67 (by omega) (by omega) (by omega) (by omega) (by omega) (by omega) (by omega)) (eK 68 (by omega) (by omega) (by omega) (by omega) (by omega) (by omega) (by omega)) s2, s3⟩, IMG_T hTT (IMG_of (fun c h1 h2 => eK c (by omega) (by omega) (by omega) (by omega) (by omega) (by omega) (by omega)) (e0 9 (by omega) (by omega)) (e56 12 (by omega) (by omega) (by omega)) (eK 64 (by omega) (by omega) (by omega) (by omega) (by omega) (by omega) (by omega)) (eK 65 (by omega) (by omega) (by omega) (by omega) (by omega) (by omega) (by omega)) i), WT_of (eK 70 (by omega) (by omega) (by omega) (by omega) (by omega) (by omega) (by omega)) w⟩
    obtain ⟨m1, m2, m3, m4, m5⟩ := m
    refine ⟨by rw [e56 0 (by omega) (by omega) (by omega)]; exact m1, by rw [e56 5 (by omega) (by omega) (by omega)]; exact m2, by rw [e56 11 (by omega) (by omega) (by omega)]; exact m3, fun p hp => ?_, fun p q hp hq => by rw [eK 60 (by omega) (by omega) (by omega) (by omega) (by omega) (by omega) (by omega)]; exact m5 p q hp hq⟩
    rw [eK 57 (by omega) (by omega) (by omega) (by omega) (by omega) (by omega) (by omega), eK 58 (by omega) (by omega) (by omega) (by omega) (by omega) (by omega) (by omega), eK 59 (by omega) (by omega) (by omega) (by omega) (by omega) (by omega) (by omega)]
    exact m4 p hp
  -- the texts that stood
  have old : ∀ (J K : Mem), (∀ c, c ≠ 0 → J c = J1 c) → FrV T J K → ∀ t, t < T → BOK (Bs t) ∧ BC K t (Bs t) ∧ BM K t (Bs t) := by
    intro J K hJ hf t ht
    obtain ⟨b1, b2, b3⟩ := b t ht
    have eJ : ∀ c, c ≠ 0 → c ≠ 26 → c ≠ 30 + 3 * T → c ≠ 30 + 3 * T + 1 → c ≠ 30 + 3 * T + 2 → J c = I c := fun c a0 a1 a2 a3 a4 => (hJ c a0).trans (f1 c a1 a2 a3 a4)
    have hl := b1.2.1
    refine ⟨b1, ⟨fun k hk => ?_, fun j hj => ?_⟩, ⟨fun k hk => ?_, fun j hj => ?_⟩⟩
    · rw [hf.1 _ (by omega) (by omega) (by omega) (by omega), eJ _ (by omega) (by omega) (by omega) (by omega) (by omega)]
      exact b2.1 k hk
    · rw [hf.1 _ (by omega) (by omega) (by omega) (by omega), eJ _ (by omega) (by omega) (by omega) (by omega) (by omega)]
      exact b2.2 j hj
    · rw [hf.2.1 _ (by omega), eJ 62 (by omega) (by omega) (by omega) (by omega) (by omega)]
      exact b3.1 k hk
    · rw [hf.2.2.1 _ (by omega), eJ 63 (by omega) (by omega) (by omega) (by omega) (by omega)]
      exact b3.2 j hj
  -- the model's side, from any such memory
  have mod : ∀ (J : Mem), (∀ c, c ≠ 0 → J c = J1 c) → _ := fun J hJ => m_text (I := J) (tx := tx) (tp := tp) hτ (by rw [hJ 56 (by omega), f1 56 (by omega) (by omega) (by omega) (by omega)]; exact t5) (by rw [hJ 56 (by omega), f1 56 (by omega) (by omega) (by omega) (by omega)]; exact p3) p1 (fun k hk => by rw [hJ 61 (by omega), f1 61 (by omega) (by omega) (by omega) (by omega)]; exact (p4 k hk).2) (WT_of ((hJ 70 (by omega)).trans (f1 70 (by omega) (by omega) (by omega) (by omega))) w)
  cases hP : PX tx tp with
  | inl f =>
    have hf160 := n1 f hP
    have hJ : ∀ c, c ≠ 0 → wr J1 0 8 0 c = J1 c := fun c h => wr_k _ _ _ h
    obtain ⟨K, k7, fK, g1, -⟩ := mod (wr J1 0 8 0) hJ
    obtain ⟨g2, g3⟩ := g1 f hP
    refine ⟨-100 - nI f, wr J1 0 8 0, K, ?_, g2, build (wr J1 0 8 0) K T Bs hJ (fun j a1 a2 => wr_j _ _ _ a2) (wr_s _ _ _ _) fK k7 (by rw [wr_j _ _ _ (by omega), f1 0 (by omega) (by omega) (by omega) (by omega)]; exact t4) g3 (Nat.le_refl _) t2 (old _ K hJ fK)⟩
    rw [hC, hP, show vR (.inl f) = nI f from rfl, if_neg (ne_m1 (by omega))]
  | inr p =>
    obtain ⟨a3, cc⟩ := p
    obtain ⟨a1, c1, a2, c2, c3, w1, w2, w3, w4, -⟩ := px_inr hP
    have hJ : ∀ c, c ≠ 0 → wr (wr J1 0 8 0) 0 7 (nI (T + 1)) c = J1 c := fun c h => by rw [wr_k _ _ _ h, wr_k _ _ _ h]
    obtain ⟨K, k7, fK, -, g1⟩ := mod (wr (wr J1 0 8 0) 0 7 (nI (T + 1))) hJ
    obtain ⟨g2, g3, g4⟩ := g1 a1 c1 a2 c2 a3 c3 w1 w2 w3 w4
    obtain ⟨y2, y3⟩ := y1 a1 c1 a2 c2 a3 c3 w1 w2 w3 w4
    -- the codes push one value each
    have V : ∀ a, a ≤ tp → tkK (tkA tx tp a) = 0 → tkM (tkA tx tp a) < 6 ∨ (100000 ≤ tkM (tkA tx tp a) ∧ tkM (tkA tx tp a) < 110000) := by
      intro a ha hk
      have hR : RdM tx tp (wr I 56 19 (nI a)) a := ⟨by rw [wr_j _ _ _ (by omega)]; exact p3, wr_s _ _ _ _, ha, p1, fun k hk => by rw [wr_k _ _ _ (by omega)]; exact (p4 k hk).2, WT_of (wr_k _ _ _ (by omega)) w⟩
      exact op_v hR hk
    have PW : ∀ j a a' c', a ≤ tp → PT tx tp j a = .inr (a', c') → wfs c' 0 1 ∧ a' ≤ tp := by
      intro j a a' c' ha hh
      rw [PT] at hh
      have hb := nxA_b (tx := tx) ha
      by_cases q : tkA tx tp a = kwC j
      · rw [if_pos q] at hh
        cases hr : PR tx tp 60 0 0 (nxA tx tp a) with
        | inl f => rw [hr] at hh; exact absurd hh (by simp [thenR])
        | inr p =>
          obtain ⟨x, y⟩ := p
          rw [hr] at hh
          have hh' : (if tkA tx tp x = -17 then .inr (nxA tx tp x, y) else .inl (LXs tx tp x) : Res) = .inr (a', c') := hh
          have hx := (PR_g 60 0 0 _ hb.2.1 x y hr).2
          by_cases q2 : tkA tx tp x = -17
          · rw [if_pos q2] at hh'
            obtain ⟨rfl, rfl⟩ := Prod.mk.inj (Sum.inr.inj hh')
            exact ⟨PR_w V 60 0 0 _ hb.2.1 x y hr 0, (nxA_b (tx := tx) hx).2.1⟩
          · rw [if_neg q2] at hh'
            exact absurd hh' (by simp)
      · rw [if_neg q] at hh
        exact absurd hh (by simp)
    obtain ⟨v1, u1⟩ := PW 0 0 a1 c1 (Nat.zero_le _) w1
    obtain ⟨v2, u2⟩ := PW 1 a1 a2 c2 u1 w2
    obtain ⟨v3, u3⟩ := PW 2 a2 a3 c3 u2 w3
    refine ⟨nI T, wr (wr J1 0 8 0) 0 7 (nI (T + 1)), K, ?_, g2, build _ K (T + 1) (fun t => if t = T then mkB c1 c2 c3 else Bs t) hJ (fun j a1 a2 => by rw [wr_j _ _ _ a1, wr_j _ _ _ a2]) (by rw [wr_j _ _ _ (by omega), wr_s]) fK k7 (wr_s _ _ _ _) g3 (by omega) (by omega) (fun t ht => ?_)⟩
    · rw [hC, hP, show vR (.inr (a3, cc)) = -1 from rfl, if_pos rfl]
    · show BOK (if t = T then mkB c1 c2 c3 else Bs t) ∧ BC K t (if t = T then mkB c1 c2 c3 else Bs t) ∧ BM K t (if t = T then mkB c1 c2 c3 else Bs t)
      by_cases q : t = T
      · rw [if_pos q, q]
        refine ⟨BOK_mk v1 v2 v3 y3, ⟨fun k hk => ?_, fun j hj => ?_⟩, g4⟩
        · rw [fK.1 _ (by omega) (by omega) (by omega) (by omega), hJ _ (by omega)]
          exact y2.1 k hk
        · rw [fK.1 _ (by omega) (by omega) (by omega) (by omega), hJ _ (by omega)]
          exact y2.2 j hj
      · rw [if_neg q]
        exact old _ K hJ fK t (by omega)
end PText
