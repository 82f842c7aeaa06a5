/-! PURE 11: what holds between two calls -/
abbrev SHt : Type := Nat → Int32 × Nat × (Nat → Int32)
def ShC (I : Mem) (sh : SHt) : Prop := ∀ σ, σ < 4 → I (48 + 2 * σ) 1 = (sh σ).1 ∧ I (48 + 2 * σ) 2 = nI (sh σ).2.1 ∧ ∀ k, k < 40 → I (48 + 2 * σ + 1) k = (sh σ).2.2 k
def ShM (I : Mem) (sh : SHt) : Prop := ∀ σ, σ < 4 → I 66 σ = (sh σ).1 ∧ I 67 σ = nI (sh σ).2.1 ∧ ∀ k, k < 40 → I 68 (40 * σ + k) = (sh σ).2.2 k
def ShG (sh : SHt) : Prop := ∀ σ, σ < 4 → -1 ≤ (sh σ).1.toInt ∧ (sh σ).1.toInt ≤ 2 ∧ (sh σ).2.1 ≤ 40
def TP (I : Mem) (tp : Nat) (tx : Nat → Nat) : Prop := tp ≤ 160 ∧ I 0 8 = nI tp ∧ I 56 7 = nI tp ∧ ∀ k, k < tp → I 27 k = nI (tx k) ∧ I 61 k = nI (tx k) ∧ tx k < 256
def IM (I : Mem) (K : RS) : Prop := I 65 0 = nI K.2.1 ∧ I 65 1 = K.2.2.1 ∧ I 65 2 = nI K.2.2.2 ∧ (∀ p, p < K.2.1 → I 64 (4 * p) = K.1 2 p ∧ I 64 (4 * p + 1) = K.1 3 p ∧ I 64 (4 * p + 2) = K.1 4 p ∧ I 64 (4 * p + 3) = K.1 5 p) ∧ ∀ p q, p < K.2.1 → q < K.2.1 → I 64 (24 + (6 * p + q)) = K.1 (6 + q) p
def IMG (I : Mem) (S : RS) (T : Nat) (im : Option RS) : Prop := match im with
  | none => I 0 9 = 0 ∧ I 56 12 = 0
  | some K => I 0 9 = 1 ∧ I 56 12 = 1 ∧ CR I 2 K ∧ GS K ∧ K.2.2.1.toInt ≤ 999 ∧ K.2.2.2 < T ∧ ZC I 2 K.2.1 ∧ K.2.1 ≤ S.2.1 ∧ (∀ p, p < K.2.1 → K.1 0 p = S.1 0 p ∧ K.1 1 p = S.1 1 p) ∧ IM I K
def wtab : List Nat := [103, 111, 101, 115, 32, 32, 32, 32, 104, 105, 116, 115, 32, 32, 32, 32, 115, 111, 102, 116, 32, 32, 32, 32, 102, 101, 108, 116, 32, 32, 32, 32, 112, 114, 105, 100, 101, 32, 32, 32, 114, 111, 117, 110, 100, 32, 32, 32, 117, 112, 32, 32, 32, 32, 32, 32, 98, 108, 111, 119, 115, 32, 32, 32, 109, 111, 114, 101, 32, 32, 32, 32, 111, 114, 32, 32, 32, 32, 32, 32, 97, 110, 100, 32, 32, 32, 32, 32, 110, 111, 116, 32, 32, 32, 32, 32]
def WT (I : Mem) : Prop := ∀ k, k < 96 → I 70 k = nI (wtab.getD k 0)
def BKs (I : Mem) (T : Nat) (Bs : Nat → Bk) : Prop := ∀ t, t < T → BOK (Bs t) ∧ BC I t (Bs t) ∧ BM I t (Bs t)
def IV (I : Mem) (S : RS) (T : Nat) (Bs : Nat → Bk) (tp : Nat) (tx : Nat → Nat) (sh : SHt) (im : Option RS) : Prop :=
  (CR I 0 S ∧ MR I S ∧ GS S ∧ S.2.2.1.toInt ≤ 999 ∧ ZC I 0 S.2.1) ∧ (1 ≤ T ∧ T ≤ 6 ∧ S.2.2.2 < T ∧ I 0 7 = nI T ∧ I 56 10 = nI T) ∧ BKs I T Bs ∧ TP I tp tx ∧ (ShC I sh ∧ ShM I sh ∧ ShG sh) ∧ IMG I S T im ∧ WT I
def Inv (I : Mem) : Prop := ∃ S T Bs tp tx sh im, IV I S T Bs tp tx sh im
/-- a call's pair: both answer alike, and what holds goes on -/
def Pair {α : Type} (fc fm : Mem → Option (α × Mem)) : Prop := ∀ I, Inv I → ∃ v J K, fc I = some (v, J) ∧ fm J = some (v, K) ∧ Inv K
section Moves
variable {I J K : Mem} {S : RS} {T : Nat} {Bs : Nat → Bk} {tp : Nat} {tx : Nat → Nat} {sh : SHt} {im : Option RS}
theorem CR_Fr {ρ : Nat} {R : RS} (hρ : ρ < 3) (h1 : ρ ≠ 1) (hf : FrC 1 I J) (h : CR I ρ R) : CR J ρ R := by
  obtain ⟨c1, c2, c3, c4, c5⟩ := h
  have e : ∀ j, j < 8 → J (2 + 8 * ρ + j) = I (2 + 8 * ρ + j) := fun j hj => hf _ (by omega) (by omega)
  have e0 := e 0 (by omega)
  rw [Nat.add_zero] at e0
  refine ⟨by rw [e0]; exact c1, by rw [e0]; exact c2, by rw [e0]; exact c3, fun p hp => ?_, fun p q hp hq => by rw [e 7 (by omega)]; exact c5 p q hp hq⟩
  rw [e 1 (by omega), e 2 (by omega), e 3 (by omega), e 4 (by omega), e 5 (by omega), e 6 (by omega)]
  exact c4 p hp
theorem ZC_Fr {ρ N : Nat} (hρ : ρ < 3) (h1 : ρ ≠ 1) (hf : FrC 1 I J) (h : ZC I ρ N) : ZC J ρ N := ⟨fun p a b => by rw [hf _ (by omega) (by omega)]; exact h.1 p a b, fun p q a b c => by rw [hf _ (by omega) (by omega)]; exact h.2 p q a b c⟩
theorem IV_c (hf : FrC 1 I J) (h : IV I S T Bs tp tx sh im) : IV J S T Bs tp tx sh im := by
  obtain ⟨⟨c, m, g, r, z⟩, ⟨t1, t2, t3, t4, t5⟩, b, ⟨p1, p2, p3, p4⟩, ⟨s1, s2, s3⟩, i, w⟩ := h
  have e : ∀ c, c < 10 ∨ 17 < c → c ≠ 29 → J c = I c := fun c h1 h2 => hf c h2 (by omega)
  refine ⟨⟨CR_Fr (by omega) (by omega) hf c, ?_, g, r, ZC_Fr (by omega) (by omega) hf z⟩, ⟨t1, t2, t3, by rw [e 0 (by omega) (by omega)]; exact t4, by rw [e 56 (by omega) (by omega)]; exact t5⟩, ?_, ⟨p1, by rw [e 0 (by omega) (by omega)]; exact p2, by rw [e 56 (by omega) (by omega)]; exact p3, fun k hk => by rw [e 27 (by omega) (by omega), e 61 (by omega) (by omega)]; exact p4 k hk⟩, ⟨?_, ?_, s3⟩, ?_, ?_⟩
  · obtain ⟨m1, m2, m3, m4, m5⟩ := m
    refine ⟨by rw [e 56 (by omega) (by omega)]; exact m1, by rw [e 56 (by omega) (by omega)]; exact m2, by rw [e 56 (by omega) (by omega)]; exact m3, fun p hp => ?_, fun p q hp hq => by rw [e 60 (by omega) (by omega)]; exact m5 p q hp hq⟩
    rw [e 57 (by omega) (by omega), e 58 (by omega) (by omega), e 59 (by omega) (by omega)]
    exact m4 p hp
  · intro t ht
    obtain ⟨b1, b2, b3⟩ := b t ht
    exact ⟨b1, ⟨fun k hk => by rw [e _ (by omega) (by omega)]; exact b2.1 k hk, fun j hj => by rw [e _ (by omega) (by omega)]; exact b2.2 j hj⟩, ⟨fun k hk => by rw [e _ (by omega) (by omega)]; exact b3.1 k hk, fun j hj => by rw [e _ (by omega) (by omega)]; exact b3.2 j hj⟩⟩
  · intro σ hσ
    obtain ⟨a1, a2, a3⟩ := s1 σ hσ
    exact ⟨by rw [e _ (by omega) (by omega)]; exact a1, by rw [e _ (by omega) (by omega)]; exact a2, fun k hk => by rw [e _ (by omega) (by omega)]; exact a3 k hk⟩
  · intro σ hσ
    obtain ⟨a1, a2, a3⟩ := s2 σ hσ
    exact ⟨by rw [e _ (by omega) (by omega)]; exact a1, by rw [e _ (by omega) (by omega)]; exact a2, fun k hk => by rw [e _ (by omega) (by omega)]; exact a3 k hk⟩
  · cases im with
    | none => exact ⟨by rw [e 0 (by omega) (by omega)]; exact i.1, by rw [e 56 (by omega) (by omega)]; exact i.2⟩
    | some R =>
      obtain ⟨i1, i2, i3, i4, i5, i6, i7, i8, i9, ⟨j1, j2, j3, j4, j5⟩⟩ := i
      exact ⟨by rw [e 0 (by omega) (by omega)]; exact i1, by rw [e 56 (by omega) (by omega)]; exact i2, CR_Fr (by omega) (by omega) hf i3, i4, i5, i6, ZC_Fr (by omega) (by omega) hf i7, i8, i9, ⟨by rw [e 65 (by omega) (by omega)]; exact j1, by rw [e 65 (by omega) (by omega)]; exact j2, by rw [e 65 (by omega) (by omega)]; exact j3, fun p hp => by rw [e 64 (by omega) (by omega)]; exact j4 p hp, fun p q hp hq => by rw [e 64 (by omega) (by omega)]; exact j5 p q hp hq⟩⟩
  · intro k hk
    rw [e 70 (by omega) (by omega)]
    exact w k hk
theorem IV_m (hf : FrQ I J) (hm : MR J S) (h : IV I S T Bs tp tx sh im) : IV J S T Bs tp tx sh im := by
  obtain ⟨⟨c, m, g, r, z⟩, ⟨t1, t2, t3, t4, t5⟩, b, ⟨p1, p2, p3, p4⟩, ⟨s1, s2, s3⟩, i, w⟩ := h
  have e : ∀ c, c < 56 ∨ (c ≠ 56 ∧ c ≠ 59 ∧ c ≠ 60 ∧ c ≠ 72 ∧ c ≠ 73 ∧ c ≠ 74) → J c = I c := fun c h => hf.1 c (by omega) (by omega) (by omega) (by omega) (by omega) (by omega)
  have cr : ∀ {ρ : Nat} {R : RS}, ρ < 3 → CR I ρ R → CR J ρ R := by
    intro ρ R hρ h
    obtain ⟨c1, c2, c3, c4, c5⟩ := h
    refine ⟨by rw [e _ (by omega)]; exact c1, by rw [e _ (by omega)]; exact c2, by rw [e _ (by omega)]; exact c3, fun p hp => ?_, fun p q hp hq => by rw [e _ (by omega)]; exact c5 p q hp hq⟩
    rw [e _ (by omega), e _ (by omega), e _ (by omega), e _ (by omega), e _ (by omega), e _ (by omega)]
    exact c4 p hp
  have zc : ∀ {ρ N : Nat}, ρ < 3 → ZC I ρ N → ZC J ρ N := fun hρ h => ⟨fun p a b => by rw [e _ (by omega)]; exact h.1 p a b, fun p q a b c => by rw [e _ (by omega)]; exact h.2 p q a b c⟩
  refine ⟨⟨cr (by omega) c, hm, g, r, zc (by omega) z⟩, ⟨t1, t2, t3, by rw [e 0 (by omega)]; exact t4, by rw [hf.2 10 (by omega) (by omega)]; exact t5⟩, ?_, ⟨p1, by rw [e 0 (by omega)]; exact p2, by rw [hf.2 7 (by omega) (by omega)]; exact p3, fun k hk => by rw [e 27 (by omega), e 61 (by omega)]; exact p4 k hk⟩, ⟨?_, ?_, s3⟩, ?_, ?_⟩
  · intro t ht
    obtain ⟨b1, b2, b3⟩ := b t ht
    exact ⟨b1, ⟨fun k hk => by rw [e _ (by omega)]; exact b2.1 k hk, fun j hj => by rw [e _ (by omega)]; exact b2.2 j hj⟩, ⟨fun k hk => by rw [e _ (by omega)]; exact b3.1 k hk, fun j hj => by rw [e _ (by omega)]; exact b3.2 j hj⟩⟩
  · intro σ hσ
    obtain ⟨a1, a2, a3⟩ := s1 σ hσ
    exact ⟨by rw [e _ (by omega)]; exact a1, by rw [e _ (by omega)]; exact a2, fun k hk => by rw [e _ (by omega)]; exact a3 k hk⟩
  · intro σ hσ
    obtain ⟨a1, a2, a3⟩ := s2 σ hσ
    exact ⟨by rw [e _ (by omega)]; exact a1, by rw [e _ (by omega)]; exact a2, fun k hk => by rw [e _ (by omega)]; exact a3 k hk⟩
  · cases im with
    | none => exact ⟨by rw [e 0 (by omega)]; exact i.1, by rw [hf.2 12 (by omega) (by omega)]; exact i.2⟩
    | some R =>
      obtain ⟨i1, i2, i3, i4, i5, i6, i7, i8, i9, ⟨j1, j2, j3, j4, j5⟩⟩ := i
      exact ⟨by rw [e 0 (by omega)]; exact i1, by rw [hf.2 12 (by omega) (by omega)]; exact i2, cr (by omega) i3, i4, i5, i6, zc (by omega) i7, i8, i9, ⟨by rw [e 65 (by omega)]; exact j1, by rw [e 65 (by omega)]; exact j2, by rw [e 65 (by omega)]; exact j3, fun p hp => by rw [e 64 (by omega)]; exact j4 p hp, fun p q hp hq => by rw [e 64 (by omega)]; exact j5 p q hp hq⟩⟩
  · intro k hk
    rw [e 70 (by omega)]
    exact w k hk
theorem IV_q (hf : FrC 1 I J) (hq : FrQ J K) (hm : MR K S) (h : IV I S T Bs tp tx sh im) : Inv K := ⟨S, T, Bs, tp, tx, sh, im, IV_m hq hm (IV_c hf h)⟩
theorem FrC.id29 (h : ∀ c, c ≠ 29 → J c = I c) : FrC 1 I J := fun c a _ => h c a
theorem FrQ.of72 (h : ∀ c, c ≠ 72 → c ≠ 73 → J c = I c) : FrQ I J := (FrM.of h).Q
end Moves
section Simple
theorem p_count (a : Int32) : Pair (f_X6_count a) (f_X7_count a) := by
  intro I hI
  obtain ⟨S, T, Bs, tp, tx, sh, im, hv⟩ := id hI
  obtain ⟨⟨c, m, g, r, z⟩, ⟨t1, t2, t3, t4, t5⟩, b, ⟨p1, p2, p3, p4⟩, -, -, -⟩ := id hv
  have c1 : I 2 8 = nI S.2.1 := c.1
  have c2 : I 2 9 = S.2.2.1 := c.2.1
  have c3 : I 2 10 = nI S.2.2.2 := c.2.2.1
  refine ⟨if a = 0 then nI S.2.1 else if a = 1 then S.2.2.1 else if a = 2 then upn S else if a = 3 then nI T else if a = 4 then nI S.2.2.2 else if a = 5 then nI tp else -2, I, I, ?_, ?_, hI⟩
  · rw [f_X6_count, s2_upCount c g, bnd_some, c1, c2, c3, t4, p2, some_if, some_if, some_if, some_if, some_if, some_if]
  · rw [f_X7_count, s7_upSet m g, bnd_some, s7_onesOf, bnd_some, ones_upb g, m.1, m.2.1, m.2.2.1, t5, p3, some_if, some_if, some_if, some_if, some_if, some_if]
theorem p_asks (a p : Int32) : Pair (f_X6_asks a p) (f_X7_asks a p) := by
  intro I hI
  obtain ⟨S, T, Bs, tp, tx, sh, im, hv⟩ := id hI
  obtain ⟨⟨c, m, g, r, z⟩, ⟨t1, t2, t3, t4, t5⟩, b, -, -, -, -⟩ := id hv
  have hN := g.1
  have c1 : I 2 8 = nI S.2.1 := c.1
  have c3 : I 2 10 = nI S.2.2.2 := c.2.2.1
  rcases hat_or a (N := 3) (by omega) with ⟨x, hx, rfl, w⟩ | ⟨_, w⟩
  · have w' : wth (nI x) 0 2 = 1 := w
    rcases hat_or p (N := S.2.1) (by omega) with ⟨y, hy, rfl, u⟩ | ⟨_, u⟩
    · obtain ⟨b1, b2, b3⟩ := b S.2.2.2 t3
      obtain ⟨J, e, o⟩ := s4_says (ρ := 0) (part := x) g.2.1 (by omega) g hy hx b1 b2 c
      have hvJ := IV_c (FrC.id29 o) hv
      obtain ⟨K, e2, o2⟩ := s7_asksOf (part := x) hvJ.1.2.2.1 hvJ.1.2.1 rfl hy hx b1 (hvJ.2.2.1 S.2.2.2 t3).2.2
      refine ⟨sayS (Bs S.2.2.2) S x y, J, K, ?_, ?_, IV_q (FrC.id29 o) (FrQ.of72 o2) (MR_off hvJ.1.2.1 o2) hv⟩
      · show f_X6_asks (nI x) (nI y) I = _
        rw [f_X6_asks, s6_within, bnd_some, w', if_neg (by decide), s6_isHat, bnd_some, c1, u, if_neg (by decide), c3, lt1_eq, if_pos (inb_t (by omega) (by omega)), cl_nI (by omega), e, bnd_some]
      · show f_X7_asks (nI x) (nI y) J = _
        rw [f_X7_asks, s7_in, bnd_some, w', if_neg (by decide), s7_isOne, bnd_some, hvJ.1.2.1.1, u, if_neg (by decide), e2, bnd_some]
    · refine ⟨-1000, I, I, ?_, ?_, hI⟩
      · rw [f_X6_asks, s6_within, bnd_some, w', if_neg (by decide), s6_isHat, bnd_some, c1, u, if_pos rfl]
      · rw [f_X7_asks, s7_in, bnd_some, w', if_neg (by decide), s7_isOne, bnd_some, m.1, u, if_pos rfl]
  · have w' : wth a 0 2 = 0 := w
    refine ⟨-1000, I, I, ?_, ?_, hI⟩
    · rw [f_X6_asks, s6_within, bnd_some, w', if_pos rfl]
    · rw [f_X7_asks, s7_in, bnd_some, w', if_pos rfl]
end Simple
