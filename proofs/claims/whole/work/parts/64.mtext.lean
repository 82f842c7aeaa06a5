/-! PURE 55: the model reads a text -/
section MText
variable {tx : Nat → Nat} {tp : Nat}
def SM0 (tx : Nat → Nat) (tp : Nat) (J : Mem) (τ a : Nat) (L : List Nat) : Prop := RdM tx tp J a ∧ J 56 10 = nI τ ∧ J 56 27 = nI L.length ∧ (∀ k, k < L.length → J 62 (200 * τ + k) = nI (L.getD k 0)) ∧ L.length ≤ a
def ER (tx : Nat → Nat) (tp a : Nat) : Res := thenR (PR tx tp 60 0 0 a) fun a1 c => if tkA tx tp a1 = -17 then .inr (nxA tx tp a1, c) else .inl (LXs tx tp a1)
/-- all but what a text's reading writes -/
def FrV (τ : Nat) (J K : Mem) : Prop := (∀ c, c ≠ 56 → c ≠ 62 → c ≠ 63 → c ≠ 71 → K c = J c) ∧ (∀ k, k < 200 * τ → K 62 k = J 62 k) ∧ (∀ k, k < 4 * τ → K 63 k = J 63 k) ∧ ∀ j, j < 19 → j ≠ 7 → j ≠ 10 → K 56 j = J 56 j
theorem FrV.rf {τ : Nat} {I : Mem} : FrV τ I I := ⟨fun _ _ _ _ _ => rfl, fun _ _ => rfl, fun _ _ => rfl, fun _ _ _ _ => rfl⟩
theorem FrV.tr {τ : Nat} {I J K : Mem} (h : FrV τ I J) (h2 : FrV τ J K) : FrV τ I K := ⟨fun c a b d e => (h2.1 c a b d e).trans (h.1 c a b d e), fun k hk => (h2.2.1 k hk).trans (h.2.1 k hk), fun k hk => (h2.2.2.1 k hk).trans (h.2.2.1 k hk), fun j a b d => (h2.2.2.2 j a b d).trans (h.2.2.2 j a b d)⟩
theorem FrT.V {τ : Nat} {I J : Mem} (h : FrT τ I J) : FrV τ I J := ⟨fun c a b _ d => h.1 c a b d, h.2.1, fun k _ => by rw [h.1 63 (by omega) (by omega) (by omega)], fun j a _ _ => h.2.2 j (by omega)⟩
theorem FrV.w63 {τ j : Nat} {I : Mem} {v : Int32} (hj : 4 * τ ≤ j) : FrV τ I (wr I 63 j v) := ⟨fun c _ _ b _ => wr_k _ _ _ b, fun k _ => by rw [wr_k _ _ _ (by omega)], fun k hk => by rw [wr_j _ _ _ (by omega)], fun j _ _ _ => by rw [wr_k _ _ _ (by omega)]⟩
theorem FrV.w56 {τ j : Nat} {I : Mem} {v : Int32} (hj : j = 7 ∨ j = 10 ∨ 19 ≤ j) : FrV τ I (wr I 56 j v) := ⟨fun c a _ _ _ => wr_k _ _ _ a, fun k _ => by rw [wr_k _ _ _ (by omega)], fun k hk => by rw [wr_k _ _ _ (by omega)], fun i a b c => by rw [wr_j _ _ _ (by omega)]⟩
theorem SM0_63 {J : Mem} {τ a j : Nat} {v : Int32} {L : List Nat} (h : SM0 tx tp J τ a L) : SM0 tx tp (wr J 63 j v) τ a L := by
  obtain ⟨h1, h2, h3, h4, h5⟩ := h
  have e : ∀ c, c ≠ 63 → wr J 63 j v c = J c := fun c h => wr_k _ _ _ h
  exact ⟨⟨by rw [e 56 (by omega)]; exact h1.1, by rw [e 56 (by omega)]; exact h1.2.1, h1.2.2.1, h1.2.2.2.1, fun k hk => by rw [e 61 (by omega)]; exact h1.2.2.2.2.1 k hk, WT_of (e 70 (by omega)) h1.2.2.2.2.2⟩, by rw [e 56 (by omega)]; exact h2, by rw [e 56 (by omega)]; exact h3, fun k hk => by rw [e 62 (by omega)]; exact h4 k hk, h5⟩
theorem m_eRead {J : Mem} {τ a : Nat} {L : List Nat} (hτ : τ < 6) (h : SM0 tx tp J τ a L) : (∀ f, ER tx tp a = .inl f → FailM τ f J (f_X7_eRead J)) ∧ ∀ a' c, ER tx tp a = .inr (a', c) → ∃ K, f_X7_eRead J = some (1, K) ∧ SM0 tx tp K τ a' (L ++ c) ∧ FrT τ J K := by
  obtain ⟨h1, h2, h3, h4, h5⟩ := h
  have ha := h1.2.2.1
  have f0 : FrU τ J (wr (wr J 56 25 0) 56 26 0) := ⟨fun c a b d => by rw [wr_k _ _ _ a, wr_k _ _ _ a], fun k hk => by rw [wr_k _ _ _ (by omega), wr_k _ _ _ (by omega)], fun j hj => by rw [wr_j _ _ _ (by omega), wr_j _ _ _ (by omega)]⟩
  have s0 : SM tx tp (wr (wr J 56 25 0) 56 26 0) τ a L [] 0 := ⟨RdM_U f0 h1, by rw [f0.2.2 10 (by omega)]; exact h2, by rw [wr_j _ _ _ (by omega), wr_j _ _ _ (by omega)]; exact h3, fun k hk => by rw [wr_k _ _ _ (by omega), wr_k _ _ _ (by omega)]; exact h4 k hk, by rw [wr_j _ _ _ (by omega), wr_s]; rfl, fun k hk => absurd hk (by simp), by rw [wr_s]; rfl, by show L.length + 0 ≤ a; omega⟩
  have hE : f_X7_eRead J = f_X7_eRead_b14 FU 1 1 (wr (wr J 56 25 0) 56 26 0) := by rw [f_X7_eRead, lt1_eq, lt1_eq]
  have hI := rm_PR 60 0 0 0 a τ (wr (wr J 56 25 0) 56 26 0) L [] FU 1 (by omega) (by omega) (fun _ => rfl) (by omega) hτ (Or.inl rfl) s0 (Or.inl ⟨by omega, rfl⟩) (by have := h1.2.2.2.1; show tp + 1 ≤ 4096 + a; omega)
  have hI' : OutM tx tp τ 0 0 0 L [] (wr (wr J 56 25 0) 56 26 0) (f_X7_eRead_b14 FU 1 1 (wr (wr J 56 25 0) 56 26 0)) (PR tx tp 60 0 0 a) := hI
  rw [hE, ER]
  cases hr : PR tx tp 60 0 0 a with
  | inl f =>
    rw [hr] at hI'
    refine ⟨fun f' e => ?_, fun a' c e => absurd e (by simp [thenR])⟩
    obtain rfl := Sum.inl.inj e
    exact FailM.tr f0.T hI'
  | inr p =>
    obtain ⟨a1, c⟩ := p
    rw [hr] at hI'
    obtain ⟨K, n, y2, L2, P2, i1, i2, i3, i4, i5, i6, i7, i8⟩ := hI'
    have ha1 := i2.1.2.2.1
    obtain ⟨n, rfl⟩ : ∃ n', n = n' + 1 := ⟨n - 1, by omega⟩
    have i3' : L2 ++ P2 = L ++ c := by rw [i3]; simp
    have i4' : ∀ x, x ∈ P2 → okS x ∧ 1 ≤ rk x := i4
    show (∀ f', (if tkA tx tp a1 = -17 then .inr (nxA tx tp a1, c) else .inl (LXs tx tp a1) : Res) = .inl f' → _) ∧ ∀ a' c', (if tkA tx tp a1 = -17 then .inr (nxA tx tp a1, c) else .inl (LXs tx tp a1) : Res) = .inr (a', c') → _
    rw [i1]
    by_cases q : tkA tx tp a1 = -17
    · rw [if_pos q]
      refine ⟨fun f' e => absurd e (by simp), fun a' c' e => ?_⟩
      obtain ⟨rfl, rfl⟩ := Prod.mk.inj (Sum.inr.inj e)
      obtain ⟨K3, e3, s3, f3⟩ := so_semi (n := n) (x2 := y2) hτ q i4' i2 i6
      rw [i3'] at s3
      exact ⟨K3, e3, ⟨s3.1, s3.2.1, s3.2.2.1, s3.2.2.2.1, s3.2.2.2.2.2.2.2⟩, f0.T.tr (i8.tr f3)⟩
    · rw [if_neg q]
      refine ⟨fun f' e => ?_, fun a' c e => absurd e (by simp)⟩
      obtain rfl := Sum.inl.inj e
      exact FailM.tr (f0.T.tr i8) (so_end hτ i4' (Or.inl rfl) i5 (fun _ => rfl) (fun hh => absurd hh q) i2 i6)
theorem m_part {J : Mem} {τ a j n : Nat} {L : List Nat} (hτ : τ < 6) (hj : j < 3) (h : SM0 tx tp J τ a L) : (∀ f, PT tx tp j a = .inl f → ∃ K, f_X7_text_b26 (n + 2) (nI j) 1 J = f_X7_text_b101 0 K ∧ K 56 20 = nI f ∧ K 56 10 = nI τ ∧ FrV τ J K) ∧ ∀ a' c, PT tx tp j a = .inr (a', c) → ∃ K, f_X7_text_b26 (n + 2) (nI j) 1 J = f_X7_text_b26 (n + 1) (nI (j + 1)) 1 K ∧ SM0 tx tp K τ a' (L ++ c) ∧ K 63 (4 * τ + j) = nI L.length ∧ (∀ i, i ≠ 4 * τ + j → K 63 i = J 63 i) ∧ FrV τ J K := by
  obtain ⟨h1, h2, h3, h4, h5⟩ := h
  have ha := h1.2.2.1
  have hb := nxA_b (tx := tx) ha
  obtain ⟨J3, e3, ⟨t1, t2, t3⟩, f3⟩ := s7_next h1
  have t3' : tkR (tkA tx tp a) (J3 56 21) (J3 56 22) := t3
  have s3 : SM0 tx tp J3 τ (nxA tx tp a) L := ⟨t2, by rw [f3.2 10 (by omega)]; exact h2, by rw [f3.2 27 (by omega)]; exact h3, fun k hk => by rw [f3.1 62 (by omega)]; exact h4 k hk, by omega⟩
  have f3V : FrV τ J J3 := (FrX.T (τ := τ) f3).V
  have e63 : J3 63 = J 63 := f3.1 63 (by omega)
  have k4 : (4 : Int32) * nI τ + nI j = nI (4 * τ + j) := by rw [fact4, nI_add]
  have b60 : ∀ s0 : Int32, f_X7_text_b60 (f_X7_text_b26 (n + 1)) (nI j) s0 J3 = if s0 = 0 then f_X7_text_b93 (f_X7_text_b26 (n + 1)) (nI j) (wr J3 63 (4 * τ + j) (nI L.length)) else bnd (f_X7_eRead (wr J3 63 (4 * τ + j) (nI L.length))) fun v10 J9 => if v10 = 0 then (f_X7_text_b93 (f_X7_text_b26 (n + 1)) (nI j) J9) else f_X7_text_b94 (f_X7_text_b26 (n + 1)) (nI j) (1 : Int32) J9 := by
    intro s0
    rw [f_X7_text_b60, s3.2.1, k4, if_pos (inb_t (by omega) (by omega)), lt1_eq, cl_nI (by omega), s3.2.2.1]
  have b93 : ∀ K, f_X7_text_b93 (f_X7_text_b26 (n + 1)) (nI j) K = f_X7_text_b101 0 K := by
    intro K
    rw [f_X7_text_b93, f_X7_text_b94, nI_1, f_X7_text_b26]
    by_cases q : (3 : Int32) ≤ nI (j + 1)
    · rw [if_pos q]
    · rw [if_neg q, if_pos rfl]
  have b26 : f_X7_text_b26 (n + 2) (nI j) 1 J = if (J3 56 21) = (3 : Int32) then (if (J3 56 22) = nI j then (f_X7_text_b60 (f_X7_text_b26 (n + 1)) (nI j) (1 : Int32) J3) else f_X7_text_b59 (f_X7_text_b26 (n + 1)) (nI j) J3) else f_X7_text_b59 (f_X7_text_b26 (n + 1)) (nI j) J3 := by
    rw [f_X7_text_b26, if_neg (show ¬ (3 : Int32) ≤ nI j from fun hh => by have := (nI_le' (a := 3) (by omega) (by omega)).mp hh; omega), if_neg (show ¬ (1 : Int32) = 0 by decide), e3, bnd_some]
  have s8 := SM0_63 (j := 4 * τ + j) (v := nI L.length) s3
  have f8 : FrV τ J (wr J3 63 (4 * τ + j) (nI L.length)) := f3V.tr (FrV.w63 (by omega))
  rw [b26]
  by_cases q : tkA tx tp a = kwC j
  · have hx : J3 56 21 = 3 ∧ J3 56 22 = nI j := by
      rcases (show j = 0 ∨ j = 1 ∨ j = 2 by omega) with rfl | rfl | rfl
      · have q' : tkA tx tp a = -3 := q
        rcases tkr_k t3' with ⟨e, -⟩ | ⟨e, -⟩ | ⟨e, -⟩ | ⟨e, -⟩ | ⟨e, -⟩ | ⟨e, -⟩ | ⟨e, -⟩ | ⟨e, -⟩ | ⟨e, -⟩ | ⟨e, -⟩ | ⟨e, -⟩ | ⟨e, -⟩ | ⟨e, -⟩ | ⟨e, -⟩ | ⟨e, hx⟩ | ⟨e, -⟩ | ⟨e, -⟩ <;> first | exact hx | (exfalso; rw [q'] at e; revert e; decide)
      · have q' : tkA tx tp a = -4 := q
        rcases tkr_k t3' with ⟨e, -⟩ | ⟨e, -⟩ | ⟨e, -⟩ | ⟨e, -⟩ | ⟨e, -⟩ | ⟨e, -⟩ | ⟨e, -⟩ | ⟨e, -⟩ | ⟨e, -⟩ | ⟨e, -⟩ | ⟨e, -⟩ | ⟨e, -⟩ | ⟨e, -⟩ | ⟨e, -⟩ | ⟨e, -⟩ | ⟨e, hx⟩ | ⟨e, -⟩ <;> first | exact hx | (exfalso; rw [q'] at e; revert e; decide)
      · have q' : tkA tx tp a = -5 := q
        rcases tkr_k t3' with ⟨e, -⟩ | ⟨e, -⟩ | ⟨e, -⟩ | ⟨e, -⟩ | ⟨e, -⟩ | ⟨e, -⟩ | ⟨e, -⟩ | ⟨e, -⟩ | ⟨e, -⟩ | ⟨e, -⟩ | ⟨e, -⟩ | ⟨e, -⟩ | ⟨e, -⟩ | ⟨e, -⟩ | ⟨e, -⟩ | ⟨e, -⟩ | ⟨e, hx⟩ <;> first | exact hx | (exfalso; rw [q'] at e; revert e; decide)
    rw [if_pos hx.1, if_pos hx.2, b60, if_neg (show ¬ (1 : Int32) = 0 by decide), PT, if_pos q]
    obtain ⟨g1, g2⟩ := m_eRead hτ s8
    constructor
    · intro f hf
      obtain ⟨K, e, p, fr⟩ := g1 f hf
      refine ⟨K, by rw [e, bnd_some, if_pos rfl, b93], p, ?_, f8.tr fr.V⟩
      rw [fr.2.2 10 (by omega)]
      exact s8.2.1
    · intro a' c hf
      obtain ⟨K, e, s, fr⟩ := g2 a' c hf
      refine ⟨K, by rw [e, bnd_some, if_neg (show ¬ (1 : Int32) = 0 by decide), f_X7_text_b94, nI_1], s, ?_, fun i hi => ?_, f8.tr fr.V⟩
      · rw [fr.1 63 (by omega) (by omega) (by omega), wr_s]
      · rw [fr.1 63 (by omega) (by omega) (by omega), wr_j _ _ _ hi, e63]
  · have hno : (if (J3 56 21) = (3 : Int32) then (if (J3 56 22) = nI j then (f_X7_text_b60 (f_X7_text_b26 (n + 1)) (nI j) (1 : Int32) J3) else f_X7_text_b59 (f_X7_text_b26 (n + 1)) (nI j) J3) else f_X7_text_b59 (f_X7_text_b26 (n + 1)) (nI j) J3) = f_X7_text_b59 (f_X7_text_b26 (n + 1)) (nI j) J3 := by
      by_cases q1 : J3 56 21 = 3
      · rw [if_pos q1]
        by_cases q2 : J3 56 22 = nI j
        · exfalso
          apply q
          rcases tkr_k t3' with ⟨-, ⟨hx, -⟩ | ⟨hx, -⟩⟩ | ⟨e, hx⟩ | ⟨e, hx⟩ | ⟨e, hx⟩ | ⟨e, hx⟩ | ⟨e, hx⟩ | ⟨e, hx⟩ | ⟨e, hx⟩ | ⟨e, hx⟩ | ⟨e, hx⟩ | ⟨e, hx⟩ | ⟨e, hx⟩ | ⟨e, hx⟩ | ⟨e, hx⟩ | ⟨e, -, hy⟩ | ⟨e, -, hy⟩ | ⟨e, -, hy⟩ <;> first | (exfalso; rw [q1] at hx; revert hx; decide; done) | skip
          · have := (nI_eq' (a := j) (b := 0) (by omega) (by omega)).mp (q2.symm.trans hy)
            rw [e, this]; rfl
          · have := (nI_eq' (a := j) (b := 1) (by omega) (by omega)).mp (q2.symm.trans hy)
            rw [e, this]; rfl
          · have := (nI_eq' (a := j) (b := 2) (by omega) (by omega)).mp (q2.symm.trans hy)
            rw [e, this]; rfl
        · rw [if_neg q2]
      · rw [if_neg q1]
    rw [hno, f_X7_text_b59, b60, if_pos rfl, b93, PT, if_neg q]
    refine ⟨fun f e => ?_, fun a' c e => absurd e (by simp)⟩
    obtain rfl := Sum.inl.inj e
    refine ⟨_, rfl, by rw [wr_k _ _ _ (by omega)]; exact t1, by rw [wr_k _ _ _ (by omega)]; exact s3.2.1, f8⟩
theorem m_fail {J : Mem} {τ f : Nat} (hτ : τ < 6) (h20 : J 56 20 = nI f) (h10 : J 56 10 = nI τ) : ∃ K, f_X7_text_b101 0 J = some (-100 - nI f, K) ∧ K 56 7 = 0 ∧ K 56 10 = nI τ ∧ FrV τ J K := by
  have k4 : (4 : Int32) * nI τ + 3 = nI (4 * τ + 3) := by rw [fact4, show (3 : Int32) = nI 3 from rfl, nI_add]
  rw [f_X7_text_b101, if_pos rfl, f_X7_text_b122, h10, k4, if_pos (inb_t (by omega) (by omega)), lt1_eq, lt1_eq, if_pos rfl, cl_nI (by omega)]
  have w : ∀ j, wr J 63 (4 * τ + 3) (J 56 27) 56 j = J 56 j := fun j => by rw [wr_k _ _ _ (by omega)]
  refine ⟨_, by rw [wr_j _ _ _ (by omega), w, h20], wr_s _ _ _ _, by rw [wr_j _ _ _ (by omega), w]; exact h10, (FrV.w63 (by omega)).tr (FrV.w56 (by omega))⟩
theorem m_end {J : Mem} {τ a n : Nat} {L : List Nat} (hτ : τ < 6) (h : SM0 tx tp J τ a L) : (tkA tx tp a = -1 → ∃ K, f_X7_text_b26 (n + 1) (nI 3) 1 J = some (nI τ, K) ∧ K 56 7 = 0 ∧ K 56 10 = nI (τ + 1) ∧ K 62 = J 62 ∧ K 63 (4 * τ + 3) = nI L.length ∧ (∀ i, i ≠ 4 * τ + 3 → K 63 i = J 63 i) ∧ FrV τ J K) ∧ (tkA tx tp a ≠ -1 → ∃ K, f_X7_text_b26 (n + 1) (nI 3) 1 J = some (-100 - nI (LXs tx tp a), K) ∧ K 56 7 = 0 ∧ K 56 10 = nI τ ∧ FrV τ J K) := by
  obtain ⟨h1, h2, h3, h4, h5⟩ := h
  obtain ⟨J3, e3, ⟨t1, t2, t3⟩, f3⟩ := s7_next h1
  have t3' : tkR (tkA tx tp a) (J3 56 21) (J3 56 22) := t3
  have f3V : FrV τ J J3 := (FrX.T (τ := τ) f3).V
  have e63 : J3 63 = J 63 := f3.1 63 (by omega)
  have e62 : J3 62 = J 62 := f3.1 62 (by omega)
  have e10 : J3 56 10 = nI τ := by rw [f3.2 10 (by omega)]; exact h2
  have e27 : J3 56 27 = nI L.length := by rw [f3.2 27 (by omega)]; exact h3
  have k4 : (4 : Int32) * nI τ + 3 = nI (4 * τ + 3) := by rw [fact4, show (3 : Int32) = nI 3 from rfl, nI_add]
  rw [f_X7_text_b26, if_pos (by decide), f_X7_text_b101, if_neg (show ¬ (1 : Int32) = 0 by decide), e3, bnd_some, f_X7_text_b121, f_X7_text_b121]
  have w : ∀ j, wr J3 63 (4 * τ + 3) (nI L.length) 56 j = J3 56 j := fun j => by rw [wr_k _ _ _ (by omega)]
  constructor
  · intro q
    have hx : J3 56 21 = 0 := by
      rcases tkr_k t3' with ⟨e, -⟩ | ⟨e, -⟩ | ⟨e, -⟩ | ⟨e, -⟩ | ⟨e, -⟩ | ⟨e, -⟩ | ⟨e, -⟩ | ⟨e, -⟩ | ⟨e, -⟩ | ⟨e, -⟩ | ⟨e, -⟩ | ⟨e, -⟩ | ⟨e, hx⟩ | ⟨e, -⟩ | ⟨e, -⟩ | ⟨e, -⟩ | ⟨e, -⟩ <;> first | exact hx | (exfalso; rw [q] at e; revert e; decide)
    rw [if_pos hx, f_X7_text_b122, e10, k4, if_pos (inb_t (by omega) (by omega)), lt1_eq, lt1_eq, if_neg (show ¬ (1 : Int32) = 0 by decide), lt1_eq, cl_nI (by omega), e27]
    have w7 : ∀ j, j ≠ 7 → wr (wr J3 63 (4 * τ + 3) (nI L.length)) 56 7 0 56 j = J3 56 j := fun j hj => by rw [wr_j _ _ _ hj, w]
    rw [w7 10 (by omega), e10, nI_1]
    refine ⟨_, by rw [wr_s, nI_sub1 (by omega)], by rw [wr_j _ _ _ (by omega), wr_s], wr_s _ _ _ _, ?_, ?_, fun i hi => ?_, f3V.tr ((FrV.w63 (by omega)).tr ((FrV.w56 (by omega)).tr (FrV.w56 (by omega))))⟩
    · rw [wr_k _ _ _ (by omega), wr_k _ _ _ (by omega), wr_k _ _ _ (by omega)]; exact e62
    · rw [wr_k _ _ _ (by omega), wr_k _ _ _ (by omega), wr_s]
    · rw [wr_k _ _ _ (by omega), wr_k _ _ _ (by omega), wr_j _ _ _ hi, e63]
  · intro q
    have hx : ¬ J3 56 21 = 0 := by
      intro hx0
      rcases tkr_k t3' with ⟨-, ⟨hx, -⟩ | ⟨hx, -⟩⟩ | ⟨e, hx⟩ | ⟨e, hx⟩ | ⟨e, hx⟩ | ⟨e, hx⟩ | ⟨e, hx⟩ | ⟨e, hx⟩ | ⟨e, hx⟩ | ⟨e, hx⟩ | ⟨e, hx⟩ | ⟨e, hx⟩ | ⟨e, hx⟩ | ⟨e, hx⟩ | ⟨e, hx⟩ | ⟨e, hx, -⟩ | ⟨e, hx, -⟩ | ⟨e, hx, -⟩ <;> first | exact q e | (rw [hx0] at hx; revert hx; decide)
    rw [if_neg hx]
    have h101 : f_X7_text_b122 0 J3 = f_X7_text_b101 0 J3 := by rw [f_X7_text_b101, if_pos rfl]
    rw [h101]
    obtain ⟨K, e, p1, p2, fr⟩ := m_fail hτ t1 e10
    exact ⟨K, e, p1, p2, f3V.tr fr⟩
theorem m_text {I : Mem} {τ : Nat} (hτ : τ < 6) (h10 : I 56 10 = nI τ) (h7 : I 56 7 = nI tp) (ht : tp ≤ 160) (hb : ∀ k, k < tp → I 61 k = nI (tx k) ∧ tx k < 256) (hw : WT I) : ∃ K, K 56 7 = 0 ∧ FrV τ I K ∧ (∀ f, PX tx tp = .inl f → f_X7_text I = some (-100 - nI f, K) ∧ K 56 10 = nI τ) ∧ ∀ a1 c1 a2 c2 a3 c3, PT tx tp 0 0 = .inr (a1, c1) → PT tx tp 1 a1 = .inr (a2, c2) → PT tx tp 2 a2 = .inr (a3, c3) → tkA tx tp a3 = -1 → f_X7_text I = some (nI τ, K) ∧ K 56 10 = nI (τ + 1) ∧ BM K τ (mkB c1 c2 c3) := by
  have hT : f_X7_text I = f_X7_text_b26 FU (nI 0) 1 (wr (wr I 56 19 0) 56 27 0) := by
    rw [f_X7_text, h10, if_neg (show ¬ nI τ = (6 : Int32) from fun hh => by have := (nI_eq' (b := 6) (by omega) (by omega)).mp hh; omega), lt1_eq, lt1_eq]
    rfl
  have f0 : FrV τ I (wr (wr I 56 19 0) 56 27 0) := (FrV.w56 (by omega)).tr (FrV.w56 (by omega))
  have e : ∀ c, c ≠ 56 → wr (wr I 56 19 0) 56 27 0 c = I c := fun c h => by rw [wr_k _ _ _ h, wr_k _ _ _ h]
  have s0 : SM0 tx tp (wr (wr I 56 19 0) 56 27 0) τ 0 [] := ⟨⟨by rw [wr_j _ _ _ (by omega), wr_j _ _ _ (by omega)]; exact h7, by rw [wr_j _ _ _ (by omega), wr_s]; rfl, by omega, ht, fun k hk => by rw [e 61 (by omega)]; exact hb k hk, WT_of (e 70 (by omega)) hw⟩, by rw [wr_j _ _ _ (by omega), wr_j _ _ _ (by omega)]; exact h10, by rw [wr_s]; rfl, fun k hk => absurd hk (by simp), by simp⟩
  rw [hT, show FU = 4092 + 1 + 1 + 2 from rfl]
  have no : ∀ (f : Nat) (J K : Mem) (X : Option (Int32 × Mem)), FrV τ I J → X = f_X7_text_b101 0 K → K 56 20 = nI f → K 56 10 = nI τ → FrV τ J K → PX tx tp = .inl f → ∃ K, K 56 7 = 0 ∧ FrV τ I K ∧ (∀ f, PX tx tp = .inl f → X = some (-100 - nI f, K) ∧ K 56 10 = nI τ) ∧ ∀ a1 c1 a2 c2 a3 c3, PT tx tp 0 0 = .inr (a1, c1) → PT tx tp 1 a1 = .inr (a2, c2) → PT tx tp 2 a2 = .inr (a3, c3) → tkA tx tp a3 = -1 → X = some (nI τ, K) ∧ K 56 10 = nI (τ + 1) ∧ BM K τ (mkB c1 c2 c3) := by
    intro f J K X hJ hX h20 h10' hK hP
    obtain ⟨K', e', p1, p2, fr⟩ := m_fail hτ h20 h10'
    refine ⟨K', p1, hJ.tr (hK.tr fr), fun f' hf' => ?_, ?_⟩
    · obtain rfl := Sum.inl.inj (hP.symm.trans hf')
      exact ⟨by rw [hX, e'], p2⟩
    · intro a1 c1 a2 c2 a3 c3 g1 g2 g3 g4
      exfalso
      obtain ⟨-, -, s3⟩ := px_st g1 g2 g3
      rw [PX, s3] at hP
      have hP' : (if tkA tx tp a3 = -1 then .inr (a3, c1 ++ c2 ++ c3) else .inl (LXs tx tp a3) : Res) = .inl f := hP
      rw [if_pos g4] at hP'
      exact absurd hP' (by simp)
  obtain ⟨b0, d0⟩ := m_part (n := 4092 + 1 + 1) hτ (show 0 < 3 by omega) s0
  obtain ⟨r, hr0⟩ : ∃ r, r = PT tx tp 0 0 := ⟨_, rfl⟩
  cases r with
  | inl f =>
    have r0 := hr0.symm
    obtain ⟨K, e1, e2, e3, e4⟩ := b0 f r0
    exact no f _ K _ f0 e1 e2 e3 e4 (by unfold PX stR; simp only [thenR, r0])
  | inr p1 =>
    obtain ⟨a1, c1⟩ := p1
    have r0 := hr0.symm
    obtain ⟨K1, e1, s1, l1, i1, f1⟩ := d0 a1 c1 r0
    rw [e1]
    obtain ⟨b1, d1⟩ := m_part (n := 4092 + 1) hτ (show 1 < 3 by omega) s1
    cases r1 : PT tx tp 1 a1 with
    | inl f =>
      obtain ⟨K, g1, g2, g3, g4⟩ := b1 f r1
      exact no f _ K _ (f0.tr f1) g1 g2 g3 g4 (by unfold PX stR; simp only [thenR, r0, r1])
    | inr p2 =>
      obtain ⟨a2, c2⟩ := p2
      obtain ⟨K2, e2, s2, l2, i2, f2⟩ := d1 a2 c2 r1
      rw [e2]
      obtain ⟨b2, d2⟩ := m_part (n := 4092) hτ (show 2 < 3 by omega) s2
      cases r2 : PT tx tp 2 a2 with
      | inl f =>
        obtain ⟨K, g1, g2, g3, g4⟩ := b2 f r2
        exact no f _ K _ (f0.tr (f1.tr f2)) g1 g2 g3 g4 (by unfold PX stR; simp only [thenR, r0, r1, r2])
      | inr p3 =>
        obtain ⟨a3, c3⟩ := p3
        obtain ⟨K3, e3, s3, l3, i3, f3⟩ := d2 a3 c3 r2
        rw [e3]
        obtain ⟨z1, z2⟩ := m_end (n := 4092) hτ s3
        have hPX : PX tx tp = (if tkA tx tp a3 = -1 then .inr (a3, c1 ++ c2 ++ c3) else .inl (LXs tx tp a3)) := by
          rw [PX, (px_st r0 r1 r2).2.2]
          rfl
        by_cases q : tkA tx tp a3 = -1
        · obtain ⟨K, g1, g2, g3, g4, g5, g6, g7⟩ := z1 q
          rw [if_pos q] at hPX
          refine ⟨K, g2, f0.tr (f1.tr (f2.tr (f3.tr g7))), fun f hf => absurd (hPX.symm.trans hf) (by simp), ?_⟩
          intro a1' c1' a2' c2' a3' c3' w1 w2 w3 w4
          rw [r0] at w1
          obtain ⟨rfl, rfl⟩ := Prod.mk.inj (Sum.inr.inj w1)
          rw [r1] at w2
          obtain ⟨rfl, rfl⟩ := Prod.mk.inj (Sum.inr.inj w2)
          rw [r2] at w3
          obtain ⟨rfl, rfl⟩ := Prod.mk.inj (Sum.inr.inj w3)
          refine ⟨g1, g3, ⟨fun k hk => ?_, fun j hj => ?_⟩⟩
          · rw [g4]
            exact s3.2.2.2.1 k hk
          · rcases (show j = 0 ∨ j = 1 ∨ j = 2 ∨ j = 3 by omega) with rfl | rfl | rfl | rfl
            · rw [g6 _ (by omega), i3 _ (by omega), i2 _ (by omega), l1]; rfl
            · rw [g6 _ (by omega), i3 _ (by omega), l2]; rfl
            · rw [g6 _ (by omega), l3]; rfl
            · rw [g5]; rfl
        · obtain ⟨K, g1, g2, g3, g7⟩ := z2 q
          rw [if_neg q] at hPX
          refine ⟨K, g2, f0.tr (f1.tr (f2.tr (f3.tr g7))), fun f hf => ?_, ?_⟩
          · obtain rfl := Sum.inl.inj (hPX.symm.trans hf)
            exact ⟨g1, g3⟩
          · intro a1' c1' a2' c2' a3' c3' w1 w2 w3 w4
            exfalso
            rw [r0] at w1
            obtain ⟨rfl, rfl⟩ := Prod.mk.inj (Sum.inr.inj w1)
            rw [r1] at w2
            obtain ⟨rfl, rfl⟩ := Prod.mk.inj (Sum.inr.inj w2)
            rw [r2] at w3
            obtain ⟨rfl, rfl⟩ := Prod.mk.inj (Sum.inr.inj w3)
            exact q w4
end MText
