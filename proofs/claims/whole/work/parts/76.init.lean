/-! THE START: what the constructors leave holds -/
section InitRd
variable {tx : Nat → Nat} {tp : Nat}
theorem cl_read6 {I : Mem} {τ : Nat} (hτ : τ < 6) (ht : tp ≤ 160) (hb : ∀ k, k < tp → I 27 k = nI (tx k) ∧ tx k < 256) : ∃ K, f_X1_read (nI tp) τ I = some (vR (PX tx tp), K) ∧ FrE τ I K ∧ (∀ f, PX tx tp = .inl f → f ≤ 160) ∧ ∀ a1 c1 a2 c2 a3 c3, PT tx tp 0 0 = .inr (a1, c1) → PT tx tp 1 a1 = .inr (a2, c2) → PT tx tp 2 a2 = .inr (a3, c3) → tkA tx tp a3 = -1 → BC K τ (mkB c1 c2 c3) ∧ (c1 ++ c2 ++ c3).length ≤ 160 ∧ K 26 6 = nI (τ + 1) := by
  rw [f_X1_read, lt1_eq, lt1_eq, lt1_eq, lt1_eq, lt1_eq, if_neg (show ¬ (160 : Int32) < nI tp from fun hh => by have := (nI_lt' (a := 160) (by omega) (by omega)).mp hh; omega)]
  generalize hJ : wr (wr (wr (wr (wr I 26 0 1) 26 1 (nI tp)) 26 2 0) 26 5 (-1)) 26 6 (nI (τ + 1)) = J5
  have g : ∀ c, c ≠ 26 → J5 c = I c := fun c hc => by rw [← hJ, wr_k _ _ _ hc, wr_k _ _ _ hc, wr_k _ _ _ hc, wr_k _ _ _ hc, wr_k _ _ _ hc]
  have g0 : J5 26 0 = 1 := by rw [← hJ, wr_j _ _ _ (by omega), wr_j _ _ _ (by omega), wr_j _ _ _ (by omega), wr_j _ _ _ (by omega), wr_s]
  have g1 : J5 26 1 = nI tp := by rw [← hJ, wr_j _ _ _ (by omega), wr_j _ _ _ (by omega), wr_j _ _ _ (by omega), wr_s]
  have g2 : J5 26 2 = nI 0 := by rw [← hJ, wr_j _ _ _ (by omega), wr_j _ _ _ (by omega), wr_s]; rfl
  have g5 : J5 26 5 = -1 := by rw [← hJ, wr_j _ _ _ (by omega), wr_s]
  have g6 : J5 26 6 = nI (τ + 1) := by rw [← hJ, wr_s]
  obtain ⟨i1, i2⟩ := in_text hτ g6
  rw [if_pos i1, i2, f_X4_clear, lt1_eq, bnd_some]
  have k : ∀ c, c ≠ 30 + 3 * τ → wr J5 (30 + 3 * τ) 3 0 c = J5 c := fun c hc => wr_k _ _ _ hc
  obtain ⟨J8, e8, t8, f8, f8'⟩ := s1_next (tx := tx) (tp := tp) (J := wr J5 (30 + 3 * τ) 3 0) (a := 0) ⟨by rw [k 26 (by omega)]; exact g0, by rw [k 26 (by omega)]; exact g1, by rw [k 26 (by omega)]; exact g2, by omega, ht, fun i hi => by rw [k 27 (by omega), g 27 (by omega)]; exact hb i hi⟩
  have o8 : Out tx tp J8 τ [] (.inr (0, [])) := (show SC tx tp J8 τ 0 [] from ⟨t8, by rw [f8 5 (by omega) (by omega) (by omega), k 26 (by omega)]; exact g5, by rw [f8 6 (by omega) (by omega) (by omega), k 26 (by omega)]; exact g6, by rw [f8' _ (by omega), wr_s]; rfl, fun i hi => absurd hi (by simp), by simp, by omega⟩)
  have fI : FrE τ I J8 := fun c c1 c2 c3 c4 => by rw [f8' c c1, k c c2, g c c1]
  rw [e8, bnd_some, show FU = 4092 + 1 + 1 + 1 + 1 from rfl, show (0 : Int32) = nI 0 from rfl]
  obtain ⟨K0, e0, o0, l0, r0, f0⟩ := cl_part (t3 := τ) (a2 := nI tp) (K44 := f_X1_read_b44 (nI tp) τ (4092 + 1 + 1 + 1)) hτ (show 0 < 3 by omega) o8
  rw [f_X1_read_b44, if_neg (by decide), if_pos (by rfl), show (-3 : Int32) = kwC 0 from rfl, e0]
  obtain ⟨K1, e1, o1, l1, r1, f1⟩ := cl_part (t3 := τ) (a2 := nI tp) (K44 := f_X1_read_b44 (nI tp) τ (4092 + 1 + 1)) hτ (show 1 < 3 by omega) o0
  rw [f_X1_read_b44, if_neg (by decide), if_neg (by decide), if_pos (by rfl), show (-4 : Int32) = kwC 1 from rfl, e1]
  obtain ⟨K2, e2, o2, l2, r2, f2⟩ := cl_part (t3 := τ) (a2 := nI tp) (K44 := f_X1_read_b44 (nI tp) τ (4092 + 1)) hτ (show 2 < 3 by omega) o1
  rw [f_X1_read_b44, if_neg (by decide), if_neg (by decide), if_neg (by decide), show (-5 : Int32) = kwC 2 from rfl, e2]
  obtain ⟨K, e, o, f⟩ := cl_end (t3 := τ) (a2 := nI tp) (n := 4092) hτ o2
  refine ⟨K, e, fI.tr (f0.tr (f1.tr (f2.tr f.E))), ?_, ?_⟩
  · intro x hx
    have o' : Out tx tp K τ [] (PX tx tp) := o
    rw [hx] at o'
    exact (show SB K τ x from o').2.2.1
  · intro a1 c1 a2 c2 a3 c3 h1 h2 h3 h4
    obtain ⟨s1, s2, s3⟩ := px_st h1 h2 h3
    have hx : PX tx tp = .inr (a3, c1 ++ c2 ++ c3) := by
      rw [PX, s3]
      show (if tkA tx tp a3 = -1 then _ else _) = _
      rw [if_pos h4]
    have o' : Out tx tp K τ [] (PX tx tp) := o
    rw [hx] at o'
    have hs : SC tx tp K τ a3 (c1 ++ c2 ++ c3) := o'
    have hlen : (c1 ++ c2 ++ c3).length ≤ 160 := by
      have q1 := hs.2.2.2.2.2.1
      have q2 := hs.2.2.2.2.2.2
      omega
    refine ⟨⟨fun i hi => hs.2.2.2.2.1 i hi, fun j hj => ?_⟩, hlen, hs.2.2.1⟩
    have fr : ∀ i, K (30 + 3 * τ + 2) i = K2 (30 + 3 * τ + 2) i := fun i => by rw [f _ (by omega) (by omega) (by omega)]
    rcases (show j = 0 ∨ j = 1 ∨ j = 2 by omega) with rfl | rfl | rfl
    · rw [fr, r2 0 (by omega), r1 0 (by omega), l0 a1 c1 s1]; rfl
    · rw [fr, r2 1 (by omega), l1 a2 _ s2]; rfl
    · rw [fr, l2 a3 _ s3]; rfl
end InitRd
def mSort : List Int32 := [-1, -1, -1, -1]
def mLaw : List Int32 := [103, 111, 101, 115, 32, 49, 32, 59, 32, 104, 105, 116, 115, 32, 53, 32, 59, 32, 115, 111, 102, 116, 32, 48, 32, 59]
def mWords : List Int32 := [103, 111, 101, 115, 32, 32, 32, 32, 104, 105, 116, 115, 32, 32, 32, 32, 115, 111, 102, 116, 32, 32, 32, 32, 102, 101, 108, 116, 32, 32, 32, 32, 112, 114, 105, 100, 101, 32, 32, 32, 114, 111, 117, 110, 100, 32, 32, 32, 117, 112, 32, 32, 32, 32, 32, 32, 98, 108, 111, 119, 115, 32, 32, 32, 109, 111, 114, 101, 32, 32, 32, 32, 111, 114, 32, 32, 32, 32, 32, 32, 97, 110, 100, 32, 32, 32, 32, 32, 110, 111, 116, 32, 32, 32, 32, 32]
def shI : Nat → Int32 := fun j => if j = 1 then -1 else 0
/-- the class's cells as they are made -/
def mI0 : Mem := fun k => if k = 48 then shI else if k = 50 then shI else if k = 52 then shI else if k = 54 then shI else fun _ => 0
/-- the model's cells as they are made, beside those of the class -/
def mM (I : Mem) : Mem := fun k => if k < 56 then I k else if k = 66 then fillF mSort 4 else if k = 69 then fillF mLaw 26 else if k = 70 then fillF mWords 96 else fun _ => 0
def txI : Nat → Nat := fun k => ([103, 111, 101, 115, 32, 49, 32, 59, 32, 104, 105, 116, 115, 32, 53, 32, 59, 32, 115, 111, 102, 116, 32, 48, 32, 59] : List Nat).getD k 0
/-- a cell that is being filled -/
def mF (I : Mem) (c : Nat) (Ls : List Int32) (i : Nat) : Mem := fun k => if k = c then fillF Ls i else I k
theorem mF_at (I : Mem) (c : Nat) (Ls : List Int32) (i : Nat) : mF I c Ls i c = fillF Ls i := if_pos rfl
theorem mF_ne (I : Mem) {c k : Nat} (Ls : List Int32) (i : Nat) (h : k ≠ c) : mF I c Ls i k = I k := if_neg h
theorem mF_0 {I : Mem} {c : Nat} (Ls : List Int32) (h : I c = fun _ => 0) : mF I c Ls 0 = I := by
  funext k
  by_cases q : k = c
  · subst q; rw [mF_at, fillF_0, h]
  · rw [mF_ne _ _ _ q]
theorem mF_s (I : Mem) (c : Nat) (Ls : List Int32) (i : Nat) : wr (mF I c Ls i) c i (Ls.getD i 0) = mF I c Ls (i + 1) := by
  funext k
  by_cases q : k = c
  · subst q
    rw [mF_at]
    funext j
    by_cases h : j = i
    · subst h; rw [wr_s]; simp [fillF]
    · rw [wr_j _ _ _ h, mF_at]
      simp only [fillF]
      by_cases h2 : j < i
      · rw [if_pos h2, if_pos (by omega)]
      · rw [if_neg h2, if_neg (by omega)]
  · rw [wr_k _ _ _ q, mF_ne _ _ _ q, mF_ne _ _ _ q]
def sB0 : List Int32 := strB.getD 0 []
theorem sB0_tx : ∀ k, k < 26 → sB0.getD k 0 = nI (txI k) ∧ txI k < 256 := by decide +kernel
theorem mLaw_tx : ∀ k, k < 26 → mLaw.getD k 0 = nI (txI k) ∧ txI k < 256 := by decide +kernel
theorem mWords_t : ∀ k, k < 96 → mWords.getD k 0 = nI (wtab.getD k 0) := by decide +kernel
theorem mSort_t : ∀ k, k < 4 → mSort.getD k 0 = -1 := by decide +kernel
theorem t0_p : PT txI 26 0 0 = .inr (8, [100001]) := by decide +kernel
theorem t1_p : PT txI 26 1 8 = .inr (17, [100005]) := by decide +kernel
theorem t2_p : PT txI 26 2 17 = .inr (26, [100000]) := by decide +kernel
theorem t3_p : tkA txI 26 26 = -1 := by decide +kernel
theorem x6_loop : ∀ (n i : Nat), i ≤ 26 → 27 ≤ n + i → f_X6_init_b148 n (nI i) (mF mI0 27 sB0 i) = f_X6_init_b182 (mF mI0 27 sB0 26) := by
  intro n
  induction n with
  | zero => intro i h1 h2; omega
  | succ n ih =>
    intro i h1 h2
    rw [f_X6_init_b148, f_J0_length_8abf5, bnd_some, show nI (strL.getD 0 0) = nI 26 from rfl]
    by_cases hq : i = 26
    · subst hq
      rw [if_pos ((nI_le' (by omega) (by omega)).mpr (Nat.le_refl _))]
    · rw [if_neg (fun h => by have := (nI_le' (by omega) (by omega)).mp h; omega), if_neg (fun h => by have := (nI_le' (a := 160) (by omega) (by omega)).mp h; omega), f_J0_charAt_5068e, if_pos (inb_t (show i < strL.getD 0 0 from (show i < 26 by omega)) (show strL.getD 0 0 ≤ 2147483648 from Nat.le_of_ble_eq_true rfl)), bnd_some, if_pos (inb_t (by omega) (by omega)), lt1_eq, cl_nI (by omega)]
      show f_X6_init_b148 n (nI i + 1) (wr (mF mI0 27 sB0 i) 27 i (sB0.getD i 0)) = _
      rw [mF_s, show nI i + (1 : Int32) = nI (i + 1) from nI_add i 1]
      exact ih (i + 1) (by omega) (by omega)
theorem init_c : ∃ I6, f_X6_init_b148 FU 0 mI0 = some ((), I6) ∧ (∀ c, c ≠ 0 → c ≠ 26 → c ≠ 27 → c ≠ 30 → c ≠ 31 → c ≠ 32 → I6 c = mI0 c) ∧ (∀ j, j ≠ 7 → I6 0 j = 0) ∧ I6 0 7 = 1 ∧ BC I6 0 (mkB [100001] [100005] [100000]) ∧ I6 26 6 = 1 := by
  obtain ⟨K, e, f, -, y⟩ := cl_read6 (tx := txI) (tp := 26) (I := mF mI0 27 sB0 26) (τ := 0) (by omega) (by omega) (fun k hk => by
    rw [mF_at, fillF, if_pos hk]
    exact sB0_tx k hk)
  obtain ⟨y1, -, y3⟩ := y 8 [100001] 17 [100005] 26 [100000] t0_p t1_p t2_p t3_p
  have h0 : mF mI0 27 sB0 0 = mI0 := mF_0 sB0 rfl
  have hl := x6_loop FU 0 (by omega) (by rw [show FU = 4096 from rfl]; omega)
  rw [h0] at hl
  refine ⟨wr K 0 7 1, ?_, fun c a0 a1 a2 a3 a4 a5 => ?_, fun j hj => ?_, wr_s _ _ _ _, ?_, ?_⟩
  · rw [show f_X6_init_b148 FU 0 mI0 = _ from hl, f_X6_init_b182, f_J0_length_8abf5, bnd_some, if_pos (by decide), show nI (strL.getD 0 0) = nI 26 from rfl, show Int32.toNatClampNeg 0 = 0 from rfl, e, bnd_some, lt1_eq]
  · rw [wr_k _ _ _ a0, f c a1 a3 a4 a5, mF_ne _ _ _ a2]
  · rw [wr_j _ _ _ hj, f 0 (by omega) (by omega) (by omega) (by omega), mF_ne _ _ _ (by omega)]
    rfl
  · exact ⟨fun k hk => by rw [wr_k _ _ _ (by omega)]; exact y1.1 k hk, fun j hj => by rw [wr_k _ _ _ (by omega)]; exact y1.2 j hj⟩
  · rw [wr_k _ _ _ (by omega)]
    exact y3
theorem x7_loop {I : Mem} (h69 : I 69 = fillF mLaw 26) : ∀ (n i : Nat), i ≤ 26 → 27 ≤ n + i → f_X7_init_b888 n (nI i) (mF I 61 mLaw i) = bnd (f_X7_text (wr (mF I 61 mLaw 26) 56 7 26)) fun _ J => some ((), J) := by
  intro n
  induction n with
  | zero => intro i h1 h2; omega
  | succ n ih =>
    intro i h1 h2
    rw [f_X7_init_b888]
    by_cases hq : i = 26
    · subst hq
      rw [if_pos (show (26 : Int32) ≤ nI 26 from (nI_le' (a := 26) (by omega) (by omega)).mpr (Nat.le_refl _)), lt1_eq]
    · rw [if_neg (fun h => by have := (nI_le' (a := 26) (by omega) (by omega)).mp h; omega), if_pos (inb_t (by omega) (by omega)), if_pos (inb_t (by omega) (by omega)), lt1_eq, cl_nI (by omega), mF_ne _ _ _ (by omega), h69, show fillF mLaw 26 i = mLaw.getD i 0 from if_pos (by omega), mF_s, show nI i + (1 : Int32) = nI (i + 1) from nI_add i 1]
      exact ih (i + 1) (by omega) (by omega)
theorem init_m {I6 : Mem} (g1 : ∀ c, c ≠ 0 → c ≠ 26 → c ≠ 27 → c ≠ 30 → c ≠ 31 → c ≠ 32 → I6 c = mI0 c) (g2 : ∀ j, j ≠ 7 → I6 0 j = 0) (g3 : I6 0 7 = 1) (g4 : BC I6 0 (mkB [100001] [100005] [100000])) : ∃ K, f_X7_init_b888 FU 0 (mM I6) = some ((), K) ∧ Inv K := by
  have h61 : mM I6 61 = fun _ => 0 := rfl
  have h69 : mM I6 69 = fillF mLaw 26 := rfl
  have h0 : mF (mM I6) 61 mLaw 0 = mM I6 := mF_0 mLaw h61
  have hl := x7_loop h69 FU 0 (by omega) (by rw [show FU = 4096 from rfl]; omega)
  rw [h0] at hl
  generalize hJ : wr (mF (mM I6) 61 mLaw 26) 56 7 26 = J at hl
  have eJ : ∀ c, c ≠ 56 → c ≠ 61 → J c = mM I6 c := fun c a b => by rw [← hJ, wr_k _ _ _ a, mF_ne _ _ _ b]
  have e56 : ∀ j, j ≠ 7 → J 56 j = 0 := fun j a => by rw [← hJ, wr_j _ _ _ a, mF_ne _ _ _ (by omega)]; rfl
  have e567 : J 56 7 = nI 26 := by rw [← hJ, wr_s]; rfl
  have eC : ∀ c, c < 56 → J c = I6 c := fun c h => by rw [eJ c (by omega) (by omega), mM, if_pos h]
  have eM : ∀ c, 56 < c → c ≠ 61 → c ≠ 66 → c ≠ 69 → c ≠ 70 → J c = fun _ => 0 := fun c h a b c1 d => by
    rw [eJ c (by omega) a, mM, if_neg (by omega), if_neg b, if_neg c1, if_neg d]
  have hw : WT J := fun k hk => by
    rw [eJ 70 (by omega) (by omega), show mM I6 70 = fillF mWords 96 from rfl, fillF, if_pos hk]
    exact mWords_t k hk
  obtain ⟨K, k7, fK, -, y⟩ := m_text (I := J) (tx := txI) (tp := 26) (τ := 0) (by omega) (e56 10 (by omega)) e567 (by omega) (fun k hk => by
    rw [← hJ, wr_k _ _ _ (by omega), mF_at, fillF, if_pos hk]
    exact mLaw_tx k hk) hw
  obtain ⟨y1, y2, y3⟩ := y 8 [100001] 17 [100005] 26 [100000] t0_p t1_p t2_p t3_p
  refine ⟨K, by rw [show f_X7_init_b888 FU 0 (mM I6) = _ from hl, y1, bnd_some], ?_⟩
  obtain ⟨f1, -, -, f4⟩ := fK
  have kC : ∀ c, c < 56 → K c = I6 c := fun c h => by rw [f1 c (by omega) (by omega) (by omega) (by omega), eC c h]
  have kZ : ∀ c, c < 56 → c ≠ 0 → c ≠ 26 → c ≠ 27 → c ≠ 30 → c ≠ 31 → c ≠ 32 → K c = mI0 c := fun c h a0 a1 a2 a3 a4 a5 => by rw [kC c h, g1 c a0 a1 a2 a3 a4 a5]
  have kM : ∀ c, 56 < c → c ≠ 61 → c ≠ 62 → c ≠ 63 → c ≠ 66 → c ≠ 69 → c ≠ 70 → c ≠ 71 → K c = fun _ => 0 := fun c h a b c1 d e f g => by rw [f1 c (by omega) b c1 g, eM c h a d e f]
  have k56 : ∀ j, j < 19 → j ≠ 7 → j ≠ 10 → K 56 j = 0 := fun j a b c => by rw [f4 j a b c, e56 j b]
  have m0 : ∀ c, c < 48 → mI0 c = fun _ => 0 := fun c h => by rw [mI0, if_neg (by omega), if_neg (by omega), if_neg (by omega), if_neg (by omega)]
  have kR : ∀ c, 2 ≤ c → c < 26 → ∀ j, K c j = 0 := fun c h1 h2 j => by rw [kZ c (by omega) (by omega) (by omega) (by omega) (by omega) (by omega) (by omega), m0 c (by omega)]
  refine ⟨(fun _ _ => 0, 0, 0, 0), 1, fun _ => mkB [100001] [100005] [100000], 0, txI, fun _ => (-1, 0, fun _ => 0), none, ⟨?_, ?_, ?_, ?_, ?_⟩, ⟨by omega, by omega, by show 0 < 1; omega, by rw [kC 0 (by omega), g3]; rfl, y2⟩, fun t ht => ?_, ⟨by omega, by rw [kC 0 (by omega), g2 8 (by omega)]; rfl, k7, fun k hk => absurd hk (by omega)⟩, ⟨fun σ hσ => ?_, fun σ hσ => ?_, fun σ _ => ⟨by show (-1 : Int) ≤ (-1 : Int32).toInt; decide, by show (-1 : Int32).toInt ≤ 2; decide, by show 0 ≤ 40; omega⟩⟩, ⟨by rw [kC 0 (by omega)]; exact g2 9 (by omega), k56 12 (by omega) (by omega) (by omega)⟩, ?_⟩
  · exact ⟨kR 2 (by omega) (by omega) 8, kR 2 (by omega) (by omega) 9, kR 2 (by omega) (by omega) 10, fun p hp => absurd hp (Nat.not_lt_zero _), fun p q hp => absurd hp (Nat.not_lt_zero _)⟩
  · exact ⟨k56 0 (by omega) (by omega) (by omega), k56 5 (by omega) (by omega) (by omega), k56 11 (by omega) (by omega) (by omega), fun p hp => absurd hp (Nat.not_lt_zero _), fun p q hp => absurd hp (Nat.not_lt_zero _)⟩
  · exact ⟨by show 0 ≤ 6; omega, by show 0 < 6; omega, by show (0 : Int) ≤ (0 : Int32).toInt; decide, by show (0 : Int32).toInt ≤ 2000; decide, fun p hp => absurd hp (Nat.not_lt_zero _), fun p q hp => absurd hp (Nat.not_lt_zero _)⟩
  · show (0 : Int32).toInt ≤ 999; decide
  · exact ⟨fun p _ h => kR 8 (by omega) (by omega) p, fun p q _ _ _ => kR 9 (by omega) (by omega) _⟩
  · have ht0 : t = 0 := by omega
    subst ht0
    refine ⟨BOK_mk ?_ ?_ ?_ (by decide), ⟨fun k hk => ?_, fun j hj => ?_⟩, y3⟩
    · simp [wfs]
    · simp [wfs]
    · simp [wfs]
    · rw [kC _ (by omega)]; exact g4.1 k hk
    · rw [kC _ (by omega)]; exact g4.2 j hj
  · have ec : ∀ c, 48 ≤ c → c < 56 → K c = mI0 c := fun c h1 h2 => kZ c h2 (by omega) (by omega) (by omega) (by omega) (by omega) (by omega)
    rw [ec (48 + 2 * σ) (by omega) (by omega), ec (48 + 2 * σ + 1) (by omega) (by omega)]
    rcases (show σ = 0 ∨ σ = 1 ∨ σ = 2 ∨ σ = 3 by omega) with rfl | rfl | rfl | rfl <;> exact ⟨rfl, rfl, fun k _ => rfl⟩
  · have e66 : K 66 σ = -1 := by
      rw [f1 66 (by omega) (by omega) (by omega) (by omega), eJ 66 (by omega) (by omega), show mM I6 66 = fillF mSort 4 from rfl, fillF, if_pos hσ]
      exact mSort_t σ hσ
    exact ⟨e66, by rw [kM 67 (by omega) (by omega) (by omega) (by omega) (by omega) (by omega) (by omega) (by omega)]; rfl, fun k _ => by rw [kM 68 (by omega) (by omega) (by omega) (by omega) (by omega) (by omega) (by omega) (by omega)]⟩
  · exact WT_of (f1 70 (by omega) (by omega) (by omega) (by omega)) hw
