/-! PURE 29: feed -/
def v5 (a2 a3 a4 a5 a6 : Int32) (i : Nat) : Int32 := if i = 0 then a2 else if i = 1 then a3 else if i = 2 then a4 else if i = 3 then a5 else a6
theorem pick5 {α : Type} {a2 a3 a4 a5 a6 : Int32} (F : Int32 → α) {i : Nat} (hi : i < 5) : (if nI i = (0 : Int32) then F a2 else if nI i = (1 : Int32) then F a3 else if nI i = (2 : Int32) then F a4 else if nI i = (3 : Int32) then F a5 else F a6) = F (v5 a2 a3 a4 a5 a6 i) := by
  rcases (show i = 0 ∨ i = 1 ∨ i = 2 ∨ i = 3 ∨ i = 4 by omega) with rfl | rfl | rfl | rfl | rfl <;> rfl
theorem s6_isByte (a : Int32) (I : Mem) : f_X6_isByte a I = some (wth a 0 255, I) := by
  simp only [f_X6_isByte, s6_within, bnd_some, z01 (wth_01 _ _ _)]
theorem s7_isByte (a : Int32) (I : Mem) : f_X7_isByte a I = some (wth a 0 255, I) := by
  simp only [f_X7_isByte, s7_in, bnd_some, z01 (wth_01 _ _ _)]
theorem byte_of {a : Int32} (h : ¬ wth a 0 255 = 0) : ∃ x : Nat, x < 256 ∧ a = nI x := by
  rcases hat_or a (N := 256) (by omega) with ⟨x, hx, e, _⟩ | ⟨_, u⟩
  · exact ⟨x, hx, e⟩
  · exact absurd u h
theorem s6_feedL {a1 a2 a3 a4 a5 a6 : Int32} {tp n : Nat} (hn : n ≤ 5) (ht : tp + n ≤ 160) (h1 : a1 = nI n) (I : Mem) (h8 : I 0 8 = nI tp) : ∃ K, f_X6_feed_b68 a1 a2 a3 a4 a5 a6 FU 0 I = some (nI (tp + n), K) ∧ K 0 8 = nI (tp + n) ∧ (∀ j, j < n → K 27 (tp + j) = v5 a2 a3 a4 a5 a6 j) ∧ (∀ q, q < tp → K 27 q = I 27 q) ∧ (∀ j, j ≠ 8 → K 0 j = I 0 j) ∧ ∀ c, c ≠ 0 → c ≠ 27 → K c = I c := by
  have key : ∀ (k n' i : Nat) (J : Mem), i + k = n → k < n' → J 0 8 = nI (tp + i) → (∀ j, j < i → J 27 (tp + j) = v5 a2 a3 a4 a5 a6 j) → (∀ q, q < tp → J 27 q = I 27 q) → (∀ j, j ≠ 8 → J 0 j = I 0 j) → (∀ c, c ≠ 0 → c ≠ 27 → J c = I c) → ∃ K, f_X6_feed_b68 a1 a2 a3 a4 a5 a6 n' (nI i) J = some (nI (tp + n), K) ∧ K 0 8 = nI (tp + n) ∧ (∀ j, j < n → K 27 (tp + j) = v5 a2 a3 a4 a5 a6 j) ∧ (∀ q, q < tp → K 27 q = I 27 q) ∧ (∀ j, j ≠ 8 → K 0 j = I 0 j) ∧ ∀ c, c ≠ 0 → c ≠ 27 → K c = I c := by
    intro k
    induction k with
    | zero =>
      intro n' i J hi hn' q0 q1 q2 q3 q4
      obtain ⟨n', rfl⟩ : ∃ m, n' = m + 1 := ⟨n' - 1, by omega⟩
      rw [f_X6_feed_b68, h1, if_pos ((nI_le' (by omega) (by omega)).mpr (by omega)), q0]
      exact ⟨J, by rw [show i = n by omega], by rw [q0, show i = n by omega], fun j hj => q1 j (by omega), q2, q3, q4⟩
    | succ k ih =>
      intro n' i J hi hn' q0 q1 q2 q3 q4
      obtain ⟨n', rfl⟩ : ∃ m, n' = m + 1 := ⟨n' - 1, by omega⟩
      have e := pick5 (a2 := a2) (a3 := a3) (a4 := a4) (a5 := a5) (a6 := a6) (fun s => f_X6_feed_b125 a1 a2 a3 a4 a5 a6 (f_X6_feed_b68 a1 a2 a3 a4 a5 a6 n') (nI i) s (J 0 8) J) (i := i) (by omega)
      have hnle : ¬ a1 ≤ nI i := by rw [h1, nI_le' (by omega) (by omega)]; omega
      rw [f_X6_feed_b68, if_neg hnle, e, f_X6_feed_b125, q0, if_pos (inb_t (by omega) (by omega)), lt1_eq, lt1_eq, cl_nI (by omega), show wr J 27 (tp + i) (v5 a2 a3 a4 a5 a6 i) 0 = J 0 from wr_k _ _ _ (by omega), q0, nI_1, nI_1]
      refine ih n' (i + 1) _ (by omega) (by omega) (by rw [wr_s]; rfl) (fun j hj => ?_) (fun q hq => by rw [wr_k _ _ _ (by omega), wr_j _ _ _ (by omega)]; exact q2 q hq) (fun j hj => by rw [wr_j _ _ _ hj, wr_k _ _ _ (by omega)]; exact q3 j hj) (fun c c1 c2 => by rw [wr_k _ _ _ c1, wr_k _ _ _ c2]; exact q4 c c1 c2)
      rw [wr_k _ _ _ (by omega)]
      by_cases x : j = i
      · rw [x, wr_s]
      · rw [wr_j _ _ _ (by omega)]; exact q1 j (by omega)
  exact key n FU 0 I (by omega) (by show _ < 4096; omega) h8 (fun j hj => by omega) (fun _ _ => rfl) (fun _ _ => rfl) (fun _ _ _ => rfl)
theorem s7_feedL {a1 a2 a3 a4 a5 a6 : Int32} {tp n : Nat} (hn : n ≤ 5) (ht : tp + n ≤ 160) (h1 : a1 = nI n) (I : Mem) (h8 : I 56 7 = nI tp) : ∃ K, f_X7_feed_b68 a1 a2 a3 a4 a5 a6 FU 0 I = some (nI (tp + n), K) ∧ K 56 7 = nI (tp + n) ∧ (∀ j, j < n → K 61 (tp + j) = v5 a2 a3 a4 a5 a6 j) ∧ (∀ q, q < tp → K 61 q = I 61 q) ∧ (∀ j, j ≠ 7 → K 56 j = I 56 j) ∧ ∀ c, c ≠ 56 → c ≠ 61 → K c = I c := by
  have key : ∀ (k n' i : Nat) (J : Mem), i + k = n → k < n' → J 56 7 = nI (tp + i) → (∀ j, j < i → J 61 (tp + j) = v5 a2 a3 a4 a5 a6 j) → (∀ q, q < tp → J 61 q = I 61 q) → (∀ j, j ≠ 7 → J 56 j = I 56 j) → (∀ c, c ≠ 56 → c ≠ 61 → J c = I c) → ∃ K, f_X7_feed_b68 a1 a2 a3 a4 a5 a6 n' (nI i) J = some (nI (tp + n), K) ∧ K 56 7 = nI (tp + n) ∧ (∀ j, j < n → K 61 (tp + j) = v5 a2 a3 a4 a5 a6 j) ∧ (∀ q, q < tp → K 61 q = I 61 q) ∧ (∀ j, j ≠ 7 → K 56 j = I 56 j) ∧ ∀ c, c ≠ 56 → c ≠ 61 → K c = I c := by
    intro k
    induction k with
    | zero =>
      intro n' i J hi hn' q0 q1 q2 q3 q4
      obtain ⟨n', rfl⟩ : ∃ m, n' = m + 1 := ⟨n' - 1, by omega⟩
      rw [f_X7_feed_b68, h1, if_pos ((nI_le' (by omega) (by omega)).mpr (by omega)), q0]
      exact ⟨J, by rw [show i = n by omega], by rw [q0, show i = n by omega], fun j hj => q1 j (by omega), q2, q3, q4⟩
    | succ k ih =>
      intro n' i J hi hn' q0 q1 q2 q3 q4
      obtain ⟨n', rfl⟩ : ∃ m, n' = m + 1 := ⟨n' - 1, by omega⟩
      have e := pick5 (a2 := a2) (a3 := a3) (a4 := a4) (a5 := a5) (a6 := a6) (fun s => f_X7_feed_b125 a1 a2 a3 a4 a5 a6 (f_X7_feed_b68 a1 a2 a3 a4 a5 a6 n') (nI i) s (J 56 7) J) (i := i) (by omega)
      have hnle : ¬ a1 ≤ nI i := by rw [h1, nI_le' (by omega) (by omega)]; omega
      rw [f_X7_feed_b68, if_neg hnle, e, f_X7_feed_b125, q0, if_pos (inb_t (by omega) (by omega)), lt1_eq, lt1_eq, cl_nI (by omega), show wr J 61 (tp + i) (v5 a2 a3 a4 a5 a6 i) 56 = J 56 from wr_k _ _ _ (by omega), q0, nI_1, nI_1]
      refine ih n' (i + 1) _ (by omega) (by omega) (by rw [wr_s]; rfl) (fun j hj => ?_) (fun q hq => by rw [wr_k _ _ _ (by omega), wr_j _ _ _ (by omega)]; exact q2 q hq) (fun j hj => by rw [wr_j _ _ _ hj, wr_k _ _ _ (by omega)]; exact q3 j hj) (fun c c1 c2 => by rw [wr_k _ _ _ c1, wr_k _ _ _ c2]; exact q4 c c1 c2)
      rw [wr_k _ _ _ (by omega)]
      by_cases x : j = i
      · rw [x, wr_s]
      · rw [wr_j _ _ _ (by omega)]; exact q1 j (by omega)
  exact key n FU 0 I (by omega) (by show _ < 4096; omega) h8 (fun j hj => by omega) (fun _ _ => rfl) (fun _ _ => rfl) (fun _ _ _ => rfl)
theorem p_feed (a1 a2 a3 a4 a5 a6 : Int32) : Pair (f_X6_feed a1 a2 a3 a4 a5 a6) (f_X7_feed a1 a2 a3 a4 a5 a6) := by
  intro I hI
  obtain ⟨S, T, Bs, tp, tx, sh, im, hv⟩ := id hI
  obtain ⟨⟨c, m, g, r, z⟩, ⟨t1, t2, t3, t4, t5⟩, b, ⟨p1, p2, p3, p4⟩, ⟨s1, s2, s3⟩, hi, hw⟩ := id hv
  by_cases w1 : wth a1 1 5 = 0
  · exact ⟨-2, I, I, by rw [f_X6_feed, s6_within, bnd_some, if_pos w1], by rw [f_X7_feed, s7_in, bnd_some, if_pos w1], hI⟩
  by_cases w2 : wth a2 0 255 = 0
  · exact ⟨-2, I, I, by rw [f_X6_feed, s6_within, bnd_some, if_neg w1, s6_isByte, bnd_some, if_pos w2], by rw [f_X7_feed, s7_in, bnd_some, if_neg w1, s7_isByte, bnd_some, if_pos w2], hI⟩
  by_cases w3 : wth a3 0 255 = 0
  · exact ⟨-2, I, I, by rw [f_X6_feed, s6_within, bnd_some, if_neg w1, s6_isByte, bnd_some, if_neg w2, s6_isByte, bnd_some, if_pos w3], by rw [f_X7_feed, s7_in, bnd_some, if_neg w1, s7_isByte, bnd_some, if_neg w2, s7_isByte, bnd_some, if_pos w3], hI⟩
  by_cases w4 : wth a4 0 255 = 0
  · exact ⟨-2, I, I, by rw [f_X6_feed, s6_within, bnd_some, if_neg w1, s6_isByte, bnd_some, if_neg w2, s6_isByte, bnd_some, if_neg w3, s6_isByte, bnd_some, if_pos w4], by rw [f_X7_feed, s7_in, bnd_some, if_neg w1, s7_isByte, bnd_some, if_neg w2, s7_isByte, bnd_some, if_neg w3, s7_isByte, bnd_some, if_pos w4], hI⟩
  by_cases w5 : wth a5 0 255 = 0
  · exact ⟨-2, I, I, by rw [f_X6_feed, s6_within, bnd_some, if_neg w1, s6_isByte, bnd_some, if_neg w2, s6_isByte, bnd_some, if_neg w3, s6_isByte, bnd_some, if_neg w4, s6_isByte, bnd_some, if_pos w5], by rw [f_X7_feed, s7_in, bnd_some, if_neg w1, s7_isByte, bnd_some, if_neg w2, s7_isByte, bnd_some, if_neg w3, s7_isByte, bnd_some, if_neg w4, s7_isByte, bnd_some, if_pos w5], hI⟩
  by_cases w6 : wth a6 0 255 = 0
  · exact ⟨-2, I, I, by rw [f_X6_feed, s6_within, bnd_some, if_neg w1, s6_isByte, bnd_some, if_neg w2, s6_isByte, bnd_some, if_neg w3, s6_isByte, bnd_some, if_neg w4, s6_isByte, bnd_some, if_neg w5, s6_isByte, bnd_some, if_pos w6], by rw [f_X7_feed, s7_in, bnd_some, if_neg w1, s7_isByte, bnd_some, if_neg w2, s7_isByte, bnd_some, if_neg w3, s7_isByte, bnd_some, if_neg w4, s7_isByte, bnd_some, if_neg w5, s7_isByte, bnd_some, if_pos w6], hI⟩
  have eC : f_X6_feed a1 a2 a3 a4 a5 a6 I = (if nI tp + a1 ≤ 160 then f_X6_feed_b68 a1 a2 a3 a4 a5 a6 FU 0 I else some (-4, I)) := by
    rw [f_X6_feed, s6_within, bnd_some, if_neg w1, s6_isByte, bnd_some, if_neg w2, s6_isByte, bnd_some, if_neg w3, s6_isByte, bnd_some, if_neg w4, s6_isByte, bnd_some, if_neg w5, s6_isByte, bnd_some, if_neg w6, p2]
  have eM : ∀ J, J 56 7 = nI tp → f_X7_feed a1 a2 a3 a4 a5 a6 J = (if nI tp + a1 ≤ 160 then f_X7_feed_b68 a1 a2 a3 a4 a5 a6 FU 0 J else some (-4, J)) := by
    intro J hJ
    rw [f_X7_feed, s7_in, bnd_some, if_neg w1, s7_isByte, bnd_some, if_neg w2, s7_isByte, bnd_some, if_neg w3, s7_isByte, bnd_some, if_neg w4, s7_isByte, bnd_some, if_neg w5, s7_isByte, bnd_some, if_neg w6, hJ]
  have hn : ∃ n : Nat, n ≤ 5 ∧ a1 = nI n := by
    by_cases q1 : (1 : Int32) ≤ a1
    · by_cases q2 : a1 ≤ 5
      · have g1 := (i_le _ _).mp q1
        have g2 := (i_le _ _).mp q2
        rw [show (1 : Int32).toInt = 1 from rfl] at g1
        rw [show (5 : Int32).toInt = 5 from rfl] at g2
        obtain ⟨n, hn, e, e2⟩ := nI_of_toInt (x := a1) (by omega)
        exact ⟨n, by omega, e⟩
      · exact absurd (by rw [wth, if_pos q1, if_neg q2]) w1
    · exact absurd (by rw [wth, if_neg q1]) w1
  obtain ⟨n, hn5, rfl⟩ := hn
  have hle : nI tp + nI n ≤ (160 : Int32) ↔ tp + n ≤ 160 := by rw [nI_add]; exact nI_le' (b := 160) (by omega) (by omega)
  by_cases q : tp + n ≤ 160
  · obtain ⟨J, e, x1, x2, x3, x4, x5⟩ := s6_feedL (a2 := a2) (a3 := a3) (a4 := a4) (a5 := a5) (a6 := a6) hn5 q rfl I p2
    have j7 : J 56 7 = nI tp := by rw [x5 56 (by omega) (by omega)]; exact p3
    obtain ⟨K, e2, y1, y2, y3, y4, y5⟩ := s7_feedL (a2 := a2) (a3 := a3) (a4 := a4) (a5 := a5) (a6 := a6) hn5 q rfl J j7
    obtain ⟨n2, h2, e2'⟩ := byte_of w2
    obtain ⟨n3, h3, e3'⟩ := byte_of w3
    obtain ⟨n4, h4, e4'⟩ := byte_of w4
    obtain ⟨n5, h5, e5'⟩ := byte_of w5
    obtain ⟨n6, h6, e6'⟩ := byte_of w6
    have hv5 : ∀ i, ∃ x : Nat, x < 256 ∧ v5 a2 a3 a4 a5 a6 i = nI x := by
      intro i
      unfold v5
      split
      · exact ⟨n2, h2, e2'⟩
      · split
        · exact ⟨n3, h3, e3'⟩
        · split
          · exact ⟨n4, h4, e4'⟩
          · split
            · exact ⟨n5, h5, e5'⟩
            · exact ⟨n6, h6, e6'⟩
    have hK : ∀ c, c ≠ 0 → c ≠ 27 → c ≠ 56 → c ≠ 61 → K c = I c := fun c c1 c2 c3 c4 => (y5 c c3 c4).trans (x5 c c1 c2)
    have h0 : ∀ j, j ≠ 8 → K 0 j = I 0 j := fun j hj => by rw [y5 0 (by omega) (by omega)]; exact x4 j hj
    have h56 : ∀ j, j ≠ 7 → K 56 j = I 56 j := fun j hj => by rw [y4 j hj, x5 56 (by omega) (by omega)]
    refine ⟨nI (tp + n), J, K, by rw [eC, if_pos (hle.mpr q), e], by rw [eM J j7, if_pos (hle.mpr q), e2], S, T, Bs, tp + n, fun k => if k < tp then tx k else (v5 a2 a3 a4 a5 a6 (k - tp)).toNatClampNeg, sh, im, ⟨CR_of (fun j hj => hK _ (by omega) (by omega) (by omega) (by omega)) c, ?_, g, r, ZC_of (hK _ (by omega) (by omega) (by omega) (by omega)) (hK _ (by omega) (by omega) (by omega) (by omega)) z⟩, ⟨t1, t2, t3, by rw [h0 _ (by omega)]; exact t4, by rw [h56 _ (by omega)]; exact t5⟩, BKs_of t2 (fun c hc => hK c (by omega) (by omega) (by omega) (by omega)) b, ⟨q, ?_, y1, fun k hk => ?_⟩, ⟨ShC_of (fun c q1 q2 => hK c (by omega) (by omega) (by omega) (by omega)) s1, ShM_of (hK _ (by omega) (by omega) (by omega) (by omega)) (hK _ (by omega) (by omega) (by omega) (by omega)) (hK _ (by omega) (by omega) (by omega) (by omega)) s2, s3⟩, IMG_of (fun c h1 h2 => hK c (by omega) (by omega) (by omega) (by omega)) (h0 _ (by omega)) (h56 _ (by omega)) (hK _ (by omega) (by omega) (by omega) (by omega)) (hK _ (by omega) (by omega) (by omega) (by omega)) hi, WT_of (hK _ (by omega) (by omega) (by omega) (by omega)) hw⟩
    · obtain ⟨m1, m2, m3, m4, m5⟩ := m
      refine ⟨by rw [h56 _ (by omega)]; exact m1, by rw [h56 _ (by omega)]; exact m2, by rw [h56 _ (by omega)]; exact m3, fun p hp => ?_, fun p q hp hq => by rw [hK _ (by omega) (by omega) (by omega) (by omega)]; exact m5 p q hp hq⟩
      rw [hK _ (by omega) (by omega) (by omega) (by omega), hK _ (by omega) (by omega) (by omega) (by omega), hK _ (by omega) (by omega) (by omega) (by omega)]
      exact m4 p hp
    · rw [y5 0 (by omega) (by omega)]; exact x1
    · rw [y5 27 (by omega) (by omega)]
      by_cases hkt : k < tp
      · simp only [if_pos hkt]
        rw [x3 k hkt, y3 k hkt, x5 61 (by omega) (by omega)]
        exact p4 k hkt
      · obtain ⟨j, rfl⟩ : ∃ j, k = tp + j := ⟨k - tp, by omega⟩
        obtain ⟨x, hx, ex⟩ := hv5 j
        simp only [if_neg hkt, show tp + j - tp = j by omega]
        rw [x2 j (by omega), y2 j (by omega), ex, cl_nI (by omega)]
        exact ⟨rfl, rfl, hx⟩
  · exact ⟨-4, I, I, by rw [eC, if_neg (fun h => q (hle.mp h))], by rw [eM I p3, if_neg (fun h => q (hle.mp h))], hI⟩
