/-! PURE 4: what a text says, in the model -/
theorem BM_off {I J : Mem} {τ : Nat} {B : Bk} (h : BM I τ B) (ho : ∀ c, c ≠ 72 → J c = I c) : BM J τ B := ⟨fun k hk => by rw [ho _ (by omega)]; exact h.1 k hk, fun j hj => by rw [ho _ (by omega)]; exact h.2 j hj⟩
theorem wr_off72 {I : Mem} {j : Nat} {x : Int32} : ∀ c, c ≠ 72 → wr I 72 j x c = I c := fun c h => wr_k I j x h
theorem s7_two {a : Nat} {x y : Int32} {I : Mem} (ha : 11 ≤ a ∧ a ≤ 18) (h13 : a ≠ 13) : f_X7_two (nI a) x y I = some (twoS a x y, I) := by
  rcases (show a = 11 ∨ a = 12 ∨ a = 14 ∨ a = 15 ∨ a = 16 ∨ a = 17 ∨ a = 18 by omega) with rfl | rfl | rfl | rfl | rfl | rfl | rfl
  · rw [f_X7_two, if_pos (show nI 11 = (11 : Int32) from rfl), show twoS 11 x y = (if x = 0 then (if y = 0 then 0 else 1) else 1) from rfl]; unfold f_X7_two_b52; by_cases h1 : x = 0 <;> by_cases h2 : y = 0 <;> simp only [h1, h2, if_true, if_false]
  · rw [f_X7_two, if_neg (show ¬ nI 12 = (11 : Int32) by decide), if_pos (show nI 12 = (12 : Int32) from rfl), show twoS 12 x y = (if x = 0 then 0 else if y = 0 then 0 else 1) from rfl]; by_cases h1 : x = 0 <;> by_cases h2 : y = 0 <;> simp only [h1, h2, if_true, if_false]
  · rw [f_X7_two, if_neg (show ¬ nI 14 = (11 : Int32) by decide), if_neg (show ¬ nI 14 = (12 : Int32) by decide), if_neg (show ¬ nI 14 = (13 : Int32) by decide), if_pos (show nI 14 = (14 : Int32) from rfl), show twoS 14 x y = (if y ≤ x then 0 else 1) from rfl]; by_cases h1 : y ≤ x <;> simp only [h1, if_true, if_false]
  · rw [f_X7_two, if_neg (show ¬ nI 15 = (11 : Int32) by decide), if_neg (show ¬ nI 15 = (12 : Int32) by decide), if_neg (show ¬ nI 15 = (13 : Int32) by decide), if_neg (show ¬ nI 15 = (14 : Int32) by decide), if_pos (show nI 15 = (15 : Int32) from rfl), show twoS 15 x y = (if x = y then 1 else 0) from rfl]; by_cases h1 : x = y <;> simp only [h1, if_true, if_false]
  · rw [f_X7_two, if_neg (show ¬ nI 16 = (11 : Int32) by decide), if_neg (show ¬ nI 16 = (12 : Int32) by decide), if_neg (show ¬ nI 16 = (13 : Int32) by decide), if_neg (show ¬ nI 16 = (14 : Int32) by decide), if_neg (show ¬ nI 16 = (15 : Int32) by decide), if_pos (show nI 16 = (16 : Int32) from rfl)]; rfl
  · rw [f_X7_two, if_neg (show ¬ nI 17 = (11 : Int32) by decide), if_neg (show ¬ nI 17 = (12 : Int32) by decide), if_neg (show ¬ nI 17 = (13 : Int32) by decide), if_neg (show ¬ nI 17 = (14 : Int32) by decide), if_neg (show ¬ nI 17 = (15 : Int32) by decide), if_neg (show ¬ nI 17 = (16 : Int32) by decide), if_pos (show nI 17 = (17 : Int32) from rfl)]; rfl
  · rw [f_X7_two, if_neg (show ¬ nI 18 = (11 : Int32) by decide), if_neg (show ¬ nI 18 = (12 : Int32) by decide), if_neg (show ¬ nI 18 = (13 : Int32) by decide), if_neg (show ¬ nI 18 = (14 : Int32) by decide), if_neg (show ¬ nI 18 = (15 : Int32) by decide), if_neg (show ¬ nI 18 = (16 : Int32) by decide), if_neg (show ¬ nI 18 = (17 : Int32) by decide)]; rfl
theorem lt200 {d : Nat} (h : d < 200) : inb (nI d) 200 = true := inb_t h (by omega)
theorem s7_loop {lam part : Nat} {B : Bk} {env : Nat → Int32} (hl6 : lam < 6) (hpart : part < 3) (hB3 : B.2 3 ≤ 160) (hhi : B.2 (part + 1) ≤ B.2 3) : ∀ (k n i : Nat) (st : List Int32) (I : Mem), i + k = B.2 (part + 1) → k < n → SK (I 72) st → wf B.1 k i st.length → st.length ≤ 160 → BM I lam B → I 56 11 = nI lam → (∀ a, a < 6 → I 73 a = env a) → ∃ J, f_X7_says_b16 (nI part) n (nI i) (nI st.length) I = some ((evl B.1 env k i st).headD 0, J) ∧ ∀ c, c ≠ 72 → J c = I c := by
  intro k
  induction k with
  | zero =>
    intro n i st I hi hn hs hw hl hB hC hE
    obtain ⟨n, rfl⟩ : ∃ m, n = m + 1 := ⟨n - 1, by omega⟩
    have hw : st.length = 1 := hw
    obtain ⟨x, rfl⟩ := List.length_eq_one_iff.mp hw
    have hx : I 72 0 = x := hs.1
    refine ⟨I, ?_, fun _ _ => rfl⟩
    rw [f_X7_says_b16, hC, fact4, nI_add, nI_1, lt1_eq, if_pos (inb_t (by omega) (by omega)), cl_nI (by omega), show 4 * lam + part + 1 = 4 * lam + (part + 1) by omega, hB.2 (part + 1) (by omega), if_pos ((nI_le' (by omega) (by omega)).mpr (by omega)), if_pos (by decide), show ((0 : Int32)).toNatClampNeg = 0 from rfl, hx]
    rfl
  | succ k ih =>
    intro n i st I hi hn hs hw hl hB hC hE
    obtain ⟨n, rfl⟩ : ∃ m, n = m + 1 := ⟨n - 1, by omega⟩
    have go : ∀ (st' : List Int32) (j : Nat) (v : Int32), SK (wr I 72 j v 72) st' → wf B.1 k (i + 1) st'.length → st'.length ≤ 160 → ev1 (B.1 i) env st = st' → ∃ J, f_X7_says_b16 (nI part) n (nI i + 1) (nI st'.length) (wr I 72 j v) = some ((evl B.1 env (k + 1) i st).headD 0, J) ∧ ∀ c, c ≠ 72 → J c = I c := by
      intro st' j v q1 q2 q3 q4
      obtain ⟨J, e, ho⟩ := ih n (i + 1) st' (wr I 72 j v) (by omega) (by omega) q1 q2 q3 (BM_off hB wr_off72) (by rw [wr_k _ _ _ (by omega)]; exact hC) (fun a ha => by rw [wr_k _ _ _ (by omega)]; exact hE a ha)
      refine ⟨J, ?_, fun c hc => (ho c hc).trans (wr_off72 c hc)⟩
      rw [nI_1, e, evl, q4]
    have hk3 : i < B.2 3 := by omega
    rw [f_X7_says_b16, hC, fact4, nI_add, nI_1, lt1_eq, if_pos (inb_t (by omega) (by omega)), cl_nI (by omega), show 4 * lam + part + 1 = 4 * lam + (part + 1) by omega, hB.2 (part + 1) (by omega), if_neg (by rw [nI_le' (by omega) (by omega)]; omega), show (200 : Int32) = nI 200 from rfl, pk_mul, nI_add, lt1_eq, if_pos (inb_t (by omega) (by omega)), cl_nI (by omega), hB.1 i hk3, lt1_eq]
    have hw := hw
    rw [wf] at hw
    have wrv : ∀ (j : Nat) (v : Int32), wr I 72 j v 72 = upd (I 72) j v := fun j v => by simp [wr]
    have hval : B.1 i < 110000 := by
      by_cases c1 : 100000 ≤ B.1 i
      · rw [if_pos c1] at hw; exact hw.1
      · omega
    by_cases c1 : 100000 ≤ B.1 i
    · rw [if_pos c1] at hw
      obtain ⟨w1, w2, w3⟩ := hw
      rw [if_pos (by rw [show (100000 : Int32) = nI 100000 from rfl, nI_le' (by omega) (by omega)]; exact c1), f_X7_says_b66, if_pos (by rw [show (11 : Int32) = nI 11 from rfl, nI_le' (by omega) (by omega)]; omega), show (100000 : Int32) = nI 100000 from rfl, pk_sub c1, f_X7_says_b93, if_pos (inb_t (by omega) (by omega)), lt1_eq, cl_nI (by omega), nI_1 st.length]
      exact go (nI (B.1 i - 100000) :: st) _ _ (by rw [wrv]; exact SK_push hs) w3 w2 (by unfold ev1; rw [if_pos c1])
    · rw [if_neg c1] at hw
      rw [if_neg (show ¬ (100000 : Int32) ≤ nI (B.1 i) by rw [show (100000 : Int32) = nI 100000 from rfl, nI_le' (by omega) (by omega)]; exact c1)]
      by_cases c2 : B.1 i < 6
      · rw [if_pos c2] at hw
        obtain ⟨w2, w3⟩ := hw
        rw [if_neg (by rw [show (11 : Int32) = nI 11 from rfl, nI_le' (by omega) (by omega)]; omega), f_X7_says_b66, if_neg (by rw [show (11 : Int32) = nI 11 from rfl, nI_le' (by omega) (by omega)]; omega), if_pos (inb_t (by omega) (by omega)), cl_nI (by omega), hE _ c2, f_X7_says_b93, if_pos (inb_t (by omega) (by omega)), lt1_eq, cl_nI (by omega), nI_1 st.length]
        exact go (env (B.1 i) :: st) _ _ (by rw [wrv]; exact SK_push hs) w3 w2 (by unfold ev1; rw [if_neg c1, if_pos c2])
      · rw [if_neg c2] at hw
        have c11 : 11 ≤ B.1 i := by
          by_cases c3 : B.1 i = 13 ∨ B.1 i = 19
          · omega
          · rw [if_neg c3] at hw; exact hw.1.1
        rw [if_pos (by rw [show (11 : Int32) = nI 11 from rfl, nI_le' (by omega) (by omega)]; omega)]
        by_cases c3 : B.1 i = 13
        · rw [if_pos (Or.inl c3)] at hw
          obtain ⟨w1, w3⟩ := hw
          obtain ⟨x, r, rfl⟩ : ∃ x r, st = x :: r := by cases st with | nil => exact absurd w1 (by decide) | cons x r => exact ⟨x, r, rfl⟩
          have hx : I 72 r.length = x := hs.1
          have hl' : r.length + 1 ≤ 160 := hl
          have hgo := go ((if x = 0 then 1 else 0) :: r) r.length _ (by rw [wrv]; exact SK_push hs.2) w3 hl (by rw [c3]; rfl)
          rw [if_pos (show nI (B.1 i) = (13 : Int32) by rw [c3]; rfl), ndn w1, if_pos (inb_t (by omega) (by omega)), cl_nI (by omega), show (x :: r).length - 1 = r.length from rfl, hx]
          by_cases hz : x = 0
          · rw [if_pos hz] at hgo ⊢
            rw [f_X7_says_b130, if_pos (inb_t (by omega) (by omega)), lt1_eq, cl_nI (by omega)]
            exact hgo
          · rw [if_neg hz] at hgo ⊢
            rw [f_X7_says_b130, if_pos (inb_t (by omega) (by omega)), lt1_eq, cl_nI (by omega)]
            exact hgo
        · have c3' : ¬ nI (B.1 i) = (13 : Int32) := by rw [show (13 : Int32) = nI 13 from rfl, nI_eq' (by omega) (by omega)]; exact c3
          rw [if_neg c3']
          by_cases c4 : B.1 i = 19
          · rw [if_pos (Or.inr c4)] at hw
            obtain ⟨w1, w3⟩ := hw
            obtain ⟨x, r, rfl⟩ : ∃ x r, st = x :: r := by cases st with | nil => exact absurd w1 (by decide) | cons x r => exact ⟨x, r, rfl⟩
            have hx : I 72 r.length = x := hs.1
            have hl' : r.length + 1 ≤ 160 := hl
            rw [if_pos (show nI (B.1 i) = (19 : Int32) by rw [c4]; rfl), ndn w1, if_pos (inb_t (by omega) (by omega)), if_pos (inb_t (by omega) (by omega)), lt1_eq, cl_nI (by omega), show (x :: r).length - 1 = r.length from rfl, hx]
            exact go (-x :: r) _ _ (by rw [wrv]; exact SK_push hs.2) w3 hl (by rw [c4]; rfl)
          · have c4' : ¬ nI (B.1 i) = (19 : Int32) := by rw [show (19 : Int32) = nI 19 from rfl, nI_eq' (by omega) (by omega)]; exact c4
            rw [if_neg (by omega)] at hw
            obtain ⟨w0, w1, w3⟩ := hw
            obtain ⟨y, x, r, rfl⟩ : ∃ y x r, st = y :: x :: r := by
              cases st with
              | nil => exact absurd w1 (by decide)
              | cons y r => cases r with
                | nil => exact absurd w1 (by simp)
                | cons x r => exact ⟨y, x, r, rfl⟩
            have hy : I 72 (r.length + 1) = y := hs.1
            have hx : I 72 r.length = x := hs.2.1
            have hl' : r.length + 2 ≤ 160 := hl
            rw [if_neg c4', show (y :: x :: r).length = r.length + 2 from rfl, ndm (by omega), show r.length + 2 - 1 = r.length + 1 by omega, ndn (by omega), show r.length + 1 - 1 = r.length by omega, lt1_eq, if_pos (inb_t (by omega) (by omega)), if_pos (inb_t (by omega) (by omega)), cl_nI (by omega), cl_nI (by omega), hx, hy, s7_two w0 c3, bnd_some, if_pos (inb_t (by omega) (by omega)), lt1_eq]
            exact go (twoS (B.1 i) x y :: r) _ _ (by rw [wrv]; exact SK_push hs.2.2) w3 (by simp at hl ⊢; omega) (by unfold ev1; rw [if_neg c1, if_neg c2, if_neg c3, if_neg c4])
theorem s7_says {lam part : Nat} {B : Bk} {env : Nat → Int32} {I : Mem} (hl6 : lam < 6) (hpart : part < 3) (hO : BOK B) (hB : BM I lam B) (hC : I 56 11 = nI lam) (hE : ∀ a, a < 6 → I 73 a = env a) : ∃ J, f_X7_says (nI part) I = some ((evl B.1 env (B.2 (part + 1) - B.2 part) (B.2 part) []).headD 0, J) ∧ ∀ c, c ≠ 72 → J c = I c := by
  obtain ⟨h0, h3, hj⟩ := hO
  have a0 := (hj 0 (by omega)).1
  have a1 := (hj 1 (by omega)).1
  have a2 := (hj 2 (by omega)).1
  have hhi : B.2 (part + 1) ≤ B.2 3 := by rcases (show part = 0 ∨ part = 1 ∨ part = 2 by omega) with rfl | rfl | rfl <;> simp only [Nat.zero_add, Nat.reduceAdd] at * <;> omega
  have hL := s7_loop (lam := lam) (part := part) (B := B) (env := env) hl6 hpart h3 hhi (B.2 (part + 1) - B.2 part) FU (B.2 part) [] I (by have := (hj part hpart).1; omega) (by show _ < 4096; omega) trivial (hj part hpart).2 (by simp) hB hC hE
  obtain ⟨J, e, ho⟩ := hL
  refine ⟨J, ?_, ho⟩
  rw [f_X7_says, hC, fact4, nI_add, lt1_eq, if_pos (inb_t (by omega) (by omega)), cl_nI (by omega), hB.2 part (by omega), lt1_eq]
  exact e
theorem cl_lem {lo x : Int32} (hlo : lo.toInt ≤ 98) : (if lo ≤ x then (if x ≤ 99 then x else 99) else lo) = (if lo < (if x < 99 then x else 99) then (if x < 99 then x else 99) else lo) := by
  have e99 : (99 : Int32).toInt = 99 := rfl
  by_cases h3 : x < 99
  · have g3 := (i_lt _ _).mp h3
    rw [if_pos h3]
    by_cases h1 : lo ≤ x
    · have g1 := (i_le _ _).mp h1
      rw [if_pos h1, if_pos ((i_le _ _).mpr (by omega))]
      by_cases h4 : lo < x
      · rw [if_pos h4]
      · have g4 : ¬ lo.toInt < x.toInt := fun h => h4 ((i_lt _ _).mpr h)
        rw [if_neg h4, i_eq]
        omega
    · have g1 : ¬ lo.toInt ≤ x.toInt := fun h => h1 ((i_le _ _).mpr h)
      rw [if_neg h1, if_neg (fun h => g1 (by have := (i_lt _ _).mp h; omega))]
  · have g3 : ¬ x.toInt < 99 := fun h => h3 ((i_lt _ _).mpr h)
    rw [if_neg h3, if_pos (show lo ≤ x from (i_le _ _).mpr (by omega)), if_pos (show lo < 99 from (i_lt _ _).mpr (by omega))]
    by_cases h2 : x ≤ 99
    · have g2 := (i_le _ _).mp h2
      rw [if_pos h2, i_eq]
      omega
    · rw [if_neg h2]
theorem some_if {α : Type} {P : Prop} [Decidable P] (a b : α) (I : Mem) : (if P then some (a, I) else some (b, I)) = some (if P then a else b, I) := by split <;> rfl
theorem s7_within {lo x : Int32} (hlo : lo.toInt ≤ 98) (I : Mem) : f_X7_within x lo 99 I = some (if lo < (if x < 99 then x else 99) then (if x < 99 then x else 99) else lo, I) := by
  rw [← cl_lem hlo, f_X7_within, some_if, some_if]
theorem clS_within (part : Nat) (x : Int32) (I : Mem) : f_X7_within x (if part = 2 then (-99 : Int32) else 0) 99 I = some (clS part x, I) := by
  rw [s7_within (by split <;> decide)]
  rfl
theorem s7_asksOf {lam part p : Nat} {B : Bk} {S : RS} {I : Mem} (hg : GS S) (hM : MR I S) (hlam : S.2.2.2 = lam) (hp : p < S.2.1) (hpart : part < 3) (hO : BOK B) (hB : BM I lam B) : ∃ J, f_X7_asksOf (nI part) (nI p) I = some (sayS B S part p, J) ∧ ∀ c, c ≠ 72 → c ≠ 73 → J c = I c := by
  have hN := hg.1
  obtain ⟨m0, m1, m2, m3, m4⟩ := hM
  have h4 := m3 p hp
  have hu : ∀ J : Mem, (∀ c, c ≠ 73 → J c = I c) → f_X7_upSet J = some (upb S, J) := fun J hJ => s7_upSet (S := S) ⟨by rw [hJ _ (by omega)]; exact m0, by rw [hJ _ (by omega)]; exact m1, by rw [hJ _ (by omega)]; exact m2, fun q hq => by rw [hJ _ (by omega), hJ _ (by omega), hJ _ (by omega)]; exact m3 q hq, fun a b ha hb => by rw [hJ _ (by omega)]; exact m4 a b ha hb⟩ hg
  have w73 : ∀ (K : Mem) (j : Nat) (x : Int32), (∀ c, c ≠ 73 → K c = I c) → ∀ c, c ≠ 73 → wr K 73 j x c = I c := fun K j x hK c hc => by rw [wr_k _ _ _ hc]; exact hK c hc
  have z0 : ∀ c, c ≠ 73 → I c = I c := fun _ _ => rfl
  rw [f_X7_asksOf, fact4]
  simp (disch := omega) only [nI_1, show (2 : Int32) = nI 2 from rfl, show (3 : Int32) = nI 3 from rfl, show (0 : Int32) = nI 0 from rfl, show (1 : Int32) = nI 1 from rfl, show (4 : Int32) = nI 4 from rfl, show (5 : Int32) = nI 5 from rfl, nI_add, lt1_eq, inb_t, if_true, cl_nI]
  generalize hJ1 : wr I 73 0 (I 59 (4 * p + 1)) = J1
  have f1 : ∀ c, c ≠ 73 → J1 c = I c := by rw [← hJ1]; exact w73 I _ _ z0
  have v1 : J1 73 0 = S.1 3 p := by rw [← hJ1, wr_s, h4.2.2.2.1]
  generalize hJ2 : wr J1 73 1 (J1 59 (4 * p + 2)) = J2
  have f2 : ∀ c, c ≠ 73 → J2 c = I c := by rw [← hJ2]; exact w73 J1 _ _ f1
  have v2 : J2 73 0 = S.1 3 p ∧ J2 73 1 = S.1 4 p := by rw [← hJ2]; exact ⟨by rw [wr_j _ _ _ (by omega), v1], by rw [wr_s, f1 _ (by omega), h4.2.2.2.2.1]⟩
  generalize hJ3 : wr J2 73 2 (J2 56 5) = J3
  have f3 : ∀ c, c ≠ 73 → J3 c = I c := by rw [← hJ3]; exact w73 J2 _ _ f2
  have v3 : J3 73 0 = S.1 3 p ∧ J3 73 1 = S.1 4 p ∧ J3 73 2 = S.2.2.1 := by rw [← hJ3]; exact ⟨by rw [wr_j _ _ _ (by omega), v2.1], by rw [wr_j _ _ _ (by omega), v2.2], by rw [wr_s, f2 _ (by omega), m1]⟩
  rw [hu J3 f3, bnd_some, s7_onesOf, bnd_some, ones_upb hg]
  generalize hJ4 : wr J3 73 3 (upn S) = J4
  have f4 : ∀ c, c ≠ 73 → J4 c = I c := by rw [← hJ4]; exact w73 J3 _ _ f3
  have v4 : J4 73 0 = S.1 3 p ∧ J4 73 1 = S.1 4 p ∧ J4 73 2 = S.2.2.1 ∧ J4 73 3 = upn S := by rw [← hJ4]; exact ⟨by rw [wr_j _ _ _ (by omega), v3.1], by rw [wr_j _ _ _ (by omega), v3.2.1], by rw [wr_j _ _ _ (by omega), v3.2.2], by rw [wr_s]⟩
  generalize hJ5 : wr J4 73 4 (J4 59 (4 * p + 3)) = J5
  have f5 : ∀ c, c ≠ 73 → J5 c = I c := by rw [← hJ5]; exact w73 J4 _ _ f4
  have v5 : J5 73 0 = S.1 3 p ∧ J5 73 1 = S.1 4 p ∧ J5 73 2 = S.2.2.1 ∧ J5 73 3 = upn S ∧ J5 73 4 = S.1 5 p := by rw [← hJ5]; exact ⟨by rw [wr_j _ _ _ (by omega), v4.1], by rw [wr_j _ _ _ (by omega), v4.2.1], by rw [wr_j _ _ _ (by omega), v4.2.2.1], by rw [wr_j _ _ _ (by omega), v4.2.2.2], by rw [wr_s, f4 _ (by omega), h4.2.2.2.2.2]⟩
  generalize hJ6 : wr J5 73 5 (J5 58 p) = J6
  have f6 : ∀ c, c ≠ 73 → J6 c = I c := by rw [← hJ6]; exact w73 J5 _ _ f5
  have v6 : ∀ a, a < 6 → J6 73 a = envS S p a := by
    intro a ha
    rw [← hJ6]
    rcases (show a = 0 ∨ a = 1 ∨ a = 2 ∨ a = 3 ∨ a = 4 ∨ a = 5 by omega) with rfl | rfl | rfl | rfl | rfl | rfl
    · rw [wr_j _ _ _ (by omega), v5.1]; rfl
    · rw [wr_j _ _ _ (by omega), v5.2.1]; rfl
    · rw [wr_j _ _ _ (by omega), v5.2.2.1]; rfl
    · rw [wr_j _ _ _ (by omega), v5.2.2.2.1]; rfl
    · rw [wr_j _ _ _ (by omega), v5.2.2.2.2]; rfl
    · rw [wr_s, f5 _ (by omega), h4.2.1]; rfl
  obtain ⟨J, e, ho⟩ := s7_says (lam := lam) (part := part) (B := B) (env := envS S p) (I := J6) (by have := hg.2.1; omega) hpart hO ⟨fun k hk => by rw [f6 _ (by omega)]; exact hB.1 k hk, fun j hj => by rw [f6 _ (by omega)]; exact hB.2 j hj⟩ (by rw [f6 _ (by omega), m2, hlam]) v6
  refine ⟨J, ?_, fun c h1 h2 => (ho c h1).trans (f6 c h2)⟩
  rw [e, bnd_some]
  by_cases h2 : part = 2
  · rw [if_pos (show nI part = nI 2 by rw [h2]), f_X7_asksOf_b99]
    have hc := clS_within part ((evl B.1 (envS S p) (B.2 (part + 1) - B.2 part) (B.2 part) []).headD 0) J
    rw [if_pos h2] at hc
    rw [hc, bnd_some]
    rfl
  · rw [if_neg (show ¬ nI part = nI 2 by rw [nI_eq' (by omega) (by omega)]; exact h2), f_X7_asksOf_b99]
    have hc := clS_within part ((evl B.1 (envS S p) (B.2 (part + 1) - B.2 part) (B.2 part) []).headD 0) J
    rw [if_neg h2] at hc
    rw [show nI 0 = (0 : Int32) from rfl, hc, bnd_some]
    rfl
