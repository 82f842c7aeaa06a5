/-! PURE 51: the model's reader: a sign between, one opened -/
/-- what is unwound ahead of a sign -/
def ru (s : Nat) : Nat := if rk s = 4 then 5 else rk s
section RdB
variable {tx : Nat → Nat} {tp : Nat}
theorem sm_opens {J : Mem} {τ a o x : Nat} {L st : List Nat} (h : SM tx tp J τ a L st o) (ho : o < 5) (hb : L.length + st.length + 1 ≤ a) : ∃ K, f_X7_opensOne (nI x) J = some (1, K) ∧ SM tx tp K τ a L (st ++ [x]) (o + 1) ∧ FrU τ J K := by
  obtain ⟨h1, h2, h3, h4, h5, h6, h7, h8⟩ := h
  have hne : ¬ nI o = (5 : Int32) := fun hh => by
    have := (nI_eq' (b := 5) (by omega) (by omega)).mp hh
    omega
  have hf : FrU τ J (wr J 56 26 (nI (o + 1))) := ⟨fun c a b d => by rw [wr_k _ _ _ a], fun k hk => by rw [wr_k _ _ _ (by omega)], fun j hj => by rw [wr_j _ _ _ (by omega)]⟩
  have hs : SM tx tp (wr J 56 26 (nI (o + 1))) τ a L st (o + 1) := ⟨RdM_U hf h1, by rw [hf.2.2 10 (by omega)]; exact h2, by rw [wr_j _ _ _ (by omega)]; exact h3, fun k hk => by rw [wr_k _ _ _ (by omega)]; exact h4 k hk, by rw [wr_j _ _ _ (by omega)]; exact h5, fun k hk => by rw [wr_k _ _ _ (by omega)]; exact h6 k hk, wr_s _ _ _ _, h8⟩
  obtain ⟨K, e, s, f⟩ := sm_holds (x := x) hs hb
  rw [f_X7_opensOne, h7, if_neg hne, lt1_eq, nI_1, e, bnd_some]
  exact ⟨K, rfl, s, hf.tr f⟩
theorem sm_opens_no {J : Mem} {τ a o : Nat} {x : Int32} {L st : List Nat} (h : SM tx tp J τ a L st o) (ho : o = 5) : f_X7_opensOne x J = some (0, J) := by
  rw [f_X7_opensOne, h.2.2.2.2.2.2.1, ho, if_pos (by rfl)]
theorem sm_unws {J : Mem} {τ a r o : Nat} {st P L : List Nat} (hτ : τ < 6) (hr : 1 ≤ r ∧ r ≤ 7) (hs : TopLt st r) (hP : ∀ x, x ∈ P → okS x ∧ r ≤ rk x) (h : SM tx tp J τ a L (st ++ P.reverse) (o + opS P)) (ho : o + opS P ≤ 5) : ∃ K, f_X7_unwinds (nI r) J = some ((), K) ∧ SM tx tp K τ a (L ++ P) st o ∧ FrU τ J K := by
  have h8 := h.2.2.2.2.2.2.2
  have ht := h.1.2.2.1
  have ht2 := h.1.2.2.2.1
  rw [List.length_append, List.length_reverse] at h8
  rw [f_X7_unwinds]
  exact sm_unw hτ hr hs P L o FU J (by show _ < 4096; omega) hP h (by omega)
theorem ru_b (s : Nat) (hs : s = 11 ∨ s = 12 ∨ (14 ≤ s ∧ s ≤ 18)) : 1 ≤ ru s ∧ ru s ≤ 7 ∧ okS s := by
  rcases (show s = 11 ∨ s = 12 ∨ s = 14 ∨ s = 15 ∨ s = 16 ∨ s = 17 ∨ s = 18 by omega) with rfl | rfl | rfl | rfl | rfl | rfl | rfl <;> exact ⟨by decide, by decide, Or.inr (by omega)⟩
theorem sm_between {J : Mem} {τ a s o : Nat} {st P L : List Nat} (hτ : τ < 6) (hs : s = 11 ∨ s = 12 ∨ (14 ≤ s ∧ s ≤ 18)) (hP : ∀ x, x ∈ P → okS x ∧ ru s ≤ rk x) (hT : TopLt st (ru s)) (h4 : rk s = 4 → TopLt st 4) (h : SM tx tp J τ a L (st ++ P.reverse) (o + opS P)) (ho : o + opS P ≤ 5) (hb : L.length + (st ++ P.reverse).length + 1 ≤ a) : ∃ K, f_X7_between (nI s) J = some (1, K) ∧ SM tx tp K τ a (L ++ P) (st ++ [s]) o ∧ FrU τ J K := by
  obtain ⟨r1, r2, r3⟩ := ru_b s hs
  have ht := h.1.2.2.1
  have ht2 := h.1.2.2.2.1
  obtain ⟨J1, e1, s1, f1⟩ := sm_unws hτ ⟨r1, r2⟩ hT hP h ho
  rw [List.length_append, List.length_reverse] at hb
  obtain ⟨K, e2, s2, f2⟩ := sm_holds (x := s) s1 (by rw [List.length_append]; omega)
  have h55 : f_X7_between_b55 (nI s) J1 = some (1, K) := by rw [f_X7_between_b55, e2, bnd_some]
  have h17 : f_X7_between_b17 (nI s) (nI (ru s)) J = some (1, K) := by
    rw [f_X7_between_b17, e1, bnd_some, s7_rank r3, bnd_some]
    by_cases q : rk s = 4
    · rw [if_pos (show nI (rk s) = (4 : Int32) by rw [q]; rfl)]
      have h5 := s1.2.2.2.2.1
      have h6 := s1.2.2.2.2.2.1
      have h8 := s1.2.2.2.2.2.2.2
      rw [h5]
      rcases h4 q with rfl | ⟨y, x, rfl, hx, hlt⟩
      · rw [if_pos (by decide)]; exact h55
      · rw [ln_sn] at h5 h8 ⊢
        have hr7 := rk_lt x
        rw [if_neg (nI_nle (by omega) (by omega)), nI_sub1 (by omega), if_pos (inb_t (by omega) (by omega)), cl_nI (by omega), h6 y.length (by rw [ln_sn]; omega), gd_eq, s7_rank hx, bnd_some, if_neg (show ¬ nI (rk x) = (4 : Int32) from fun hh => by have := (nI_eq' (b := 4) (by omega) (by omega)).mp hh; omega)]
        exact h55
    · have hr7 := rk_lt s
      rw [if_neg (show ¬ nI (rk s) = (4 : Int32) from fun hh => q ((nI_eq' (b := 4) (by omega) (by omega)).mp hh))]
      exact h55
  refine ⟨K, ?_, s2, f1.tr f2⟩
  rw [f_X7_between, s7_rank r3, bnd_some]
  by_cases q : rk s = 4
  · rw [if_pos (show nI (rk s) = (4 : Int32) by rw [q]; rfl)]
    rw [show ru s = 5 by rw [ru, if_pos q]] at h17
    exact h17
  · have hr7 := rk_lt s
    rw [if_neg (show ¬ nI (rk s) = (4 : Int32) from fun hh => q ((nI_eq' (b := 4) (by omega) (by omega)).mp hh)), s7_rank r3, bnd_some]
    rw [show ru s = rk s by rw [ru, if_neg q]] at h17
    exact h17
/-- a sign of comparing that waits -/
def has4 (P : List Nat) : Prop := ∃ y x q, P = y ++ x :: q ∧ okS x ∧ rk x = 4 ∧ ∀ z, z ∈ y → okS z ∧ 5 ≤ rk z
theorem sm_between_no {J : Mem} {τ a s o : Nat} {st P L : List Nat} (hτ : τ < 6) (hs : s = 14 ∨ s = 15) (hP : has4 P) (h : SM tx tp J τ a L (st ++ P.reverse) (o + opS P)) (ho : o + opS P ≤ 5) : ∃ K, f_X7_between (nI s) J = some (0, K) ∧ FrU τ J K := by
  obtain ⟨y, x, q, rfl, hx, hx4, hy⟩ := hP
  obtain ⟨r1, r2, r3⟩ := ru_b s (by omega)
  have ht := h.1.2.2.1
  have ht2 := h.1.2.2.2.1
  have hq : rk s = 4 := by rcases hs with rfl | rfl <;> rfl
  have hst : st ++ (y ++ x :: q).reverse = (st ++ q.reverse ++ [x]) ++ y.reverse := by simp
  have hop : o + opS (y ++ x :: q) = (o + opS (x :: q)) + opS y := by rw [opS_app]; omega
  rw [hst, hop] at h
  rw [hop] at ho
  obtain ⟨J1, e1, s1, f1⟩ := sm_unws hτ ⟨by omega, by omega⟩ (TopLt.mk (r := 5) hx (by omega)) hy h ho
  refine ⟨J1, ?_, f1⟩
  have h5 := s1.2.2.2.2.1
  have h6 := s1.2.2.2.2.2.1
  have h8 := s1.2.2.2.2.2.2.2
  have hl := ln_sn (st ++ q.reverse) x
  rw [hl] at h5 h8
  rw [f_X7_between, s7_rank r3, bnd_some, if_pos (show nI (rk s) = (4 : Int32) by rw [hq]; rfl), f_X7_between_b17, show (5 : Int32) = nI 5 from rfl, e1, bnd_some, s7_rank r3, bnd_some, if_pos (show nI (rk s) = (4 : Int32) by rw [hq]; rfl), h5, if_neg (nI_nle (by omega) (by omega)), nI_sub1 (by omega), if_pos (inb_t (by omega) (by omega)), cl_nI (by omega), h6 (st ++ q.reverse).length (by rw [hl]; omega), gd_eq, s7_rank hx, bnd_some, if_pos (show nI (rk x) = (4 : Int32) by rw [hx4]; rfl)]
/-- the class's code t against what the model has read -/
theorem tkr_k {t x y : Int32} (h : tkR t x y) : (tkK t = 0 ∧ ((x = 1 ∧ 100000 + y = nI (tkM t)) ∨ (x = 2 ∧ y = nI (tkM t)))) ∨ (t = -6 ∧ x = 4) ∨ (t = -7 ∧ x = 5) ∨ (t = -8 ∧ x = 6) ∨ (t = -21 ∧ x = 60) ∨ (t = -22 ∧ x = 61) ∨ (t = -18 ∧ x = 43) ∨ (t = -19 ∧ x = 45) ∨ (t = -20 ∧ x = 42) ∨ (t = -15 ∧ x = 40) ∨ (t = -16 ∧ x = 41) ∨ (t = -17 ∧ x = 59) ∨ (t = -1 ∧ x = 0) ∨ (t = -2 ∧ x = -1) ∨ (t = -3 ∧ x = 3 ∧ y = 0) ∨ (t = -4 ∧ x = 3 ∧ y = 1) ∨ (t = -5 ∧ x = 3 ∧ y = 2) := by
  rcases h with ⟨rfl, rfl⟩ | ⟨rfl, rfl⟩ | ⟨w, hw, rfl, rfl, rfl⟩ | ⟨j, hj, rfl, rfl, rfl⟩ | ⟨b, hb, rfl, rfl⟩
  · simp
  · simp
  · have hp : (0 : Int32) ≤ nI w := (nI_le' (a := 0) (by omega) (by omega)).mpr (by omega)
    refine Or.inl ⟨by rw [tkK, if_pos hp], Or.inl ⟨rfl, ?_⟩⟩
    rw [tkM, if_pos hp, cl_nI (by omega), show (100000 : Int32) = nI 100000 from rfl, nI_add]
  · rcases (show j = 0 ∨ j = 1 ∨ j = 2 ∨ j = 3 ∨ j = 4 ∨ j = 5 ∨ j = 6 ∨ j = 7 ∨ j = 8 ∨ j = 9 ∨ j = 10 ∨ j = 11 by omega) with rfl | rfl | rfl | rfl | rfl | rfl | rfl | rfl | rfl | rfl | rfl | rfl <;> decide
  · have q : (sgC b = -21 ∧ nI b = 60) ∨ (sgC b = -22 ∧ nI b = 61) ∨ (sgC b = -18 ∧ nI b = 43) ∨ (sgC b = -19 ∧ nI b = 45) ∨ (sgC b = -20 ∧ nI b = 42) ∨ (sgC b = -15 ∧ nI b = 40) ∨ (sgC b = -16 ∧ nI b = 41) ∨ (sgC b = -17 ∧ nI b = 59) := by rcases hb with rfl | rfl | rfl | rfl | rfl | rfl | rfl | rfl <;> decide
    rcases q with q | q | q | q | q | q | q | q
    · exact Or.inr (Or.inr (Or.inr (Or.inr (Or.inl q))))
    · exact Or.inr (Or.inr (Or.inr (Or.inr (Or.inr (Or.inl q)))))
    · exact Or.inr (Or.inr (Or.inr (Or.inr (Or.inr (Or.inr (Or.inl q))))))
    · exact Or.inr (Or.inr (Or.inr (Or.inr (Or.inr (Or.inr (Or.inr (Or.inl q)))))))
    · exact Or.inr (Or.inr (Or.inr (Or.inr (Or.inr (Or.inr (Or.inr (Or.inr (Or.inl q))))))))
    · exact Or.inr (Or.inr (Or.inr (Or.inr (Or.inr (Or.inr (Or.inr (Or.inr (Or.inr (Or.inl q)))))))))
    · exact Or.inr (Or.inr (Or.inr (Or.inr (Or.inr (Or.inr (Or.inr (Or.inr (Or.inr (Or.inr (Or.inl q))))))))))
    · exact Or.inr (Or.inr (Or.inr (Or.inr (Or.inr (Or.inr (Or.inr (Or.inr (Or.inr (Or.inr (Or.inr (Or.inl q)))))))))))
end RdB
