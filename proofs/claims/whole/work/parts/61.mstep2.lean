/-! PURE 52: the model's reader: a token -/
section RdT
variable {tx : Nat → Nat} {tp : Nat}
def FailM (τ f : Nat) (J : Mem) (X : Option (Int32 × Mem)) : Prop := ∃ K, X = some ((0 : Int32), K) ∧ K 56 20 = nI f ∧ FrT τ J K
theorem rep_rev (k : Nat) : (List.replicate k 19).reverse = List.replicate k 19 := by simp
theorem rep_ok (k : Nat) : ∀ x, x ∈ List.replicate k 19 → okS x ∧ 7 ≤ rk x := fun x hx => by
  rw [List.eq_of_mem_replicate hx]
  exact ⟨Or.inr (by omega), by decide⟩
/-- what waits ahead of an operand is put -/
theorem sm_minus {J : Mem} {τ a k o : Nat} {s0 L : List Nat} (hτ : τ < 6) (hT : TopLt s0 7) (h : SM tx tp J τ a L (s0 ++ List.replicate k 19) (o + k)) (ho : o + k ≤ 5) : ∃ K, f_X7_unwinds (nI 7) J = some ((), K) ∧ SM tx tp K τ a (L ++ List.replicate k 19) s0 o ∧ FrU τ J K := by
  have h' : SM tx tp J τ a L (s0 ++ (List.replicate k 19).reverse) (o + opS (List.replicate k 19)) := by rw [rep_rev, opS_rep]; exact h
  exact sm_unws hτ (by omega) hT (rep_ok k) h' (by rw [opS_rep]; exact ho)
theorem so_num {J : Mem} {τ a k o n : Nat} {x2 : Int32} {s0 L : List Nat} (hτ : τ < 6) (h : SM tx tp J τ a L (s0 ++ List.replicate k 19) (o + k)) (hT : TopLt s0 7) (hk : tkK (tkA tx tp a) = 0) (ho : o + k ≤ 5) : ∃ K, f_X7_eRead_b14 (n + 1) x2 1 J = f_X7_eRead_b14 n x2 0 K ∧ SM tx tp K τ (nxA tx tp a) (L ++ [tkM (tkA tx tp a)] ++ List.replicate k 19) s0 o ∧ FrT τ J K := by
  have hp := nxA_p (tx := tx) h.1.2.2.1 (by rw [hk]; omega)
  have h8 := h.2.2.2.2.2.2.2
  obtain ⟨J3, e3, s3, p3, t3, f3⟩ := sm_next h
  obtain ⟨J4, e4, s4, f4⟩ := sm_puts (x := tkM (tkA tx tp a)) hτ s3 (by omega)
  obtain ⟨J5, e5, s5, f5⟩ := sm_minus hτ hT s4 ho
  have h61 : f_X7_eRead_b61 (f_X7_eRead_b14 n) x2 (nI (tkM (tkA tx tp a))) J3 = f_X7_eRead_b14 n x2 0 J5 := by
    rw [f_X7_eRead_b61, e4, bnd_some, show (7 : Int32) = nI 7 from rfl, e5, bnd_some]
  refine ⟨J5, ?_, s5, f3.tr (f4.T.tr f5.T)⟩
  rw [f_X7_eRead_b14, e3, bnd_some, if_neg (show ¬ (1 : Int32) = 0 by decide)]
  rcases tkr_k t3 with ⟨-, ⟨hx, hy⟩ | ⟨hx, hy⟩⟩ | ⟨e, -⟩ | ⟨e, -⟩ | ⟨e, -⟩ | ⟨e, -⟩ | ⟨e, -⟩ | ⟨e, -⟩ | ⟨e, -⟩ | ⟨e, -⟩ | ⟨e, -⟩ | ⟨e, -⟩ | ⟨e, -⟩ | ⟨e, -⟩ | ⟨e, -⟩ | ⟨e, -⟩ | ⟨e, -⟩ | ⟨e, -⟩
  · rw [hx, if_pos rfl, f_X7_eRead_b38, hx, if_pos rfl, hy]; exact h61
  · rw [hx, if_neg (show ¬ (2 : Int32) = 1 by decide), if_pos rfl, f_X7_eRead_b38, hx, if_neg (show ¬ (2 : Int32) = 1 by decide), hy]; exact h61
  all_goals (exfalso; rw [e] at hk; revert hk; decide)
/-- a not, a minus, a sign that opens -/
theorem so_open {J : Mem} {τ a o n : Nat} {x2 y2 : Int32} {x : Nat} {st L : List Nat} (h : SM tx tp J τ a L st o) (ho : o < 5) (hk : (tkK (tkA tx tp a) = 3 ∧ x2 = 1 ∧ y2 = 1 ∧ x = 13) ∨ (tkA tx tp a = -19 ∧ y2 = 0 ∧ x = 19) ∨ (tkK (tkA tx tp a) = 7 ∧ y2 = 1 ∧ x = 0)) : ∃ K, f_X7_eRead_b14 (n + 1) x2 1 J = f_X7_eRead_b14 n y2 1 K ∧ SM tx tp K τ (nxA tx tp a) L (st ++ [x]) (o + 1) ∧ FrT τ J K := by
  have hp := nxA_p (tx := tx) h.1.2.2.1 (by rcases hk with ⟨q, -⟩ | ⟨q, -⟩ | ⟨q, -⟩ <;> rw [q] <;> decide)
  have h8 := h.2.2.2.2.2.2.2
  obtain ⟨J3, e3, s3, p3, t3, f3⟩ := sm_next h
  obtain ⟨J4, e4, s4, f4⟩ := sm_opens (x := x) s3 ho (by omega)
  refine ⟨J4, ?_, s4, f3.tr f4.T⟩
  rw [f_X7_eRead_b14, e3, bnd_some, if_neg (show ¬ (1 : Int32) = 0 by decide)]
  rcases hk with ⟨q, rfl, rfl, rfl⟩ | ⟨q, rfl, rfl⟩ | ⟨q, rfl, rfl⟩
  · have hx : J3 56 21 = 6 := by
      rcases tkr_k t3 with ⟨e, -⟩ | ⟨e, hx⟩ | ⟨e, hx⟩ | ⟨e, hx⟩ | ⟨e, hx⟩ | ⟨e, hx⟩ | ⟨e, hx⟩ | ⟨e, hx⟩ | ⟨e, hx⟩ | ⟨e, hx⟩ | ⟨e, hx⟩ | ⟨e, hx⟩ | ⟨e, hx⟩ | ⟨e, hx⟩ | ⟨e, hx⟩ | ⟨e, hx⟩ | ⟨e, hx⟩ <;> first | exact hx | (exfalso; rw [e] at q; revert q; decide)
    rw [hx, if_neg (by decide), if_neg (by decide), if_pos rfl, if_neg (by decide), show (13 : Int32) = nI 13 from rfl, e4, bnd_some, if_neg (by decide)]
  · have hx : J3 56 21 = 45 := by
      rcases tkr_k t3 with ⟨e, -⟩ | ⟨e, hx⟩ | ⟨e, hx⟩ | ⟨e, hx⟩ | ⟨e, hx⟩ | ⟨e, hx⟩ | ⟨e, hx⟩ | ⟨e, hx⟩ | ⟨e, hx⟩ | ⟨e, hx⟩ | ⟨e, hx⟩ | ⟨e, hx⟩ | ⟨e, hx⟩ | ⟨e, hx⟩ | ⟨e, hx⟩ | ⟨e, hx⟩ | ⟨e, hx⟩ <;> first | exact hx | (exfalso; rw [q] at e; revert e; decide)
    rw [hx, if_neg (by decide), if_neg (by decide), if_neg (by decide), f_X7_eRead_b99, hx, if_pos rfl, show (19 : Int32) = nI 19 from rfl, e4, bnd_some, if_neg (by decide)]
  · have hx : J3 56 21 = 40 := by
      rcases tkr_k t3 with ⟨e, -⟩ | ⟨e, hx⟩ | ⟨e, hx⟩ | ⟨e, hx⟩ | ⟨e, hx⟩ | ⟨e, hx⟩ | ⟨e, hx⟩ | ⟨e, hx⟩ | ⟨e, hx⟩ | ⟨e, hx⟩ | ⟨e, hx⟩ | ⟨e, hx⟩ | ⟨e, hx⟩ | ⟨e, hx⟩ | ⟨e, hx⟩ | ⟨e, hx⟩ | ⟨e, hx⟩ <;> first | exact hx | (exfalso; rw [e] at q; revert q; decide)
    rw [hx, if_neg (by decide), if_neg (by decide), if_neg (by decide), f_X7_eRead_b99, hx, if_neg (by decide), if_pos rfl, show f_X7_opensOne (0 : Int32) J3 = some (1, J4) from e4, bnd_some, if_neg (by decide)]
/-- an operand is wanted, and none begins -/
theorem so_no {J : Mem} {τ a o n : Nat} {x2 : Int32} {st L : List Nat} (h : SM tx tp J τ a L st o) (hx2 : x2 = 0 ∨ x2 = 1) (k0 : tkK (tkA tx tp a) ≠ 0) (k3 : tkK (tkA tx tp a) = 3 → x2 = 0 ∨ o = 5) (k19 : tkA tx tp a = -19 → o = 5) (k7 : tkK (tkA tx tp a) = 7 → o = 5) : FailM τ (LXs tx tp a) J (f_X7_eRead_b14 (n + 1) x2 1 J) := by
  obtain ⟨J3, e3, s3, p3, t3, f3⟩ := sm_next h
  refine ⟨J3, ?_, p3, f3⟩
  rw [f_X7_eRead_b14, e3, bnd_some, if_neg (show ¬ (1 : Int32) = 0 by decide)]
  have pl : ∀ x : Int32, J3 56 21 = x → ¬ x = 1 → ¬ x = 2 → ¬ x = 6 → ¬ x = 45 → ¬ x = 40 → (if J3 56 21 = (1 : Int32) then f_X7_eRead_b38 (f_X7_eRead_b14 n) x2 J3 else if J3 56 21 = (2 : Int32) then f_X7_eRead_b38 (f_X7_eRead_b14 n) x2 J3 else if J3 56 21 = (6 : Int32) then (if x2 = 0 then f_X7_eRead_b99 (f_X7_eRead_b14 n) 1 J3 else bnd (f_X7_opensOne (13 : Int32) J3) fun v20 J19 => if v20 = 0 then some ((0 : Int32), J19) else (f_X7_eRead_b14 n) x2 1 J19) else f_X7_eRead_b99 (f_X7_eRead_b14 n) 1 J3) = some (0, J3) := by
    intro x hx n1 n2 n6 n45 n40
    rw [hx, if_neg n1, if_neg n2, if_neg n6, f_X7_eRead_b99, hx, if_neg n45, if_neg n40]
  rcases tkr_k t3 with ⟨e, -⟩ | ⟨e, hx⟩ | ⟨e, hx⟩ | ⟨e, hx⟩ | ⟨e, hx⟩ | ⟨e, hx⟩ | ⟨e, hx⟩ | ⟨e, hx⟩ | ⟨e, hx⟩ | ⟨e, hx⟩ | ⟨e, hx⟩ | ⟨e, hx⟩ | ⟨e, hx⟩ | ⟨e, hx⟩ | ⟨e, hx, -⟩ | ⟨e, hx, -⟩ | ⟨e, hx, -⟩
  · exact absurd e k0
  · exact pl _ hx (by decide) (by decide) (by decide) (by decide) (by decide)
  · exact pl _ hx (by decide) (by decide) (by decide) (by decide) (by decide)
  · rw [hx, if_neg (by decide), if_neg (by decide), if_pos rfl]
    by_cases q : x2 = 0
    · rw [if_pos q, f_X7_eRead_b99, hx, if_neg (by decide), if_neg (by decide)]
    · have ho : o = 5 := by
        rcases k3 (by rw [e]; decide) with q1 | q1
        · exact absurd q1 q
        · exact q1
      rw [if_neg q, sm_opens_no s3 ho, bnd_some, if_pos rfl]
  · exact pl _ hx (by decide) (by decide) (by decide) (by decide) (by decide)
  · exact pl _ hx (by decide) (by decide) (by decide) (by decide) (by decide)
  · exact pl _ hx (by decide) (by decide) (by decide) (by decide) (by decide)
  · rw [hx, if_neg (by decide), if_neg (by decide), if_neg (by decide), f_X7_eRead_b99, hx, if_pos rfl, sm_opens_no s3 (k19 e), bnd_some, if_pos rfl]
  · exact pl _ hx (by decide) (by decide) (by decide) (by decide) (by decide)
  · rw [hx, if_neg (by decide), if_neg (by decide), if_neg (by decide), f_X7_eRead_b99, hx, if_neg (by decide), if_pos rfl, sm_opens_no s3 (k7 (by rw [e]; decide)), bnd_some, if_pos rfl]
  · exact pl _ hx (by decide) (by decide) (by decide) (by decide) (by decide)
  · exact pl _ hx (by decide) (by decide) (by decide) (by decide) (by decide)
  · exact pl _ hx (by decide) (by decide) (by decide) (by decide) (by decide)
  · exact pl _ hx (by decide) (by decide) (by decide) (by decide) (by decide)
  · exact pl _ hx (by decide) (by decide) (by decide) (by decide) (by decide)
  · exact pl _ hx (by decide) (by decide) (by decide) (by decide) (by decide)
  · exact pl _ hx (by decide) (by decide) (by decide) (by decide) (by decide)
/-- which sign between it is -/
theorem s7_signOf {t x y : Int32} {J : Mem} (h : tkR t x y) (hx : J 56 21 = x) (hk : tkK t = 1 ∨ tkK t = 2 ∨ tkK t = 4 ∨ tkK t = 5 ∨ tkK t = 6) : f_X7_signOf J = some (nI (tkM t), J) ∧ ¬ x = 59 ∧ ¬ x = 41 ∧ (tkM t = 11 ∨ tkM t = 12 ∨ (14 ≤ tkM t ∧ tkM t ≤ 18)) := by
  rw [f_X7_signOf, hx]
  rcases tkr_k h with ⟨e, -⟩ | ⟨rfl, rfl⟩ | ⟨rfl, rfl⟩ | ⟨rfl, rfl⟩ | ⟨rfl, rfl⟩ | ⟨rfl, rfl⟩ | ⟨rfl, rfl⟩ | ⟨rfl, rfl⟩ | ⟨rfl, rfl⟩ | ⟨rfl, rfl⟩ | ⟨rfl, rfl⟩ | ⟨rfl, rfl⟩ | ⟨rfl, rfl⟩ | ⟨rfl, rfl⟩ | ⟨rfl, rfl, -⟩ | ⟨rfl, rfl, -⟩ | ⟨rfl, rfl, -⟩
  · exfalso; omega
  all_goals first | (exfalso; revert hk; decide; done) | exact ⟨rfl, by decide, by decide, by decide⟩
theorem s7_noSign {t x y : Int32} {J : Mem} (h : tkR t x y) (hx : J 56 21 = x) (h1 : tkK t ≠ 1) (h2 : tkK t ≠ 2) (h4 : tkK t ≠ 4) (h5 : tkK t ≠ 5) (h6 : tkK t ≠ 6) (h8 : tkK t ≠ 8) (h17 : t ≠ -17) : f_X7_signOf J = some (-1, J) ∧ ¬ x = 59 ∧ ¬ x = 41 := by
  rw [f_X7_signOf, hx]
  rcases tkr_k h with ⟨-, ⟨rfl, -⟩ | ⟨rfl, -⟩⟩ | ⟨rfl, rfl⟩ | ⟨rfl, rfl⟩ | ⟨rfl, rfl⟩ | ⟨rfl, rfl⟩ | ⟨rfl, rfl⟩ | ⟨rfl, rfl⟩ | ⟨rfl, rfl⟩ | ⟨rfl, rfl⟩ | ⟨rfl, rfl⟩ | ⟨rfl, rfl⟩ | ⟨rfl, rfl⟩ | ⟨rfl, rfl⟩ | ⟨rfl, rfl⟩ | ⟨rfl, rfl, -⟩ | ⟨rfl, rfl, -⟩ | ⟨rfl, rfl, -⟩
  all_goals first | exact ⟨rfl, by decide, by decide⟩ | exact absurd (by decide) h1 | exact absurd (by decide) h2 | exact absurd (by decide) h4 | exact absurd (by decide) h5 | exact absurd (by decide) h6 | exact absurd (by decide) h8 | exact absurd (by decide) h17
theorem so_sign {J : Mem} {τ a o n : Nat} {x2 : Int32} {st P L : List Nat} (hτ : τ < 6) (hk : tkK (tkA tx tp a) = 1 ∨ tkK (tkA tx tp a) = 2 ∨ tkK (tkA tx tp a) = 4 ∨ tkK (tkA tx tp a) = 5 ∨ tkK (tkA tx tp a) = 6) (hP : ∀ x, x ∈ P → okS x ∧ ru (tkM (tkA tx tp a)) ≤ rk x) (hT : TopLt st (ru (tkM (tkA tx tp a)))) (h4 : rk (tkM (tkA tx tp a)) = 4 → TopLt st 4) (h : SM tx tp J τ a L (st ++ P.reverse) (o + opS P)) (ho : o + opS P ≤ 5) : ∃ K, f_X7_eRead_b14 (n + 1) x2 0 J = f_X7_eRead_b14 n (if 12 < tkM (tkA tx tp a) then 0 else 1) 1 K ∧ SM tx tp K τ (nxA tx tp a) (L ++ P) (st ++ [tkM (tkA tx tp a)]) o ∧ FrT τ J K := by
  have hp := nxA_p (tx := tx) h.1.2.2.1 (by omega)
  have h8 := h.2.2.2.2.2.2.2
  obtain ⟨J3, e3, s3, p3, t3, f3⟩ := sm_next h
  obtain ⟨g1, g2, g3, g4⟩ := s7_signOf t3 rfl hk
  obtain ⟨K, e4, s4, f4⟩ := sm_between hτ g4 hP hT h4 s3 ho (by omega)
  refine ⟨K, ?_, s4, f3.tr f4.T⟩
  rw [f_X7_eRead_b14, e3, bnd_some, if_pos rfl, if_neg g2, if_neg g3, g1, bnd_some, if_neg (ne_m1 (by omega)), e4, bnd_some, if_neg (show ¬ (1 : Int32) = 0 by decide)]
  by_cases q : 12 < tkM (tkA tx tp a)
  · rw [if_pos (show (12 : Int32) < nI (tkM (tkA tx tp a)) from (nI_lt' (a := 12) (by omega) (by omega)).mpr q), if_pos q, f_X7_eRead_b262]
  · rw [if_neg (show ¬ (12 : Int32) < nI (tkM (tkA tx tp a)) from fun hh => q ((nI_lt' (a := 12) (by omega) (by omega)).mp hh)), if_neg q, f_X7_eRead_b262]
theorem so_close {J : Mem} {τ a o k n : Nat} {x2 : Int32} {s0 P L : List Nat} (hτ : τ < 6) (hk : tkK (tkA tx tp a) = 8) (hP : ∀ x, x ∈ P → okS x ∧ 1 ≤ rk x) (hT : TopLt s0 7) (h : SM tx tp J τ a L (s0 ++ List.replicate k 19 ++ [0] ++ P.reverse) (o + k + 1 + opS P)) (ho : o + k + 1 + opS P ≤ 5) : ∃ K, f_X7_eRead_b14 (n + 1) x2 0 J = f_X7_eRead_b14 n x2 0 K ∧ SM tx tp K τ (nxA tx tp a) (L ++ P ++ List.replicate k 19) s0 o ∧ FrT τ J K := by
  obtain ⟨J3, e3, s3, p3, t3, f3⟩ := sm_next h
  have hx : J3 56 21 = 41 := by
    rcases tkr_k t3 with ⟨e, -⟩ | ⟨e, hx⟩ | ⟨e, hx⟩ | ⟨e, hx⟩ | ⟨e, hx⟩ | ⟨e, hx⟩ | ⟨e, hx⟩ | ⟨e, hx⟩ | ⟨e, hx⟩ | ⟨e, hx⟩ | ⟨e, hx⟩ | ⟨e, hx⟩ | ⟨e, hx⟩ | ⟨e, hx⟩ | ⟨e, hx⟩ | ⟨e, hx⟩ | ⟨e, hx⟩ <;> first | exact hx | (exfalso; rw [e] at hk; revert hk; decide)
  obtain ⟨J4, e4, s4, f4⟩ := sm_unws hτ (by omega) (TopLt.mk (Or.inl rfl) (by decide)) hP s3 ho
  have h5 := s4.2.2.2.2.1
  have h6 := s4.2.2.2.2.2.2.1
  have hb := s4.1.2.2.1
  have hb2 := s4.1.2.2.2.1
  have h8 := s4.2.2.2.2.2.2.2
  rw [ln_sn] at h5 h8
  have w26 : wr J4 56 25 (nI (s0 ++ List.replicate k 19).length) 56 26 = nI (o + k + 1) := by rw [wr_j _ _ _ (by omega)]; exact h6
  obtain ⟨s5, f5⟩ := sm_set (st' := s0 ++ List.replicate k 19) (o' := o + k) s4 (nI (s0 ++ List.replicate k 19).length) (nI (o + k)) rfl rfl (fun i hi => (gd_lt hi).symm) (by rw [ln_sn]; omega)
  have hne : ¬ nI ((s0 ++ List.replicate k 19).length + 1) = (0 : Int32) := fun hh => by
    have := (nI_eq' (b := 0) (by omega) (by omega)).mp hh
    omega
  obtain ⟨K, e6, s6, f6⟩ := sm_minus hτ hT s5 (by omega)
  refine ⟨K, ?_, s6, f3.tr (f4.T.tr (f5.T.tr f6.T))⟩
  rw [f_X7_eRead_b14, e3, bnd_some, if_pos rfl, hx, if_neg (by decide), if_pos rfl, show (1 : Int32) = nI 1 from rfl, e4, bnd_some, h5, if_neg hne, lt1_eq, lt1_eq, show nI 1 = (1 : Int32) from rfl, nI_sub1 (by omega), w26, nI_sub1 (by omega), show (7 : Int32) = nI 7 from rfl, e6, bnd_some]
/-- a text's part ends -/
theorem so_semi {J : Mem} {τ a n : Nat} {x2 : Int32} {P L : List Nat} (hτ : τ < 6) (hk : tkA tx tp a = -17) (hP : ∀ x, x ∈ P → okS x ∧ 1 ≤ rk x) (h : SM tx tp J τ a L ([] ++ P.reverse) (0 + opS P)) (ho : 0 + opS P ≤ 5) : ∃ K, f_X7_eRead_b14 (n + 1) x2 0 J = some (1, K) ∧ SM tx tp K τ (nxA tx tp a) (L ++ P) [] 0 ∧ FrT τ J K := by
  obtain ⟨J3, e3, s3, p3, t3, f3⟩ := sm_next h
  have hx : J3 56 21 = 59 := by
    rcases tkr_k t3 with ⟨e, -⟩ | ⟨e, hx⟩ | ⟨e, hx⟩ | ⟨e, hx⟩ | ⟨e, hx⟩ | ⟨e, hx⟩ | ⟨e, hx⟩ | ⟨e, hx⟩ | ⟨e, hx⟩ | ⟨e, hx⟩ | ⟨e, hx⟩ | ⟨e, hx⟩ | ⟨e, hx⟩ | ⟨e, hx⟩ | ⟨e, hx⟩ | ⟨e, hx⟩ | ⟨e, hx⟩ <;> first | exact hx | (exfalso; rw [hk] at e; revert e; decide)
  obtain ⟨J4, e4, s4, f4⟩ := sm_unws hτ (by omega) (Or.inl rfl) hP s3 ho
  have h5 := s4.2.2.2.2.1
  refine ⟨J4, ?_, s4, f3.tr f4.T⟩
  rw [f_X7_eRead_b14, e3, bnd_some, if_pos rfl, hx, if_pos rfl, show (1 : Int32) = nI 1 from rfl, e4, bnd_some, h5, if_pos (by rfl)]
/-- nothing more that may stand between follows -/
def StpE (tx : Nat → Nat) (tp w a : Nat) (P : List Nat) : Prop := (w ≤ 4 → tkK (tkA tx tp a) ≠ 6) ∧ (w ≤ 3 → tkK (tkA tx tp a) ≠ 5) ∧ (w ≤ 2 → tkK (tkA tx tp a) = 4 → has4 P) ∧ (w ≤ 1 → tkK (tkA tx tp a) ≠ 2) ∧ (w = 0 → tkK (tkA tx tp a) ≠ 1)
theorem so_end {J : Mem} {τ a o n : Nat} {x2 : Int32} {st P L : List Nat} (hτ : τ < 6) (hP : ∀ x, x ∈ P → okS x ∧ 1 ≤ rk x) (hT : TopLt st 1) (hS : StpE tx tp 0 a P) (h8 : tkK (tkA tx tp a) = 8 → st = []) (h17 : tkA tx tp a = -17 → st ≠ []) (h : SM tx tp J τ a L (st ++ P.reverse) (o + opS P)) (ho : o + opS P ≤ 5) : FailM τ (LXs tx tp a) J (f_X7_eRead_b14 (n + 1) x2 0 J) := by
  obtain ⟨J3, e3, s3, p3, t3, f3⟩ := sm_next h
  obtain ⟨S1, S2, S3, S4, S5⟩ := hS
  by_cases q17 : tkA tx tp a = -17
  · have hx : J3 56 21 = 59 := by
      rcases tkr_k t3 with ⟨e, -⟩ | ⟨e, hx⟩ | ⟨e, hx⟩ | ⟨e, hx⟩ | ⟨e, hx⟩ | ⟨e, hx⟩ | ⟨e, hx⟩ | ⟨e, hx⟩ | ⟨e, hx⟩ | ⟨e, hx⟩ | ⟨e, hx⟩ | ⟨e, hx⟩ | ⟨e, hx⟩ | ⟨e, hx⟩ | ⟨e, hx⟩ | ⟨e, hx⟩ | ⟨e, hx⟩ <;> first | exact hx | (exfalso; rw [q17] at e; revert e; decide)
    obtain ⟨J4, e4, s4, f4⟩ := sm_unws hτ (by omega) hT hP s3 ho
    have h5 := s4.2.2.2.2.1
    have hb := s4.1.2.2.1
    have hb2 := s4.1.2.2.2.1
    have hb8 := s4.2.2.2.2.2.2.2
    have hl : 0 < st.length := List.length_pos_iff.mpr (h17 q17)
    refine ⟨J4, ?_, by rw [f4.2.2 20 (by omega)]; exact p3, f3.tr f4.T⟩
    rw [f_X7_eRead_b14, e3, bnd_some, if_pos rfl, hx, if_pos rfl, show (1 : Int32) = nI 1 from rfl, e4, bnd_some, h5, if_neg (show ¬ nI st.length = (0 : Int32) from fun hh => by have := (nI_eq' (b := 0) (by omega) (by omega)).mp hh; omega)]
  by_cases q8 : tkK (tkA tx tp a) = 8
  · have hst := h8 q8
    subst hst
    have hx : J3 56 21 = 41 := by
      rcases tkr_k t3 with ⟨e, -⟩ | ⟨e, hx⟩ | ⟨e, hx⟩ | ⟨e, hx⟩ | ⟨e, hx⟩ | ⟨e, hx⟩ | ⟨e, hx⟩ | ⟨e, hx⟩ | ⟨e, hx⟩ | ⟨e, hx⟩ | ⟨e, hx⟩ | ⟨e, hx⟩ | ⟨e, hx⟩ | ⟨e, hx⟩ | ⟨e, hx⟩ | ⟨e, hx⟩ | ⟨e, hx⟩ <;> first | exact hx | (exfalso; rw [e] at q8; revert q8; decide)
    obtain ⟨J4, e4, s4, f4⟩ := sm_unws hτ (by omega) hT hP s3 ho
    have h5 := s4.2.2.2.2.1
    refine ⟨J4, ?_, by rw [f4.2.2 20 (by omega)]; exact p3, f3.tr f4.T⟩
    rw [f_X7_eRead_b14, e3, bnd_some, if_pos rfl, hx, if_neg (by decide), if_pos rfl, show (1 : Int32) = nI 1 from rfl, e4, bnd_some, h5, if_pos (by rfl)]
  by_cases q4 : tkK (tkA tx tp a) = 4
  · obtain ⟨g1, g2, g3, g4⟩ := s7_signOf t3 rfl (by omega)
    have hs : tkM (tkA tx tp a) = 14 ∨ tkM (tkA tx tp a) = 15 := by
      rcases tk4.mp q4 with e | e <;> rw [e]
      · exact Or.inl rfl
      · exact Or.inr rfl
    obtain ⟨K, e4, f4⟩ := sm_between_no hτ hs (S3 (by omega) q4) s3 ho
    refine ⟨K, ?_, by rw [f4.2.2 20 (by omega)]; exact p3, f3.tr f4.T⟩
    rw [f_X7_eRead_b14, e3, bnd_some, if_pos rfl, if_neg g2, if_neg g3, g1, bnd_some, if_neg (ne_m1 (by omega)), e4, bnd_some, if_pos rfl]
  · obtain ⟨g1, g2, g3⟩ := s7_noSign t3 rfl (S5 rfl) (S4 (by omega)) q4 (S2 (by omega)) (S1 (by omega)) q8 q17
    refine ⟨J3, ?_, p3, f3⟩
    rw [f_X7_eRead_b14, e3, bnd_some, if_pos rfl, if_neg g2, if_neg g3, g1, bnd_some, if_pos rfl]
end RdT
