/-! PURE 48: the class's reader is the parser, all levels -/
section RdPR3
variable {tx : Nat → Nat} {tp : Nat}
theorem tk7 {t : Int32} : tkK t = 7 ↔ t = -15 := by
  constructor
  · intro h
    unfold tkK at h
    by_cases q : t = -15
    · exact q
    · exfalso
      rw [if_neg q] at h
      repeat (split at h; omega)
      omega
  · rintro rfl
    decide
theorem tk8 {t : Int32} : tkK t = 8 ↔ t = -16 := by
  constructor
  · intro h
    unfold tkK at h
    by_cases q : t = -16
    · exact q
    · exfalso
      rw [if_neg q] at h
      repeat (split at h; omega)
      omega
  · rintro rfl
    decide
theorem tk0 {t : Int32} (h : tkK t = 0) : (∃ n, n < 2147483648 ∧ t = nI n) ∨ t = -9 ∨ t = -10 ∨ t = -11 ∨ t = -12 ∨ t = -13 ∨ t = -14 := by
  unfold tkK at h
  by_cases q0 : 0 ≤ t
  · rw [i_le] at q0
    obtain ⟨n, hn, e, -⟩ := nI_of_toInt (x := t) (by simpa using q0)
    exact Or.inl ⟨n, hn, e⟩
  rw [if_neg q0] at h
  by_cases q1 : -9 < t
  · exfalso
    repeat (split at h; omega)
    omega
  by_cases q2 : t < -14
  · exfalso
    repeat (split at h; omega)
    omega
  have e9 : (-9 : Int32).toInt = -9 := by decide
  have e14 : (-14 : Int32).toInt = -14 := by decide
  rw [i_lt, e9] at q1
  rw [i_lt, e14] at q2
  refine Or.inr ?_
  rcases (show t.toInt = -9 ∨ t.toInt = -10 ∨ t.toInt = -11 ∨ t.toInt = -12 ∨ t.toInt = -13 ∨ t.toInt = -14 by omega) with e | e | e | e | e | e
  · exact Or.inl ((i_eq _ _).mpr e)
  · exact Or.inr (Or.inl ((i_eq _ _).mpr e))
  · exact Or.inr (Or.inr (Or.inl ((i_eq _ _).mpr e)))
  · exact Or.inr (Or.inr (Or.inr (Or.inl ((i_eq _ _).mpr e))))
  · exact Or.inr (Or.inr (Or.inr (Or.inr (Or.inl ((i_eq _ _).mpr e)))))
  · exact Or.inr (Or.inr (Or.inr (Or.inr (Or.inr ((i_eq _ _).mpr e)))))
theorem tk0_c {t : Int32} (h : tkK t = 0) : ctk (tkM t) = t := by
  rcases tk0 h with ⟨n, hn, rfl⟩ | rfl | rfl | rfl | rfl | rfl | rfl
  · have hp : (0 : Int32) ≤ nI n := (nI_le' (a := 0) (by omega) hn).mpr (by omega)
    rw [tkM, if_pos hp, cl_nI hn, ctk, if_pos (by omega), show 100000 + n - 100000 = n by omega]
  all_goals rfl
/-- an operand is written, then the next token -/
theorem sc_wn {J : Mem} {τ a x : Nat} {L : List Nat} (hτ : τ < 6) (h : SC tx tp J τ a L) (hk : tkK (tkA tx tp a) ≠ 9) : ∃ K, (bnd (f_X4_write τ (ctk x) J) fun _ J2 => bnd (f_X1_next J2) fun _ J3 => some ((), J3)) = some ((), K) ∧ SC tx tp K τ (nxA tx tp a) (L ++ [x]) ∧ FrR τ J K := by
  obtain ⟨⟨k1, k2, k3⟩, h5, h6, h3, hc, hl, ha⟩ := h
  have hp := nxA_p (tx := tx) ha hk
  have hb := nxA_b (tx := tx) ha
  have ht := k3.2.2.2.2.1
  have hlen : (L ++ [x]).length = L.length + 1 := by simp
  have hne : ∀ c, c ≠ 30 + 3 * τ → c ≠ 30 + 3 * τ + 1 → wr (wr J (30 + 3 * τ + 1) L.length (ctk x)) (30 + 3 * τ) 3 (nI (L.length + 1)) c = J c := fun c c1 c2 => by rw [wr_k _ _ _ c1, wr_k _ _ _ c2]
  have e26 : wr (wr J (30 + 3 * τ + 1) L.length (ctk x)) (30 + 3 * τ) 3 (nI (L.length + 1)) 26 = J 26 := hne 26 (by omega) (by omega)
  have e27 : wr (wr J (30 + 3 * τ + 1) L.length (ctk x)) (30 + 3 * τ) 3 (nI (L.length + 1)) 27 = J 27 := hne 27 (by omega) (by omega)
  rw [f_X4_write, h3, if_neg (show ¬ (160 : Int32) ≤ nI L.length from fun hh => by have := (nI_le' (a := 160) (by omega) (by omega)).mp hh; omega), if_pos (inb_t (by omega) (by omega)), lt1_eq, lt1_eq, cl_nI (by omega), wr_k _ _ _ (by omega), h3, nI_1, bnd_some]
  obtain ⟨K, e, t, f1, f2⟩ := s1_next (tx := tx) (tp := tp) (J := wr (wr J (30 + 3 * τ + 1) L.length (ctk x)) (30 + 3 * τ) 3 (nI (L.length + 1))) (a := nxA tx tp a) ⟨by rw [e26]; exact k3.1, by rw [e26]; exact k3.2.1, by rw [e26]; exact k3.2.2.1, k3.2.2.2.1, ht, fun k hk => by rw [e27]; exact k3.2.2.2.2.2 k hk⟩
  refine ⟨K, by rw [e, bnd_some], ⟨t, by rw [f1 5 (by omega) (by omega) (by omega), e26]; exact h5, by rw [f1 6 (by omega) (by omega) (by omega), e26]; exact h6, by rw [f2 _ (by omega), hlen]; exact wr_s _ _ _ _, fun k hk => ?_, by rw [hlen]; omega, hb.2.1⟩, fun c c1 c2 c3 => (f2 c c1).trans (hne c c2 c3)⟩
  rw [hlen] at hk
  rw [f2 _ (by omega), wr_k _ _ _ (by omega)]
  by_cases q : k = L.length
  · have e : (L ++ [x]).getD L.length 0 = x := by simp [List.getD_eq_getElem?_getD]
    rw [q, wr_s, e]
  · have e : (L ++ [x]).getD k 0 = L.getD k 0 := by rw [List.getD_eq_getElem?_getD, List.getElem?_append_left (by omega), ← List.getD_eq_getElem?_getD]
    rw [wr_j _ _ _ q, e]
    exact hc k (by omega)
/-- a sum, perhaps compared with one -/
theorem rd_cmp {g o a τ : Nat} {J : Mem} {L : List Nat} (hτ : τ < 6) (IH : ∀ b J L, SC tx tp J τ b L → ∃ K, f_rd g 3 (nI o) J = some ((), K) ∧ Out tx tp K τ L (PR tx tp g 3 o b) ∧ FrR τ J K) (h : SC tx tp J τ a L) : ∃ K, f_X1_readNot_b35 (f_rd g) (nI o) J = some ((), K) ∧ Out tx tp K τ L (thenR (PR tx tp g 3 o a) fun a1 c => if tkK (tkA tx tp a1) = 4 then thenR (PR tx tp g 3 o (nxA tx tp a1)) fun a2 c2 => .inr (a2, c ++ c2 ++ [tkM (tkA tx tp a1)]) else .inr (a1, c)) ∧ FrR τ J K := by
  obtain ⟨J1, e1, o1, f1⟩ := IH a J L h
  rw [f_X1_readNot_b35, e1, bnd_some]
  cases hr : PR tx tp g 3 o a with
  | inl f =>
    rw [hr] at o1
    have o1' : SB J1 τ f := o1
    rw [o1'.1, if_neg (by decide), if_neg (by decide)]
    exact ⟨J1, rfl, o1', f1⟩
  | inr p =>
    obtain ⟨a1, c⟩ := p
    rw [hr] at o1
    have o1' : SC tx tp J1 τ a1 (L ++ c) := o1
    have h4 : J1 26 4 = tkA tx tp a1 := o1'.1.2.1
    by_cases q : tkK (tkA tx tp a1) = 4
    · have hb := nxA_b (tx := tx) o1'.2.2.2.2.2.2
      have hb58 : ∃ K, f_X1_readNot_b58 (f_rd g) (nI o) J1 = some ((), K) ∧ Out tx tp K τ (L ++ c) (thenR (PR tx tp g 3 o (nxA tx tp a1)) fun a2 c2 => .inr (a2, c2 ++ [tkM (tkA tx tp a1)])) ∧ FrR τ J1 K := by
        have := pre_PR (x := tkM (tkA tx tp a1)) hτ o1' (by rw [q]; omega) (fun J hs => IH _ J _ hs) (PR_g g 3 o _ hb.2.1)
        rw [show ctk (tkM (tkA tx tp a1)) = J1 26 4 from (tk_op q (by omega)).2.trans h4.symm] at this
        exact this
      obtain ⟨K, e, oo, ff⟩ := hb58
      have hgo : (if J1 26 4 = (-21 : Int32) then f_X1_readNot_b58 (f_rd g) (nI o) J1 else if J1 26 4 = (-22 : Int32) then f_X1_readNot_b58 (f_rd g) (nI o) J1 else some ((), J1)) = some ((), K) := by
        rcases tk4.mp q with q | q
        · rw [h4, if_pos q]; exact e
        · rw [h4, if_neg (by rw [q]; decide), if_pos q]; exact e
      refine ⟨K, hgo, ?_, f1.tr ff⟩
      show Out tx tp K τ L (if tkK (tkA tx tp a1) = 4 then thenR (PR tx tp g 3 o (nxA tx tp a1)) fun a2 c2 => .inr (a2, c ++ c2 ++ [tkM (tkA tx tp a1)]) else .inr (a1, c))
      rw [if_pos q]
      cases hr2 : PR tx tp g 3 o (nxA tx tp a1) with
      | inl f => rw [hr2] at oo; exact oo
      | inr p2 =>
        obtain ⟨a2, c2⟩ := p2
        rw [hr2] at oo
        have oo' : SC tx tp K τ a2 (L ++ c ++ (c2 ++ [tkM (tkA tx tp a1)])) := oo
        show SC tx tp K τ a2 (L ++ (c ++ c2 ++ [tkM (tkA tx tp a1)]))
        rw [show L ++ (c ++ c2 ++ [tkM (tkA tx tp a1)]) = L ++ c ++ (c2 ++ [tkM (tkA tx tp a1)]) by simp only [List.append_assoc]]
        exact oo'
    · refine ⟨J1, ?_, ?_, f1⟩
      · rw [h4, if_neg (fun hh => q (tk4.mpr (Or.inl hh))), if_neg (fun hh => q (tk4.mpr (Or.inr hh)))]
      · show Out tx tp J1 τ L (if tkK (tkA tx tp a1) = 4 then _ else _)
        rw [if_neg q]
        exact o1'
theorem rd_ref {g o a τ : Nat} {J : Mem} {L : List Nat} (hτ : τ < 6) (h : SC tx tp J τ a L) : ∃ K, f_X1_readOne_b106 (f_rd g) (nI o) J = some ((), K) ∧ Out tx tp K τ L (.inl (LXs tx tp a)) ∧ FrR τ J K := by
  obtain ⟨K, e, s, f⟩ := sc_refuse hτ h
  exact ⟨K, by rw [f_X1_readOne_b106, e, bnd_some], s, f⟩
theorem le5 {o : Nat} (h : o < 5) : ¬ (5 : Int32) ≤ nI o := fun hh => by
  have := (nI_le' (a := 5) (by omega) (by omega)).mp hh
  omega
theorem rd_one {g o a τ : Nat} {J : Mem} {L : List Nat} (hτ : τ < 6) (ho : o ≤ 5) (IH : ∀ w, o < 5 → (w = 0 ∨ w = 5) → ∀ b J L, SC tx tp J τ b L → ∃ K, f_rd g w (nI (o + 1)) J = some ((), K) ∧ Out tx tp K τ L (PR tx tp g w (o + 1) b) ∧ FrR τ J K) (h : SC tx tp J τ a L) : ∃ K, B_X1_readOne (f_rd g) (nI o) J = some ((), K) ∧ Out tx tp K τ L (PR tx tp (g + 1) 5 o a) ∧ FrR τ J K := by
  have ha := h.2.2.2.2.2.2
  have h4 : J 26 4 = tkA tx tp a := h.1.2.1
  obtain ⟨i1, i2⟩ := in_text hτ h.2.2.1
  have hb := nxA_b (tx := tx) ha
  rw [PR, if_neg (by decide), if_neg (by decide), if_neg (by decide), if_neg (by decide), if_neg (by decide)]
  by_cases q0 : tkK (tkA tx tp a) = 0
  · rw [if_pos q0]
    have h17 : ∃ K, f_X1_readOne_b17 (f_rd g) (nI o) J = some ((), K) ∧ Out tx tp K τ L (.inr (nxA tx tp a, [tkM (tkA tx tp a)])) ∧ FrR τ J K := by
      obtain ⟨K, e, s, f⟩ := sc_wn (x := tkM (tkA tx tp a)) hτ h (by rw [q0]; omega)
      rw [tk0_c q0, ← h4] at e
      exact ⟨K, by rw [f_X1_readOne_b17, if_pos i1, i2]; exact e, s, f⟩
    have hB : B_X1_readOne (f_rd g) (nI o) J = f_X1_readOne_b17 (f_rd g) (nI o) J := by
      rw [B_X1_readOne, h4]
      rcases tk0 q0 with ⟨n, hn, e⟩ | e | e | e | e | e | e
      · rw [if_pos (show (0 : Int32) ≤ tkA tx tp a by rw [e]; exact (nI_le' (a := 0) (by omega) hn).mpr (by omega))]
      all_goals
        rw [e, if_neg (by decide), f_X5_isName, if_neg (by decide), if_neg (by decide), bnd_some, if_neg (by decide)]
    rw [hB]
    exact h17
  · rw [if_neg q0]
    have hn0 : ¬ (0 : Int32) ≤ tkA tx tp a := fun hh => q0 (by rw [tkK, if_pos hh])
    have hnm : f_X5_isName (tkA tx tp a) J = some (0, J) := by
      rw [f_X5_isName]
      by_cases q1 : (-9 : Int32) < tkA tx tp a
      · rw [if_pos q1]
      · rw [if_neg q1]
        by_cases q2 : tkA tx tp a < (-14 : Int32)
        · rw [if_pos q2]
        · exfalso
          apply q0
          have n1 : ∀ x : Int32, (-9 < x ∨ x < -14) → ¬ tkA tx tp a = x := by
            rintro x hx rfl
            rcases hx with hx | hx
            · exact q1 hx
            · exact q2 hx
          rw [tkK, if_neg hn0, if_neg (n1 _ (by decide)), if_neg (n1 _ (by decide)), if_neg (n1 _ (by decide)), if_neg (n1 _ (by decide)), if_neg (n1 _ (by decide)), if_neg (n1 _ (by decide)), if_neg (n1 _ (by decide)), if_neg (n1 _ (by decide)), if_neg (n1 _ (by decide)), if_neg (n1 _ (by decide)), if_neg q1, if_neg q2]
    rw [B_X1_readOne, h4, if_neg hn0, hnm, bnd_some, if_pos rfl, h4]
    by_cases q5 : tkA tx tp a = -19
    · rw [if_pos q5]
      by_cases ho5 : o < 5
      · rw [if_pos (show tkA tx tp a = -19 ∧ o < 5 from ⟨q5, ho5⟩), if_neg (le5 ho5), nI_1]
        exact pre_PR (x := 19) hτ h (by rw [q5]; decide) (fun J hs => IH 5 ho5 (Or.inr rfl) _ J _ hs) (PR_g g 5 (o + 1) _ hb.2.1)
      · rw [if_neg (show ¬ (tkA tx tp a = -19 ∧ o < 5) from fun hh => ho5 hh.2), if_pos (show (5 : Int32) ≤ nI o from (nI_le' (a := 5) (by omega) (by omega)).mpr (by omega)), if_neg (show ¬ (tkK (tkA tx tp a) = 7 ∧ o < 5) from fun hh => ho5 hh.2), f_X1_readOne_b72, h4, if_neg (by rw [q5]; decide)]
        exact rd_ref hτ h
    · rw [if_neg q5, if_neg (show ¬ (tkA tx tp a = -19 ∧ o < 5) from fun hh => q5 hh.1), f_X1_readOne_b72, h4]
      by_cases q7 : tkK (tkA tx tp a) = 7
      · rw [if_pos (tk7.mp q7)]
        by_cases ho5 : o < 5
        · rw [if_pos (show tkK (tkA tx tp a) = 7 ∧ o < 5 from ⟨q7, ho5⟩), if_neg (le5 ho5), nI_1]
          obtain ⟨J3, e3, s3, f3⟩ := sc_next hτ h
          obtain ⟨J8, e8, o8, f8⟩ := IH 0 ho5 (Or.inl rfl) _ J3 _ s3
          rw [e3, bnd_some, e8, bnd_some]
          cases hr : PR tx tp g 0 (o + 1) (nxA tx tp a) with
          | inl f =>
            rw [hr] at o8
            have o8' : SB J8 τ f := o8
            rw [s1_expect_bad o8'.1 (by rw [o8'.2.1]; exact ne_m1 (by have := o8'.2.2.1; omega)) (by decide), bnd_some]
            exact ⟨J8, rfl, o8', f3.tr f8⟩
          | inr p =>
            obtain ⟨a1, c⟩ := p
            rw [hr] at o8
            have o8' : SC tx tp J8 τ a1 (L ++ c) := o8
            have h48 : J8 26 4 = tkA tx tp a1 := o8'.1.2.1
            rw [f_X1_expect, h48]
            by_cases q8 : tkK (tkA tx tp a1) = 8
            · obtain ⟨K, e, s, f⟩ := sc_next hτ o8'
              rw [if_pos (tk8.mp q8), e, bnd_some, bnd_some]
              refine ⟨K, rfl, ?_, f3.tr (f8.tr f)⟩
              show Out tx tp K τ L (if tkK (tkA tx tp a1) = 8 then _ else _)
              rw [if_pos q8]
              exact s
            · obtain ⟨K, e, s, f⟩ := sc_refuse hτ o8'
              rw [if_neg (fun hh => q8 (tk8.mpr hh)), e, bnd_some, bnd_some]
              refine ⟨K, rfl, ?_, f3.tr (f8.tr f)⟩
              show Out tx tp K τ L (if tkK (tkA tx tp a1) = 8 then _ else _)
              rw [if_neg q8]
              exact s
        · rw [if_pos (show (5 : Int32) ≤ nI o from (nI_le' (a := 5) (by omega) (by omega)).mpr (by omega)), if_neg (show ¬ (tkK (tkA tx tp a) = 7 ∧ o < 5) from fun hh => ho5 hh.2)]
          exact rd_ref hτ h
      · rw [if_neg (fun hh => q7 (tk7.mpr hh)), if_neg (show ¬ (tkK (tkA tx tp a) = 7 ∧ o < 5) from fun hh => q7 hh.1)]
        exact rd_ref hτ h
theorem rd_PR : ∀ (g w o a τ : Nat) (J : Mem) (L : List Nat), w ≤ 5 → o ≤ 5 → 6 * (5 - o) + (5 - w) < g → τ < 6 → SC tx tp J τ a L → ∃ K, f_rd g w (nI o) J = some ((), K) ∧ Out tx tp K τ L (PR tx tp g w o a) ∧ FrR τ J K := by
  intro g
  induction g with
  | zero => intro w o a τ J L _ _ hg; omega
  | succ g ih =>
    intro w o a τ J L hw ho hg hτ h
    have ha := h.2.2.2.2.2.2
    have h4 : J 26 4 = tkA tx tp a := h.1.2.1
    have G : ∀ w', ∀ b, b ≤ tp → GoR tp b (PR tx tp g w' o b) := fun w' b hb => PR_g g w' o b hb
    have IH : ∀ w', w < w' → w' ≤ 5 → ∀ b J L, SC tx tp J τ b L → ∃ K, f_rd g w' (nI o) J = some ((), K) ∧ Out tx tp K τ L (PR tx tp g w' o b) ∧ FrR τ J K := fun w' h1 h2 b J L hs => ih w' o b τ J L h2 ho (by omega) hτ hs
    rcases (show w = 0 ∨ w = 1 ∨ w = 2 ∨ w = 3 ∨ w = 4 ∨ w = 5 by omega) with rfl | rfl | rfl | rfl | rfl | rfl
    · rw [f_rd, if_pos rfl, PR, if_pos rfl]
      exact loopE hτ (G 1) (IH 1 (by omega) (by omega)) h
    · rw [f_rd, if_neg (by decide), if_pos rfl, PR, if_neg (by decide), if_pos rfl]
      exact loopAnd hτ (G 2) (IH 2 (by omega) (by omega)) h
    · rw [f_rd, if_neg (by decide), if_neg (by decide), if_pos rfl, PR, if_neg (by decide), if_neg (by decide), if_pos rfl, B_X1_readNot, h4]
      by_cases q : tkK (tkA tx tp a) = 3 ∧ o < 5
      · rw [if_pos q, if_pos (tk3.mp q.1), if_neg (le5 q.2), nI_1]
        exact pre_PR (x := 13) hτ h (by rw [q.1]; omega) (fun J hs => ih 2 (o + 1) _ τ J _ (by omega) (by omega) (by omega) hτ hs) (PR_g g 2 (o + 1) _ (nxA_b ha).2.1)
      · rw [if_neg q]
        have hc := rd_cmp hτ (IH 3 (by omega) (by omega)) h
        by_cases q3 : tkA tx tp a = -8
        · rw [if_pos q3, if_pos (show (5 : Int32) ≤ nI o from (nI_le' (a := 5) (by omega) (by omega)).mpr (by
            by_cases ho5 : o < 5
            · exact absurd ⟨tk3.mpr q3, ho5⟩ q
            · omega))]
          exact hc
        · rw [if_neg q3]
          exact hc
    · rw [f_rd, if_neg (by decide), if_neg (by decide), if_neg (by decide), if_pos rfl, PR, if_neg (by decide), if_neg (by decide), if_neg (by decide), if_pos rfl]
      exact loopSum hτ (G 4) (IH 4 (by omega) (by omega)) h
    · rw [f_rd, if_neg (by decide), if_neg (by decide), if_neg (by decide), if_neg (by decide), if_pos rfl, PR, if_neg (by decide), if_neg (by decide), if_neg (by decide), if_neg (by decide), if_pos rfl]
      exact loopTerm hτ (G 5) (IH 5 (by omega) (by omega)) h
    · rw [f_rd, if_neg (by decide), if_neg (by decide), if_neg (by decide), if_neg (by decide), if_neg (by decide), if_pos rfl]
      exact rd_one hτ ho (fun w' h1 h2 b J L hs => ih w' (o + 1) b τ J L (by omega) (by omega) (by omega) hτ hs) h
end RdPR3
