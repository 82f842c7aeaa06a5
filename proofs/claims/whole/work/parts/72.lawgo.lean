/-! THE LAW'S LOOP: every turn's answers are alike -/
section LawGo
theorem lgc (w : Int64) : lg_cmp w w = 0 := by
  unfold lg_cmp
  simp
theorem law_go {L : Nat} {xs : Nat → Int32} (hL : L ≤ 3584) : ∀ (n i : Nat) (I : Mem), 1 ≤ n → L < i + n → i ≤ L + 7 → Inv I → ∃ J, f_L_law_b18 L xs n (nI i) I = some ((), J) := by
  intro n
  induction n with
  | zero =>
    intro i I h0
    exact absurd h0 (by omega)
  | succ n ih =>
    intro i I h0 h1 h2 hI
    have eL : (nI L - 7).toInt = (L : Int) - 7 := by rw [ti_sub] <;> rw [ti_nI (by omega), show (7 : Int32).toInt = 7 from rfl] <;> omega
    rw [f_L_law_b18]
    by_cases hq : nI L - 7 < nI i
    · rw [if_pos hq]; exact ⟨I, rfl⟩
    rw [if_neg hq]
    have hi : i + 7 ≤ L := by
      rw [i_lt, eL, ti_nI (by omega)] at hq
      omega
    have hin : ∀ k : Nat, k < 7 → inb (nI i + nI k) L = true := fun k hk => by rw [nI_add]; exact inb_t (by omega) (by omega)
    have hgo : ∀ J, Inv J → ∃ K, f_L_law_b18 L xs n (nI i + 7) J = some ((), K) := fun J hJ => by
      rw [show nI i + 7 = nI (i + 7) from nI_add i 7]
      exact ih (i + 7) J (by omega) (by omega) (by omega) hJ
    have h1' : inb (nI i + (1 : Int32)) L = true := hin 1 (by omega)
    have h2' : inb (nI i + (2 : Int32)) L = true := hin 2 (by omega)
    have h3' : inb (nI i + (3 : Int32)) L = true := hin 3 (by omega)
    have h4' : inb (nI i + (4 : Int32)) L = true := hin 4 (by omega)
    have h5' : inb (nI i + (5 : Int32)) L = true := hin 5 (by omega)
    have h6' : inb (nI i + (6 : Int32)) L = true := hin 6 (by omega)
    rw [if_pos (inb_t (by omega) (by omega)), lt1_eq]
    generalize (xs (nI i).toNatClampNeg &&& (63 : Int32)) = v
    by_cases q0 : v = (0 : Int32)
    · obtain ⟨w, J, K, e1, e2, hK⟩ := p_count (xs (nI i + (1 : Int32)).toNatClampNeg) I hI
      rw [if_pos q0, if_pos h1', e1, bnd_some, if_pos h1', e2, bnd_some, if_pos rfl]
      exact hgo K hK
    rw [if_neg q0]
    by_cases q1 : v = (1 : Int32)
    · obtain ⟨w, J, K, e1, e2, hK⟩ := p_feed (xs (nI i + (1 : Int32)).toNatClampNeg) (xs (nI i + (2 : Int32)).toNatClampNeg) (xs (nI i + (3 : Int32)).toNatClampNeg) (xs (nI i + (4 : Int32)).toNatClampNeg) (xs (nI i + (5 : Int32)).toNatClampNeg) (xs (nI i + (6 : Int32)).toNatClampNeg) I hI
      rw [if_pos q1, if_pos h1', if_pos h2', if_pos h3', if_pos h4', if_pos h5', if_pos h6', e1, bnd_some, if_pos h1', if_pos h2', if_pos h3', if_pos h4', if_pos h5', if_pos h6', e2, bnd_some, if_pos rfl]
      exact hgo K hK
    rw [if_neg q1]
    by_cases q2 : v = (2 : Int32)
    · obtain ⟨w, J, K, e1, e2, hK⟩ := p_text  I hI
      rw [if_pos q2, e1, bnd_some, e2, bnd_some, if_pos rfl]
      exact hgo K hK
    rw [if_neg q2]
    by_cases q3 : v = (3 : Int32)
    · obtain ⟨w, J, K, e1, e2, hK⟩ := p_force (xs (nI i + (1 : Int32)).toNatClampNeg) I hI
      rw [if_pos q3, if_pos h1', e1, bnd_some, if_pos h1', e2, bnd_some, if_pos rfl]
      exact hgo K hK
    rw [if_neg q3]
    by_cases q4 : v = (4 : Int32)
    · obtain ⟨w, J, K, e1, e2, hK⟩ := p_asks (xs (nI i + (1 : Int32)).toNatClampNeg) (xs (nI i + (2 : Int32)).toNatClampNeg) I hI
      rw [if_pos q4, if_pos h1', if_pos h2', e1, bnd_some, if_pos h1', if_pos h2', e2, bnd_some, if_pos rfl]
      exact hgo K hK
    rw [if_neg q4]
    by_cases q5 : v = (5 : Int32)
    · obtain ⟨w, J, K, e1, e2, hK⟩ := p_hat (xs (nI i + (1 : Int32)).toNatClampNeg) (xs (nI i + (2 : Int32)).toNatClampNeg) (xs (nI i + (3 : Int32)).toNatClampNeg) I hI
      rw [if_pos q5, if_pos h1', if_pos h2', if_pos h3', e1, bnd_some, if_pos h1', if_pos h2', if_pos h3', e2, bnd_some, if_pos rfl]
      exact hgo K hK
    rw [if_neg q5]
    by_cases q6 : v = (6 : Int32)
    · obtain ⟨w, J, K, e1, e2, hK⟩ := p_put (xs (nI i + (1 : Int32)).toNatClampNeg) (xs (nI i + (2 : Int32)).toNatClampNeg) (xs (nI i + (3 : Int32)).toNatClampNeg) I hI
      rw [if_pos q6, if_pos h1', if_pos h2', if_pos h3', e1, bnd_some, if_pos h1', if_pos h2', if_pos h3', e2, bnd_some, if_pos rfl]
      exact hgo K hK
    rw [if_neg q6]
    by_cases q7 : v = (7 : Int32)
    · obtain ⟨w, J, K, e1, e2, hK⟩ := p_told (xs (nI i + (1 : Int32)).toNatClampNeg) (xs (nI i + (2 : Int32)).toNatClampNeg) I hI
      rw [if_pos q7, if_pos h1', if_pos h2', e1, bnd_some, if_pos h1', if_pos h2', e2, bnd_some, if_pos rfl]
      exact hgo K hK
    rw [if_neg q7]
    by_cases q8 : v = (8 : Int32)
    · obtain ⟨w, J, K, e1, e2, hK⟩ := p_duel (xs (nI i + (1 : Int32)).toNatClampNeg) (xs (nI i + (2 : Int32)).toNatClampNeg) (xs (nI i + (3 : Int32)).toNatClampNeg) I hI
      rw [if_pos q8, if_pos h1', if_pos h2', if_pos h3', e1, bnd_some, if_pos h1', if_pos h2', if_pos h3', e2, bnd_some, if_pos rfl]
      exact hgo K hK
    rw [if_neg q8]
    by_cases q9 : v = (9 : Int32)
    · obtain ⟨w, J, K, e1, e2, hK⟩ := p_round  I hI
      rw [if_pos q9, e1, bnd_some, e2, bnd_some, if_pos rfl]
      exact hgo K hK
    rw [if_neg q9]
    by_cases q10 : v = (10 : Int32)
    · obtain ⟨w, J, K, e1, e2, hK⟩ := p_bell (xs (nI i + (1 : Int32)).toNatClampNeg) I hI
      rw [if_pos q10, if_pos h1', e1, bnd_some, if_pos h1', e2, bnd_some, if_pos rfl]
      exact hgo K hK
    rw [if_neg q10]
    by_cases q11 : v = (11 : Int32)
    · obtain ⟨w, J, K, e1, e2, hK⟩ := p_run (xs (nI i + (1 : Int32)).toNatClampNeg) (xs (nI i + (2 : Int32)).toNatClampNeg) I hI
      rw [if_pos q11, if_pos h1', if_pos h2', e1, bnd_some, if_pos h1', if_pos h2', e2, bnd_some, if_pos rfl]
      exact hgo K hK
    rw [if_neg q11]
    by_cases q12 : v = (12 : Int32)
    · obtain ⟨w, J, K, e1, e2, hK⟩ := p_when (xs (nI i + (1 : Int32)).toNatClampNeg) I hI
      rw [if_pos q12, if_pos h1', e1, bnd_some, if_pos h1', e2, bnd_some, if_pos rfl]
      exact hgo K hK
    rw [if_neg q12]
    by_cases q13 : v = (13 : Int32)
    · obtain ⟨w, J, K, e1, e2, hK⟩ := p_end (xs (nI i + (1 : Int32)).toNatClampNeg) I hI
      rw [if_pos q13, if_pos h1', e1, bnd_some, if_pos h1', e2, bnd_some, if_pos rfl]
      exact hgo K hK
    rw [if_neg q13]
    by_cases q14 : v = (14 : Int32)
    · obtain ⟨w, J, K, e1, e2, hK⟩ := p_beaten (xs (nI i + (1 : Int32)).toNatClampNeg) (xs (nI i + (2 : Int32)).toNatClampNeg) I hI
      rw [if_pos q14, if_pos h1', if_pos h2', e1, bnd_some, if_pos h1', if_pos h2', e2, bnd_some, if_pos rfl]
      exact hgo K hK
    rw [if_neg q14]
    by_cases q15 : v = (15 : Int32)
    · obtain ⟨w, J, K, e1, e2, hK⟩ := p_toss (xs (nI i + (1 : Int32)).toNatClampNeg) (xs (nI i + (2 : Int32)).toNatClampNeg) (xs (nI i + (3 : Int32)).toNatClampNeg) I hI
      rw [if_pos q15, if_pos h1', if_pos h2', if_pos h3', e1, bnd_some, if_pos h1', if_pos h2', if_pos h3', e2, bnd_some, if_pos rfl]
      exact hgo K hK
    rw [if_neg q15]
    by_cases q16 : v = (16 : Int32)
    · obtain ⟨w, J, K, e1, e2, hK⟩ := p_rid (xs (nI i + (1 : Int32)).toNatClampNeg) (xs (nI i + (2 : Int32)).toNatClampNeg) (xs (nI i + (3 : Int32)).toNatClampNeg) I hI
      rw [if_pos q16, if_pos h1', if_pos h2', if_pos h3', e1, bnd_some, if_pos h1', if_pos h2', if_pos h3', e2, bnd_some, if_pos rfl]
      exact hgo K hK
    rw [if_neg q16]
    by_cases q17 : v = (17 : Int32)
    · obtain ⟨w, J, K, e1, e2, hK⟩ := p_lasts (xs (nI i + (1 : Int32)).toNatClampNeg) (xs (nI i + (2 : Int32)).toNatClampNeg) I hI
      rw [if_pos q17, if_pos h1', if_pos h2', e1, bnd_some, if_pos h1', if_pos h2', e2, bnd_some, if_pos rfl]
      exact hgo K hK
    rw [if_neg q17]
    by_cases q18 : v = (18 : Int32)
    · obtain ⟨w, J, K, e1, e2, hK⟩ := p_betting (xs (nI i + (1 : Int32)).toNatClampNeg) (xs (nI i + (2 : Int32)).toNatClampNeg) I hI
      rw [if_pos q18, if_pos h1', if_pos h2', e1, bnd_some, if_pos h1', if_pos h2', e2, bnd_some, if_pos (lgc w)]
      exact hgo K hK
    rw [if_neg q18]
    by_cases q19 : v = (19 : Int32)
    · obtain ⟨w, J, K, e1, e2, hK⟩ := p_judge (xs (nI i + (1 : Int32)).toNatClampNeg) (xs (nI i + (2 : Int32)).toNatClampNeg) I hI
      rw [if_pos q19, if_pos h1', if_pos h2', e1, bnd_some, if_pos h1', if_pos h2', e2, bnd_some, if_pos rfl]
      exact hgo K hK
    rw [if_neg q19]
    by_cases q20 : v = (20 : Int32)
    · obtain ⟨w, J, K, e1, e2, hK⟩ := p_kinds (xs (nI i + (1 : Int32)).toNatClampNeg) (xs (nI i + (2 : Int32)).toNatClampNeg) (xs (nI i + (3 : Int32)).toNatClampNeg) (xs (nI i + (4 : Int32)).toNatClampNeg) I hI
      rw [if_pos q20, if_pos h1', if_pos h2', if_pos h3', if_pos h4', e1, bnd_some, if_pos h1', if_pos h2', if_pos h3', if_pos h4', e2, bnd_some, if_pos rfl]
      exact hgo K hK
    rw [if_neg q20]
    by_cases q21 : v = (21 : Int32)
    · obtain ⟨w, J, K, e1, e2, hK⟩ := p_states (xs (nI i + (1 : Int32)).toNatClampNeg) (xs (nI i + (2 : Int32)).toNatClampNeg) (xs (nI i + (3 : Int32)).toNatClampNeg) (xs (nI i + (4 : Int32)).toNatClampNeg) I hI
      rw [if_pos q21, if_pos h1', if_pos h2', if_pos h3', if_pos h4', e1, bnd_some, if_pos h1', if_pos h2', if_pos h3', if_pos h4', e2, bnd_some, if_pos rfl]
      exact hgo K hK
    rw [if_neg q21]
    by_cases q22 : v = (22 : Int32)
    · obtain ⟨w, J, K, e1, e2, hK⟩ := p_places (xs (nI i + (1 : Int32)).toNatClampNeg) (xs (nI i + (2 : Int32)).toNatClampNeg) I hI
      rw [if_pos q22, if_pos h1', if_pos h2', e1, bnd_some, if_pos h1', if_pos h2', e2, bnd_some, if_pos (lgc w)]
      exact hgo K hK
    rw [if_neg q22]
    by_cases q23 : v = (23 : Int32)
    · obtain ⟨w, J, K, e1, e2, hK⟩ := p_whose (xs (nI i + (1 : Int32)).toNatClampNeg) I hI
      rw [if_pos q23, if_pos h1', e1, bnd_some, if_pos h1', e2, bnd_some, if_pos rfl]
      exact hgo K hK
    rw [if_neg q23]
    by_cases q24 : v = (24 : Int32)
    · obtain ⟨w, J, K, e1, e2, hK⟩ := p_laws (xs (nI i + (1 : Int32)).toNatClampNeg) (xs (nI i + (2 : Int32)).toNatClampNeg) I hI
      rw [if_pos q24, if_pos h1', if_pos h2', e1, bnd_some, if_pos h1', if_pos h2', e2, bnd_some, if_pos rfl]
      exact hgo K hK
    rw [if_neg q24]
    by_cases q25 : v = (25 : Int32)
    · obtain ⟨w, J, K, e1, e2, hK⟩ := p_film (xs (nI i + (1 : Int32)).toNatClampNeg) (xs (nI i + (2 : Int32)).toNatClampNeg) (xs (nI i + (3 : Int32)).toNatClampNeg) I hI
      rw [if_pos q25, if_pos h1', if_pos h2', if_pos h3', e1, bnd_some, if_pos h1', if_pos h2', if_pos h3', e2, bnd_some, if_pos rfl]
      exact hgo K hK
    rw [if_neg q25]
    by_cases q26 : v = (26 : Int32)
    · obtain ⟨w, J, K, e1, e2, hK⟩ := p_drawn (xs (nI i + (1 : Int32)).toNatClampNeg) (xs (nI i + (2 : Int32)).toNatClampNeg) I hI
      rw [if_pos q26, if_pos h1', if_pos h2', e1, bnd_some, if_pos h1', if_pos h2', e2, bnd_some, if_pos rfl]
      exact hgo K hK
    rw [if_neg q26]
    by_cases q27 : v = (27 : Int32)
    · obtain ⟨w, J, K, e1, e2, hK⟩ := p_odds (xs (nI i + (1 : Int32)).toNatClampNeg) (xs (nI i + (2 : Int32)).toNatClampNeg) (xs (nI i + (3 : Int32)).toNatClampNeg) (xs (nI i + (4 : Int32)).toNatClampNeg) I hI
      rw [if_pos q27, if_pos h1', if_pos h2', if_pos h3', if_pos h4', e1, bnd_some, if_pos h1', if_pos h2', if_pos h3', if_pos h4', e2, bnd_some, if_pos (lgc w)]
      exact hgo K hK
    rw [if_neg q27]
    by_cases q28 : v = (28 : Int32)
    · obtain ⟨w, J, K, e1, e2, hK⟩ := p_image  I hI
      rw [if_pos q28, e1, bnd_some, e2, bnd_some, if_pos rfl]
      exact hgo K hK
    rw [if_neg q28]
    by_cases q29 : v = (29 : Int32)
    · obtain ⟨w, J, K, e1, e2, hK⟩ := p_back  I hI
      rw [if_pos q29, e1, bnd_some, e2, bnd_some, if_pos rfl]
      exact hgo K hK
    rw [if_neg q29]
    by_cases q30 : v = (30 : Int32)
    · obtain ⟨w, J, K, e1, e2, hK⟩ := p_sheet (xs (nI i + (1 : Int32)).toNatClampNeg) (xs (nI i + (2 : Int32)).toNatClampNeg) (xs (nI i + (3 : Int32)).toNatClampNeg) I hI
      rw [if_pos q30, if_pos h1', if_pos h2', if_pos h3', e1, bnd_some, if_pos h1', if_pos h2', if_pos h3', e2, bnd_some, if_pos rfl]
      exact hgo K hK
    rw [if_neg q30]
    by_cases q31 : v = (31 : Int32)
    · obtain ⟨w, J, K, e1, e2, hK⟩ := p_cell (xs (nI i + (1 : Int32)).toNatClampNeg) (xs (nI i + (2 : Int32)).toNatClampNeg) (xs (nI i + (3 : Int32)).toNatClampNeg) I hI
      rw [if_pos q31, if_pos h1', if_pos h2', if_pos h3', e1, bnd_some, if_pos h1', if_pos h2', if_pos h3', e2, bnd_some, if_pos rfl]
      exact hgo K hK
    rw [if_neg q31]
    by_cases q32 : v = (32 : Int32)
    · obtain ⟨w, J, K, e1, e2, hK⟩ := p_copy (xs (nI i + (1 : Int32)).toNatClampNeg) (xs (nI i + (2 : Int32)).toNatClampNeg) (xs (nI i + (3 : Int32)).toNatClampNeg) (xs (nI i + (4 : Int32)).toNatClampNeg) (xs (nI i + (5 : Int32)).toNatClampNeg) I hI
      rw [if_pos q32, if_pos h1', if_pos h2', if_pos h3', if_pos h4', if_pos h5', e1, bnd_some, if_pos h1', if_pos h2', if_pos h3', if_pos h4', if_pos h5', e2, bnd_some, if_pos rfl]
      exact hgo K hK
    rw [if_neg q32]
    by_cases q33 : v = (33 : Int32)
    · obtain ⟨w, J, K, e1, e2, hK⟩ := p_hatsBy (xs (nI i + (1 : Int32)).toNatClampNeg) (xs (nI i + (2 : Int32)).toNatClampNeg) (xs (nI i + (3 : Int32)).toNatClampNeg) (xs (nI i + (4 : Int32)).toNatClampNeg) I hI
      rw [if_pos q33, if_pos h1', if_pos h2', if_pos h3', if_pos h4', e1, bnd_some, if_pos h1', if_pos h2', if_pos h3', if_pos h4', e2, bnd_some, if_pos rfl]
      exact hgo K hK
    rw [if_neg q33]
    by_cases q34 : v = (34 : Int32)
    · obtain ⟨w, J, K, e1, e2, hK⟩ := p_taken (xs (nI i + (1 : Int32)).toNatClampNeg) (xs (nI i + (2 : Int32)).toNatClampNeg) I hI
      rw [if_pos q34, if_pos h1', if_pos h2', e1, bnd_some, if_pos h1', if_pos h2', e2, bnd_some, if_pos rfl]
      exact hgo K hK
    rw [if_neg q34]
    exact hgo I hI
end LawGo
