/-! PURE 44: the class's loops between signs -/
section RdLoop
variable {tx : Nat → Nat} {tp : Nat}
theorem tk_op {t : Int32} {kind : Nat} (h : tkK t = kind) (hk : kind = 1 ∨ kind = 2 ∨ kind = 4 ∨ kind = 5 ∨ kind = 6) : (t = -6 ∨ t = -7 ∨ t = -21 ∨ t = -22 ∨ t = -18 ∨ t = -19 ∨ t = -20) ∧ ctk (tkM t) = t := by
  have hall : t = -6 ∨ t = -7 ∨ t = -21 ∨ t = -22 ∨ t = -18 ∨ t = -19 ∨ t = -20 := by
    unfold tkK at h
    by_cases q0 : 0 ≤ t
    · rw [if_pos q0] at h; omega
    rw [if_neg q0] at h
    by_cases q1 : t = -6
    · exact Or.inl q1
    rw [if_neg q1] at h
    by_cases q2 : t = -7
    · exact Or.inr (Or.inl q2)
    rw [if_neg q2] at h
    by_cases q3 : t = -8
    · rw [if_pos q3] at h; omega
    rw [if_neg q3] at h
    by_cases q4 : t = -21
    · exact Or.inr (Or.inr (Or.inl q4))
    rw [if_neg q4] at h
    by_cases q5 : t = -22
    · exact Or.inr (Or.inr (Or.inr (Or.inl q5)))
    rw [if_neg q5] at h
    by_cases q6 : t = -18
    · exact Or.inr (Or.inr (Or.inr (Or.inr (Or.inl q6))))
    rw [if_neg q6] at h
    by_cases q7 : t = -19
    · exact Or.inr (Or.inr (Or.inr (Or.inr (Or.inr (Or.inl q7)))))
    rw [if_neg q7] at h
    by_cases q8 : t = -20
    · exact Or.inr (Or.inr (Or.inr (Or.inr (Or.inr (Or.inr q8)))))
    rw [if_neg q8] at h
    exfalso
    split at h
    · omega
    · split at h
      · omega
      · split at h
        · omega
        · split at h <;> omega
  refine ⟨hall, ?_⟩
  rcases hall with rfl | rfl | rfl | rfl | rfl | rfl | rfl <;> rfl
theorem loop_PR {τ kind w' : Nat} {o : Int32} {gR : Nat → Int32 → Mem → Option (Unit × Mem)} {F : Nat → Int32 → Mem → Option (Unit × Mem)} {R : Nat → Res} (hτ : τ < 6) (hk : kind = 1 ∨ kind = 2 ∨ kind = 4 ∨ kind = 5 ∨ kind = 6) (h1 : ∀ n x J, x < 160 → tkK (J 26 4) = kind → F (n + 1) (nI x) J = bnd (f_X1_next J) fun _ J3 => bnd (gR w' o J3) fun _ J4 => if inb (J4 26 6 - 1) 6 = true then bnd (f_X4_write (J4 26 6 - 1).toNatClampNeg (J 26 4) J4) fun _ J6 => F n (nI (x + 1)) J6 else none) (h2 : ∀ n x J, (160 ≤ x ∧ x ≤ 1000 ∨ x < 160 ∧ ¬ tkK (J 26 4) = kind) → F (n + 1) (nI x) J = some ((), J)) (hR : ∀ b, b ≤ tp → GoR tp b (R b)) (IH : ∀ b J L, SC tx tp J τ b L → ∃ K, gR w' o J = some ((), K) ∧ Out tx tp K τ L (R b) ∧ FrR τ J K) : ∀ (n x m a : Nat) (c : List Nat) (J : Mem) (L : List Nat), x + n = 160 → n < m → SC tx tp J τ a (L ++ c) → ∃ K, F m (nI x) J = some ((), K) ∧ Out tx tp K τ L (lpR tx tp kind R n a c) ∧ FrR τ J K := by
  intro n
  induction n with
  | zero =>
    intro x m a c J L hx hm h
    obtain ⟨m, rfl⟩ : ∃ m', m = m' + 1 := ⟨m - 1, by omega⟩
    exact ⟨J, h2 m x J (Or.inl (by omega)), h, FrR.rf⟩
  | succ n ih =>
    intro x m a c J L hx hm h
    obtain ⟨m, rfl⟩ : ∃ m', m = m' + 1 := ⟨m - 1, by omega⟩
    have h4 : J 26 4 = tkA tx tp a := h.1.2.1
    have ha := h.2.2.2.2.2.2
    have hl := h.2.2.2.2.2.1
    rw [lpR]
    by_cases q : tkK (tkA tx tp a) = kind
    · have hp := nxA_p (tx := tx) ha (by rw [q]; omega)
      have hn := nxA_b (tx := tx) ha
      obtain ⟨J3, e3, s3, f3⟩ := sc_next hτ h
      obtain ⟨J4, e4, o4, f4⟩ := IH _ J3 _ s3
      have ht := (tk_op q hk).2
      rw [if_pos q, h1 m x J (by omega) (by rw [h4]; exact q), e3, bnd_some, e4, bnd_some, h4]
      cases hr : R (nxA tx tp a) with
      | inl f =>
        rw [hr] at o4
        have o4' : SB J4 τ f := o4
        obtain ⟨i1, i2⟩ := in_text hτ o4'.2.2.2.1
        obtain ⟨J6, e6, s6, f6⟩ := sb_write (v := tkA tx tp a) hτ o4'
        obtain ⟨m, rfl⟩ : ∃ m', m = m' + 1 := ⟨m - 1, by omega⟩
        rw [if_pos i1, i2, e6, bnd_some, h2 m (x + 1) J6 (by
          by_cases q9 : x + 1 < 160
          · refine Or.inr ⟨q9, ?_⟩
            rw [s6.1, tkK_b]; omega
          · exact Or.inl (by omega))]
        exact ⟨J6, rfl, s6, f3.tr (f4.tr f6)⟩
      | inr p =>
        obtain ⟨a2, c2⟩ := p
        rw [hr] at o4
        have o4' : SC tx tp J4 τ a2 (L ++ c ++ c2) := o4
        obtain ⟨i1, i2⟩ := in_text hτ o4'.2.2.1
        have hg := (hR _ hn.2.1 a2 c2 hr).1
        obtain ⟨J6, e6, s6, f6⟩ := sc_write (x := tkM (tkA tx tp a)) hτ o4' (by rw [List.length_append]; omega)
        rw [ht] at e6
        rw [if_pos i1, i2, e6, bnd_some]
        have s6' : SC tx tp J6 τ a2 (L ++ (c ++ c2 ++ [tkM (tkA tx tp a)])) := by
          rw [show L ++ (c ++ c2 ++ [tkM (tkA tx tp a)]) = L ++ c ++ c2 ++ [tkM (tkA tx tp a)] by simp only [List.append_assoc]]
          exact s6
        obtain ⟨K, e, oo, f⟩ := ih (x + 1) m a2 _ J6 L (by omega) (by omega) s6'
        exact ⟨K, e, oo, f3.tr (f4.tr (f6.tr f))⟩
    · rw [if_neg q, h2 m x J (Or.inr ⟨by omega, by rw [h4]; exact q⟩)]
      exact ⟨J, rfl, h, FrR.rf⟩
end RdLoop
