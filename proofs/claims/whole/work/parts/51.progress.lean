/-! PURE 42: the parser goes on -/
section Prog
variable {tx : Nat → Nat} {tp : Nat}
theorem tkK_e : tkK (-1) = 9 := by decide
theorem tkK_b : tkK (-2) = 9 := by decide
theorem nxA_p {a : Nat} (h : a ≤ tp) (hk : tkK (tkA tx tp a) ≠ 9) : a + 1 ≤ nxA tx tp a := by
  obtain ⟨h1, h2⟩ := LXs_b (tx := tx) h
  unfold tkA LX1 at hk
  unfold nxA LX1
  by_cases hs : LXs tx tp a < tp
  · rw [if_pos hs] at hk ⊢
    by_cases hl : 97 ≤ tx (LXs tx tp a) ∧ tx (LXs tx tp a) ≤ 122
    · rw [if_pos hl]
      show a + 1 ≤ weF tx tp (tp - LXs tx tp a) (LXs tx tp a)
      obtain ⟨n, hn⟩ : ∃ n, tp - LXs tx tp a = n + 1 := ⟨tp - LXs tx tp a - 1, by omega⟩
      rw [hn, weF, if_pos ⟨hs, hl⟩]
      have := weF_b (tx := tx) (tp := tp) n (LXs tx tp a + 1) (by omega)
      omega
    · rw [if_neg hl]
      by_cases hd : 48 ≤ tx (LXs tx tp a) ∧ tx (LXs tx tp a) ≤ 57
      · rw [if_pos hd]
        show a + 1 ≤ (nuF tx tp (LXs tx tp a) (tp - LXs tx tp a) (LXs tx tp a) 0).1
        obtain ⟨n, hn⟩ : ∃ n, tp - LXs tx tp a = n + 1 := ⟨tp - LXs tx tp a - 1, by omega⟩
        rw [hn, nuF, if_pos ⟨hs, hd⟩]
        have := nuF_b (tx := tx) (tp := tp) (s := LXs tx tp a) n (LXs tx tp a + 1) (if 4 ≤ LXs tx tp a - LXs tx tp a then -2 else 0 * 10 + nI (tx (LXs tx tp a)) - 48) (by omega)
        omega
      · rw [if_neg hd]
        show a + 1 ≤ LXs tx tp a + 1
        omega
  · rw [if_neg hs] at hk
    exact absurd tkK_e hk
/-- from a with no codes to a' with c -/
def GoR (tp a : Nat) (r : Res) : Prop := ∀ a' c, r = .inr (a', c) → a + c.length ≤ a' ∧ a' ≤ tp
theorem lpR_g {kind : Nat} {R : Nat → Res} (hk : kind ≠ 9) (hR : ∀ b, b ≤ tp → GoR tp b (R b)) : ∀ (n a b : Nat) (c : List Nat), b + c.length ≤ a → a ≤ tp → GoR tp b (lpR tx tp kind R n a c)
  | 0, a, b, c, h, ht => by
    intro a' c' e
    have e' : (Sum.inr (a, c) : Res) = .inr (a', c') := e
    obtain ⟨rfl, rfl⟩ := Prod.mk.inj (Sum.inr.inj e')
    exact ⟨h, ht⟩
  | n + 1, a, b, c, h, ht => by
    intro a' c' e
    rw [lpR] at e
    by_cases q : tkK (tkA tx tp a) = kind
    · rw [if_pos q] at e
      have hp := nxA_p (tx := tx) ht (by rw [q]; exact hk)
      have hb := (nxA_b (tx := tx) ht).2.1
      cases hr : R (nxA tx tp a) with
      | inl x => rw [hr] at e; exact absurd e (by simp [thenR])
      | inr p =>
        obtain ⟨a2, c2⟩ := p
        rw [hr] at e
        obtain ⟨g1, g2⟩ := hR _ hb a2 c2 hr
        exact lpR_g hk hR n a2 b (c ++ c2 ++ [tkM (tkA tx tp a)]) (by simp only [List.length_append, List.length_cons, List.length_nil]; omega) g2 a' c' e
    · rw [if_neg q] at e
      obtain ⟨rfl, rfl⟩ := Prod.mk.inj (Sum.inr.inj e)
      exact ⟨h, ht⟩
theorem thenR_g {a : Nat} {r : Res} {f : Nat → List Nat → Res} (h : GoR tp a r) (hf : ∀ a1 c, r = .inr (a1, c) → a + c.length ≤ a1 → a1 ≤ tp → GoR tp a (f a1 c)) : GoR tp a (thenR r f) := by
  intro a' c' e
  cases hr : r with
  | inl x => rw [hr] at e; exact absurd e (by simp [thenR])
  | inr p =>
    obtain ⟨a1, c1⟩ := p
    rw [hr] at e
    obtain ⟨g1, g2⟩ := h a1 c1 hr
    exact hf a1 c1 hr g1 g2 a' c' e
theorem inr_g {a a1 : Nat} {c : List Nat} (h : a + c.length ≤ a1) (ht : a1 ≤ tp) : GoR tp a (.inr (a1, c)) := by
  intro a' c' e
  obtain ⟨rfl, rfl⟩ := Prod.mk.inj (Sum.inr.inj e)
  exact ⟨h, ht⟩
theorem inl_g {a x : Nat} : GoR tp a (.inl x) := fun a' c' e => absurd e (by simp)
theorem GoR.up {a b : Nat} {r : Res} (h : GoR tp b r) (hab : a ≤ b) : GoR tp a r := fun a' c' e => ⟨by have := (h a' c' e).1; omega, (h a' c' e).2⟩
theorem PR_g : ∀ (g w o a : Nat), a ≤ tp → GoR tp a (PR tx tp g w o a)
  | 0, w, o, a, h => inl_g
  | g + 1, w, o, a, h => by
    have hn := nxA_b (tx := tx) h
    have L : ∀ kind w', kind ≠ 9 → GoR tp a (thenR (PR tx tp g w' o a) fun a1 c => lpR tx tp kind (PR tx tp g w' o) 160 a1 c) := fun kind w' hk => thenR_g (PR_g g w' o a h) (fun a1 c _ h1 h2 => lpR_g hk (fun b hb => PR_g g w' o b hb) 160 a1 a c h1 h2)
    rw [PR]
    by_cases w0 : w = 0
    · rw [if_pos w0]; exact L 1 1 (by omega)
    rw [if_neg w0]
    by_cases w1 : w = 1
    · rw [if_pos w1]; exact L 2 2 (by omega)
    rw [if_neg w1]
    by_cases w2 : w = 2
    · rw [if_pos w2]
      by_cases q : tkK (tkA tx tp a) = 3 ∧ o < 5
      · rw [if_pos q]
        have hp := nxA_p (tx := tx) h (by rw [q.1]; omega)
        refine thenR_g ((PR_g g 2 (o + 1) _ hn.2.1).up hn.1) (fun a1 c hr _ h2 => ?_)
        have h1' := (PR_g g 2 (o + 1) _ hn.2.1 a1 c hr).1
        exact inr_g (by simp only [List.length_append, List.length_cons, List.length_nil]; omega) h2
      · rw [if_neg q]
        refine thenR_g (PR_g g 3 o a h) (fun a1 c _ h1 h2 => ?_)
        by_cases q4 : tkK (tkA tx tp a1) = 4
        · rw [if_pos q4]
          have hn1 := nxA_b (tx := tx) h2
          have hp := nxA_p (tx := tx) h2 (by rw [q4]; omega)
          refine thenR_g ((PR_g g 3 o _ hn1.2.1).up (by omega)) (fun a2 c2 hr _ h4 => ?_)
          have h3' := (PR_g g 3 o _ hn1.2.1 a2 c2 hr).1
          exact inr_g (by simp only [List.length_append, List.length_cons, List.length_nil]; omega) h4
        · rw [if_neg q4]; exact inr_g h1 h2
    rw [if_neg w2]
    by_cases w3 : w = 3
    · rw [if_pos w3]; exact L 5 4 (by omega)
    rw [if_neg w3]
    by_cases w4 : w = 4
    · rw [if_pos w4]; exact L 6 5 (by omega)
    rw [if_neg w4]
    by_cases q0 : tkK (tkA tx tp a) = 0
    · rw [if_pos q0]
      exact inr_g (nxA_p (tx := tx) h (by rw [q0]; omega)) hn.2.1
    rw [if_neg q0]
    by_cases q5 : tkA tx tp a = -19 ∧ o < 5
    · rw [if_pos q5]
      have hp := nxA_p (tx := tx) h (by rw [q5.1]; decide)
      refine thenR_g ((PR_g g 5 (o + 1) _ hn.2.1).up hn.1) (fun a1 c hr _ h2 => ?_)
      have h1' := (PR_g g 5 (o + 1) _ hn.2.1 a1 c hr).1
      exact inr_g (by simp only [List.length_append, List.length_cons, List.length_nil]; omega) h2
    rw [if_neg q5]
    by_cases q7 : tkK (tkA tx tp a) = 7 ∧ o < 5
    · rw [if_pos q7]
      refine thenR_g ((PR_g g 0 (o + 1) _ hn.2.1).up hn.1) (fun a1 c _ h1 h2 => ?_)
      by_cases q8 : tkK (tkA tx tp a1) = 8
      · rw [if_pos q8]
        have hn1 := nxA_b (tx := tx) h2
        exact inr_g (by omega) hn1.2.1
      · rw [if_neg q8]; exact inl_g
    rw [if_neg q7]
    exact inl_g
end Prog
