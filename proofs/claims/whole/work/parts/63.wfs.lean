/-! PURE 54: what the parser gives can be said -/
def wfs : List Nat → Nat → Nat → Prop
  | [], d, e => d = e
  | x :: c, d, e => if 100000 ≤ x then x < 110000 ∧ wfs c (d + 1) e else if x < 6 then wfs c (d + 1) e else if x = 13 ∨ x = 19 then 1 ≤ d ∧ wfs c d e else (11 ≤ x ∧ x ≤ 18) ∧ 2 ≤ d ∧ wfs c (d - 1) e
section Wfs
theorem wfs_app : ∀ (c c' : List Nat) (d e f : Nat), wfs c d e → wfs c' e f → wfs (c ++ c') d f
  | [], c', d, e, f, h, h' => by
    have hde : d = e := h
    rw [hde]
    exact h'
  | x :: c, c', d, e, f, h, h' => by
    rw [wfs] at h
    show wfs (x :: (c ++ c')) d f
    rw [wfs]
    by_cases q1 : 100000 ≤ x
    · rw [if_pos q1] at h ⊢
      exact ⟨h.1, wfs_app c c' _ e f h.2 h'⟩
    · rw [if_neg q1] at h ⊢
      by_cases q2 : x < 6
      · rw [if_pos q2] at h ⊢
        exact wfs_app c c' _ e f h h'
      · rw [if_neg q2] at h ⊢
        by_cases q3 : x = 13 ∨ x = 19
        · rw [if_pos q3] at h ⊢
          exact ⟨h.1, wfs_app c c' _ e f h.2 h'⟩
        · rw [if_neg q3] at h ⊢
          exact ⟨h.1, h.2.1, wfs_app c c' _ e f h.2.2 h'⟩
theorem w_two {s d : Nat} (h : 11 ≤ s ∧ s ≤ 18 ∧ s ≠ 13) : wfs [s] (d + 2) (d + 1) := by
  rw [wfs, if_neg (by omega), if_neg (by omega), if_neg (by omega)]
  exact ⟨by omega, by omega, by show d + 2 - 1 = d + 1; omega⟩
theorem w_one {s d : Nat} (h : s = 13 ∨ s = 19) : wfs [s] (d + 1) (d + 1) := by
  rw [wfs, if_neg (by omega), if_neg (by omega), if_pos h]
  exact ⟨by omega, rfl⟩
theorem w_opd {s d : Nat} (h : s < 6 ∨ (100000 ≤ s ∧ s < 110000)) : wfs [s] d (d + 1) := by
  rw [wfs]
  by_cases q : 100000 ≤ s
  · rw [if_pos q]
    exact ⟨by omega, rfl⟩
  · rw [if_neg q, if_pos (by omega)]
    rfl
theorem tk_opv {t : Int32} {kind : Nat} (h : tkK t = kind) (hk : kind = 1 ∨ kind = 2 ∨ kind = 4 ∨ kind = 5 ∨ kind = 6) : 11 ≤ tkM t ∧ tkM t ≤ 18 ∧ tkM t ≠ 13 := by
  rcases (tk_op h hk).1 with rfl | rfl | rfl | rfl | rfl | rfl | rfl <;> decide
variable {tx : Nat → Nat} {tp : Nat}
theorem op_v {J : Mem} {a : Nat} (h : RdM tx tp J a) (hk : tkK (tkA tx tp a) = 0) : tkM (tkA tx tp a) < 6 ∨ (100000 ≤ tkM (tkA tx tp a) ∧ tkM (tkA tx tp a) < 110000) := by
  obtain ⟨K, -, ⟨-, -, t⟩, -⟩ := s7_next h
  have t' : tkR (tkA tx tp a) (K 56 21) (K 56 22) := t
  rcases t' with ⟨e, -⟩ | ⟨e, -⟩ | ⟨w, hw, e, -⟩ | ⟨j, hj, e, -⟩ | ⟨b, hb, e, -⟩
  · rw [e] at hk; exact absurd hk (by decide)
  · rw [e] at hk; exact absurd hk (by decide)
  · have hp : (0 : Int32) ≤ nI w := (nI_le' (a := 0) (by omega) (by omega)).mpr (by omega)
    rw [e, tkM, if_pos hp, cl_nI (by omega)]
    exact Or.inr (by omega)
  · rw [e] at hk ⊢
    refine Or.inl ?_
    revert hk
    have hall : ∀ j : Fin 12, tkK (0 - nI (2 + pm j.1)) = 0 → tkM (0 - nI (2 + pm j.1)) < 6 := by decide
    exact hall ⟨j, hj⟩
  · rw [e] at hk
    exfalso
    revert hk
    rcases hb with rfl | rfl | rfl | rfl | rfl | rfl | rfl | rfl <;> decide
/-- pushes one -/
def WR (r : Res) : Prop := ∀ a c, r = .inr (a, c) → ∀ d, wfs c d (d + 1)
theorem WR_inr {a : Nat} {c : List Nat} (h : ∀ d, wfs c d (d + 1)) : WR (.inr (a, c)) := by
  intro a' c' e
  obtain ⟨rfl, rfl⟩ := Prod.mk.inj (Sum.inr.inj e)
  exact h
theorem WR_inl {f : Nat} : WR (.inl f) := fun a c e => absurd e (by simp)
theorem WR_then {r : Res} {f : Nat → List Nat → Res} (h : ∀ a c, r = .inr (a, c) → WR (f a c)) : WR (thenR r f) := by
  cases hr : r with
  | inl x => exact WR_inl
  | inr p => exact h p.1 p.2 hr
theorem lpR_w {kind : Nat} {R : Nat → Res} (hk : kind = 1 ∨ kind = 2 ∨ kind = 4 ∨ kind = 5 ∨ kind = 6) (hR : ∀ b, b ≤ tp → WR (R b)) (hG : ∀ b, b ≤ tp → GoR tp b (R b)) : ∀ (n a : Nat) (c : List Nat), a ≤ tp → (∀ d, wfs c d (d + 1)) → WR (lpR tx tp kind R n a c)
  | 0, a, c, ha, h => WR_inr h
  | n + 1, a, c, ha, h => by
    rw [lpR]
    by_cases q : tkK (tkA tx tp a) = kind
    · rw [if_pos q]
      have hb := nxA_b (tx := tx) ha
      refine WR_then (fun a2 c2 hr => ?_)
      refine lpR_w hk hR hG n a2 _ (hG _ hb.2.1 a2 c2 hr).2 (fun d => ?_)
      exact wfs_app _ _ d (d + 2) _ (wfs_app _ _ d (d + 1) _ (h d) (hR _ hb.2.1 a2 c2 hr (d + 1))) (w_two (tk_opv q hk))
    · rw [if_neg q]
      exact WR_inr h
theorem PR_w (V : ∀ a, a ≤ tp → tkK (tkA tx tp a) = 0 → tkM (tkA tx tp a) < 6 ∨ (100000 ≤ tkM (tkA tx tp a) ∧ tkM (tkA tx tp a) < 110000)) : ∀ (g w o a : Nat), a ≤ tp → WR (PR tx tp g w o a)
  | 0, w, o, a, h => WR_inl
  | g + 1, w, o, a, h => by
    have hn := nxA_b (tx := tx) h
    have L : ∀ kind w', (kind = 1 ∨ kind = 2 ∨ kind = 4 ∨ kind = 5 ∨ kind = 6) → WR (thenR (PR tx tp g w' o a) fun a1 c => lpR tx tp kind (PR tx tp g w' o) 160 a1 c) := fun kind w' hk => WR_then (fun a1 c hr => lpR_w hk (fun b hb => PR_w V g w' o b hb) (fun b hb => PR_g g w' o b hb) 160 a1 c (PR_g g w' o a h a1 c hr).2 (PR_w V g w' o a h a1 c hr))
    rw [PR]
    by_cases w0 : w = 0
    · rw [if_pos w0]; exact L 1 1 (by omega)
    rw [if_neg w0]
    by_cases w1 : w = 1
    · rw [if_pos w1]; exact L 2 2 (by omega)
    rw [if_neg w1]
    by_cases w2 : w = 2
    · rw [if_pos w2]
      by_cases q : tkK (tkA tx tp a) = 3 ∧ o < 5
      · rw [if_pos q]
        exact WR_then (fun a1 c hr => WR_inr (fun d => wfs_app _ _ d (d + 1) _ (PR_w V g 2 (o + 1) _ hn.2.1 a1 c hr d) (w_one (Or.inl rfl))))
      · rw [if_neg q]
        refine WR_then (fun a1 c hr => ?_)
        have h1 := PR_w V g 3 o a h a1 c hr
        by_cases q4 : tkK (tkA tx tp a1) = 4
        · rw [if_pos q4]
          have hn1 := nxA_b (tx := tx) (PR_g g 3 o a h a1 c hr).2
          exact WR_then (fun a2 c2 hr2 => WR_inr (fun d => wfs_app _ _ d (d + 2) _ (wfs_app _ _ d (d + 1) _ (h1 d) (PR_w V g 3 o _ hn1.2.1 a2 c2 hr2 (d + 1))) (w_two (tk_opv q4 (by omega)))))
        · rw [if_neg q4]
          exact WR_inr h1
    rw [if_neg w2]
    by_cases w3 : w = 3
    · rw [if_pos w3]; exact L 5 4 (by omega)
    rw [if_neg w3]
    by_cases w4 : w = 4
    · rw [if_pos w4]; exact L 6 5 (by omega)
    rw [if_neg w4]
    by_cases q0 : tkK (tkA tx tp a) = 0
    · rw [if_pos q0]
      exact WR_inr (fun d => w_opd (V a h q0))
    rw [if_neg q0]
    by_cases q5 : tkA tx tp a = -19 ∧ o < 5
    · rw [if_pos q5]
      exact WR_then (fun a1 c hr => WR_inr (fun d => wfs_app _ _ d (d + 1) _ (PR_w V g 5 (o + 1) _ hn.2.1 a1 c hr d) (w_one (Or.inr rfl))))
    rw [if_neg q5]
    by_cases q7 : tkK (tkA tx tp a) = 7 ∧ o < 5
    · rw [if_pos q7]
      refine WR_then (fun a1 c hr => ?_)
      by_cases q8 : tkK (tkA tx tp a1) = 8
      · rw [if_pos q8]
        exact WR_inr (PR_w V g 0 (o + 1) _ hn.2.1 a1 c hr)
      · rw [if_neg q8]
        exact WR_inl
    rw [if_neg q7]
    exact WR_inl
theorem wf_of : ∀ (cs : List Nat) (f : Nat → Nat) (i d : Nat), (∀ k, k < cs.length → f (i + k) = cs.getD k 0) → wfs cs d 1 → d ≤ i → i + cs.length ≤ 160 → wf f cs.length i d
  | [], f, i, d, hf, h, hd, hl => h
  | x :: cs, f, i, d, hf, h, hd, hl => by
    have hx : f i = x := hf 0 (by simp)
    have hl' : i + (cs.length + 1) ≤ 160 := hl
    have hf' : ∀ k, k < cs.length → f (i + 1 + k) = cs.getD k 0 := fun k hk => by
      have e : f (i + (k + 1)) = (x :: cs).getD (k + 1) 0 := hf (k + 1) (by show k + 1 < cs.length + 1; omega)
      rw [show i + 1 + k = i + (k + 1) by omega, e]
      rfl
    rw [wfs] at h
    show wf f (cs.length + 1) i d
    rw [wf, hx]
    by_cases q1 : 100000 ≤ x
    · rw [if_pos q1] at h ⊢
      exact ⟨h.1, by omega, wf_of cs f (i + 1) (d + 1) hf' h.2 (by omega) (by omega)⟩
    · rw [if_neg q1] at h ⊢
      by_cases q2 : x < 6
      · rw [if_pos q2] at h ⊢
        exact ⟨by omega, wf_of cs f (i + 1) (d + 1) hf' h (by omega) (by omega)⟩
      · rw [if_neg q2] at h ⊢
        by_cases q3 : x = 13 ∨ x = 19
        · rw [if_pos q3] at h ⊢
          exact ⟨h.1, wf_of cs f (i + 1) d hf' h.2 (by omega) (by omega)⟩
        · rw [if_neg q3] at h ⊢
          exact ⟨h.1, h.2.1, wf_of cs f (i + 1) (d - 1) hf' h.2.2 (by omega) (by omega)⟩
theorem gd_r (A B : List Nat) (k : Nat) : (A ++ B).getD (A.length + k) 0 = B.getD k 0 := by rw [List.getD_eq_getElem?_getD, List.getElem?_append_right (by omega), show A.length + k - A.length = k by omega, ← List.getD_eq_getElem?_getD]
theorem gd_l {A B : List Nat} {k : Nat} (h : k < A.length) : (A ++ B).getD k 0 = A.getD k 0 := by rw [List.getD_eq_getElem?_getD, List.getElem?_append_left h, ← List.getD_eq_getElem?_getD]
theorem BOK_mk {c1 c2 c3 : List Nat} (h1 : wfs c1 0 1) (h2 : wfs c2 0 1) (h3 : wfs c3 0 1) (hl : (c1 ++ c2 ++ c3).length ≤ 160) : BOK (mkB c1 c2 c3) := by
  have hl' := hl
  rw [List.length_append, List.length_append] at hl'
  refine ⟨rfl, hl, fun j hj => ?_⟩
  rcases (show j = 0 ∨ j = 1 ∨ j = 2 by omega) with rfl | rfl | rfl
  · refine ⟨Nat.zero_le _, ?_⟩
    show wf (fun k => (c1 ++ c2 ++ c3).getD k 0) (c1.length - 0) 0 0
    rw [Nat.sub_zero]
    refine wf_of c1 _ 0 0 (fun k hk => ?_) h1 (by omega) (by omega)
    show (c1 ++ c2 ++ c3).getD (0 + k) 0 = _
    rw [Nat.zero_add, List.append_assoc, gd_l hk]
  · refine ⟨by show c1.length ≤ (c1 ++ c2).length; rw [List.length_append]; omega, ?_⟩
    show wf (fun k => (c1 ++ c2 ++ c3).getD k 0) ((c1 ++ c2).length - c1.length) c1.length 0
    rw [show (c1 ++ c2).length - c1.length = c2.length by rw [List.length_append]; omega]
    refine wf_of c2 _ c1.length 0 (fun k hk => ?_) h2 (by omega) (by omega)
    show (c1 ++ c2 ++ c3).getD (c1.length + k) 0 = _
    rw [List.append_assoc, gd_r, gd_l hk]
  · refine ⟨by show (c1 ++ c2).length ≤ (c1 ++ c2 ++ c3).length; rw [List.length_append (as := c1 ++ c2)]; omega, ?_⟩
    show wf (fun k => (c1 ++ c2 ++ c3).getD k 0) ((c1 ++ c2 ++ c3).length - (c1 ++ c2).length) (c1 ++ c2).length 0
    rw [show (c1 ++ c2 ++ c3).length - (c1 ++ c2).length = c3.length by rw [List.length_append (as := c1 ++ c2)]; omega]
    refine wf_of c3 _ (c1 ++ c2).length 0 (fun k hk => ?_) h3 (by omega) (by rw [List.length_append]; omega)
    show (c1 ++ c2 ++ c3).getD ((c1 ++ c2).length + k) 0 = _
    rw [gd_r]
end Wfs
