/-! PURE 49: the class reads a text -/
def kwC (j : Nat) : Int32 := if j = 0 then -3 else if j = 1 then -4 else -5
section Whole
variable (tx : Nat → Nat) (tp : Nat)
/-- part j of a text, from a -/
def PT (j a : Nat) : Res := if tkA tx tp a = kwC j then thenR (PR tx tp 60 0 0 (nxA tx tp a)) fun a1 c => if tkA tx tp a1 = -17 then .inr (nxA tx tp a1, c) else .inl (LXs tx tp a1) else .inl (LXs tx tp a)
def stR (j : Nat) (r : Res) : Res := thenR r fun a c => thenR (PT tx tp j a) fun a' c' => .inr (a', c ++ c')
def PX : Res := thenR (stR tx tp 2 (stR tx tp 1 (stR tx tp 0 (.inr (0, []))))) fun a c => if tkA tx tp a = -1 then .inr (a, c) else .inl (LXs tx tp a)
end Whole
section RdTop
variable {tx : Nat → Nat} {tp : Nat}
def FrE (τ : Nat) (J K : Mem) : Prop := ∀ c, c ≠ 26 → c ≠ 30 + 3 * τ → c ≠ 30 + 3 * τ + 1 → c ≠ 30 + 3 * τ + 2 → K c = J c
theorem FrE.tr {τ : Nat} {I J K : Mem} (h : FrE τ I J) (h2 : FrE τ J K) : FrE τ I K := fun c a b d e => (h2 c a b d e).trans (h c a b d e)
theorem FrR.E {τ : Nat} {I J : Mem} (h : FrR τ I J) : FrE τ I J := fun c a b d _ => h c a b d
theorem sb_expect {J : Mem} {τ f : Nat} {a : Int32} (h : SB J τ f) (ha : ¬ a = -2) : f_X1_expect a J = some ((), J) := s1_expect_bad h.1 (by rw [h.2.1]; exact ne_m1 (by have := h.2.2.1; omega)) ha
theorem kw_b {j : Nat} : ¬ kwC j = -2 := by
  unfold kwC
  split
  · decide
  · split <;> decide
theorem SC_w {J : Mem} {τ a c' j : Nat} {v : Int32} {L : List Nat} (hc : c' = 30 + 3 * τ + 2) (hτ : τ < 6) (h : SC tx tp J τ a L) : SC tx tp (wr J c' j v) τ a L := by
  subst hc
  obtain ⟨⟨k1, k2, k3⟩, h5, h6, h3, hc, hl, ha⟩ := h
  have e : ∀ c, c ≠ 30 + 3 * τ + 2 → wr J (30 + 3 * τ + 2) j v c = J c := fun c h => wr_k _ _ _ h
  exact ⟨⟨by rw [e 26 (by omega)]; exact k1, by rw [e 26 (by omega)]; exact k2, by rw [e 26 (by omega)]; exact k3.1, by rw [e 26 (by omega)]; exact k3.2.1, by rw [e 26 (by omega)]; exact k3.2.2.1, k3.2.2.2.1, k3.2.2.2.2.1, fun k hk => by rw [e 27 (by omega)]; exact k3.2.2.2.2.2 k hk⟩, by rw [e 26 (by omega)]; exact h5, by rw [e 26 (by omega)]; exact h6, by rw [e _ (by omega)]; exact h3, fun k hk => by rw [e _ (by omega)]; exact hc k hk, hl, ha⟩
theorem SB_w {J : Mem} {τ f c' j : Nat} {v : Int32} (hc : c' = 30 + 3 * τ + 2) (hτ : τ < 6) (h : SB J τ f) : SB (wr J c' j v) τ f := by
  subst hc
  obtain ⟨h4, h5, hf, h6, z, hz, h3⟩ := h
  have e : ∀ c, c ≠ 30 + 3 * τ + 2 → wr J (30 + 3 * τ + 2) j v c = J c := fun c h => wr_k _ _ _ h
  exact ⟨by rw [e 26 (by omega)]; exact h4, by rw [e 26 (by omega)]; exact h5, hf, by rw [e 26 (by omega)]; exact h6, z, hz, by rw [e _ (by omega)]; exact h3⟩
/-- the end of a part is kept -/
theorem ep_go {J J3 : Mem} {τ j : Nat} {r : Res} {K44 : Int32 → Mem → Option (Int32 × Mem)} (hτ : τ < 6) (hj : j < 3) (ho : Out tx tp J τ [] r) (hf : FrR τ J3 J) : ∃ K, (if inb (J 26 6 - 1) 6 = true then (bnd (f_X4_endPart ((J 26 6 - 1).toNatClampNeg) (nI j) J) fun _ J14 => K44 (nI j + (1 : Int32)) J14) else none) = K44 (nI (j + 1)) K ∧ Out tx tp K τ [] r ∧ (∀ a c, r = .inr (a, c) → K (30 + 3 * τ + 2) j = nI c.length) ∧ (∀ i, i ≠ j → K (30 + 3 * τ + 2) i = J3 (30 + 3 * τ + 2) i) ∧ FrE τ J3 K := by
  have h6 : J 26 6 = nI (τ + 1) := by
    cases r with
    | inl f => exact (show SB J τ f from ho).2.2.2.1
    | inr p => exact (show SC tx tp J τ p.1 ([] ++ p.2) from ho).2.2.1
  obtain ⟨i1, i2⟩ := in_text hτ h6
  rw [if_pos i1, i2, f_X4_endPart, if_pos (inb_t (by omega) (by omega)), lt1_eq, bnd_some, nI_1, cl_nI (by omega)]
  refine ⟨_, rfl, ?_, ?_, fun i hi => by rw [wr_j _ _ _ hi, hf _ (by omega) (by omega) (by omega)], fun c c1 c2 c3 c4 => by rw [wr_k _ _ _ c4, hf c c1 c2 c3]⟩
  · cases r with
    | inl f => exact SB_w rfl hτ (show SB J τ f from ho)
    | inr p => exact SC_w rfl hτ (show SC tx tp J τ p.1 ([] ++ p.2) from ho)
  · intro a c e
    subst e
    have h3 : J (30 + 3 * τ) 3 = nI ([] ++ c).length := (show SC tx tp J τ a ([] ++ c) from ho).2.2.2.1
    rw [wr_s, h3]
    rfl
theorem cl_part {J : Mem} {τ t3 j : Nat} {a2 : Int32} {r : Res} {K44 : Int32 → Mem → Option (Int32 × Mem)} (hτ : τ < 6) (hj : j < 3) (ho : Out tx tp J τ [] r) : ∃ K, f_X1_read_b74 a2 t3 K44 (nI j) (kwC j) J = K44 (nI (j + 1)) K ∧ Out tx tp K τ [] (stR tx tp j r) ∧ (∀ a c, stR tx tp j r = .inr (a, c) → K (30 + 3 * τ + 2) j = nI c.length) ∧ (∀ i, i ≠ j → K (30 + 3 * τ + 2) i = J (30 + 3 * τ + 2) i) ∧ FrE τ J K := by
  have bad : ∀ (J3 : Mem) (f : Nat) (s0 : Int32), ¬ s0 = -2 → SB J3 τ f → FrR τ J J3 → f_X1_read_b74 a2 t3 K44 (nI j) s0 J3 = _ := fun J3 f s0 hs hb hf => by
    rw [f_X1_read_b74, sb_expect hb hs, bnd_some, show (0 : Int32) = nI 0 from rfl, rd_bad' (g := 60) hb (by omega) (by omega), bnd_some, sb_expect hb (by decide), bnd_some]
  cases r with
  | inl f =>
    have hb : SB J τ f := ho
    rw [bad J f (kwC j) kw_b hb FrR.rf]
    exact ep_go (r := .inl f) hτ hj hb FrR.rf
  | inr p =>
    obtain ⟨a, c0⟩ := p
    have hs : SC tx tp J τ a c0 := ho
    have h4 : J 26 4 = tkA tx tp a := hs.1.2.1
    show ∃ K, f_X1_read_b74 a2 t3 K44 (nI j) (kwC j) J = K44 (nI (j + 1)) K ∧ Out tx tp K τ [] (thenR (PT tx tp j a) fun a' c' => .inr (a', c0 ++ c')) ∧ (∀ a1 c1, (thenR (PT tx tp j a) fun a' c' => .inr (a', c0 ++ c')) = .inr (a1, c1) → K (30 + 3 * τ + 2) j = nI c1.length) ∧ _
    rw [PT]
    by_cases q : tkA tx tp a = kwC j
    · obtain ⟨J3, e3, s3, f3⟩ := sc_next hτ hs
      obtain ⟨J4, e4, o4, f4⟩ := rd_PR 60 0 0 (nxA tx tp a) τ J3 c0 (by omega) (by omega) (by omega) hτ s3
      rw [if_pos q, f_X1_read_b74, f_X1_expect, h4, if_pos q, e3, bnd_some, bnd_some, show (0 : Int32) = nI 0 from rfl, e4, bnd_some]
      cases hr : PR tx tp 60 0 0 (nxA tx tp a) with
      | inl f =>
        rw [hr] at o4
        have o4' : SB J4 τ f := o4
        rw [sb_expect o4' (by decide), bnd_some]
        exact ep_go (r := .inl f) hτ hj o4' (f3.tr f4)
      | inr p2 =>
        obtain ⟨a1, c1⟩ := p2
        rw [hr] at o4
        have o4' : SC tx tp J4 τ a1 (c0 ++ c1) := o4
        have h44 : J4 26 4 = tkA tx tp a1 := o4'.1.2.1
        rw [f_X1_expect, h44]
        show ∃ K, _ ∧ Out tx tp K τ [] (thenR (if tkA tx tp a1 = -17 then .inr (nxA tx tp a1, c1) else .inl (LXs tx tp a1)) fun a' c' => .inr (a', c0 ++ c')) ∧ (∀ a2 c2, (thenR (if tkA tx tp a1 = -17 then .inr (nxA tx tp a1, c1) else .inl (LXs tx tp a1)) fun a' c' => .inr (a', c0 ++ c')) = .inr (a2, c2) → K (30 + 3 * τ + 2) j = nI c2.length) ∧ _
        by_cases q2 : tkA tx tp a1 = -17
        · obtain ⟨J5, e5, s5, f5⟩ := sc_next hτ o4'
          rw [if_pos q2, if_pos q2, e5, bnd_some, bnd_some]
          exact ep_go (r := .inr (nxA tx tp a1, c0 ++ c1)) hτ hj s5 (f3.tr (f4.tr f5))
        · obtain ⟨J5, e5, s5, f5⟩ := sc_refuse hτ o4'
          rw [if_neg q2, if_neg q2, e5, bnd_some, bnd_some]
          exact ep_go (r := .inl (LXs tx tp a1)) hτ hj s5 (f3.tr (f4.tr f5))
    · obtain ⟨J3, e3, s3, f3⟩ := sc_refuse hτ hs
      rw [if_neg q, f_X1_read_b74, f_X1_expect, h4, if_neg q, e3, bnd_some, bnd_some, show (0 : Int32) = nI 0 from rfl, rd_bad' (g := 60) s3 (by omega) (by omega), bnd_some, sb_expect s3 (by decide), bnd_some]
      exact ep_go (r := .inl (LXs tx tp a)) hτ hj s3 f3
def vR (r : Res) : Int32 := match r with
  | .inl f => nI f
  | .inr _ => -1
theorem cl_end {J : Mem} {τ t3 n : Nat} {a2 : Int32} {r : Res} (hτ : τ < 6) (ho : Out tx tp J τ [] r) : ∃ K, f_X1_read_b44 a2 t3 (n + 1) (nI 3) J = some (vR (thenR r fun a c => if tkA tx tp a = -1 then .inr (a, c) else .inl (LXs tx tp a)), K) ∧ Out tx tp K τ [] (thenR r fun a c => if tkA tx tp a = -1 then .inr (a, c) else .inl (LXs tx tp a)) ∧ FrR τ J K := by
  rw [f_X1_read_b44, if_pos (by decide)]
  cases r with
  | inl f =>
    have hb : SB J τ f := ho
    rw [hb.1, if_neg (by decide), s1_refuse hb.1 (by rw [hb.2.1]; exact ne_m1 (by have := hb.2.2.1; omega)), bnd_some, f_X1_read_b115, hb.2.1]
    exact ⟨J, rfl, hb, FrR.rf⟩
  | inr p =>
    obtain ⟨a, c⟩ := p
    have hs : SC tx tp J τ a c := ho
    rw [show J 26 4 = tkA tx tp a from hs.1.2.1]
    show ∃ K, _ = some (vR (if tkA tx tp a = -1 then .inr (a, c) else .inl (LXs tx tp a)), K) ∧ Out tx tp K τ [] (if tkA tx tp a = -1 then .inr (a, c) else .inl (LXs tx tp a)) ∧ FrR τ J K
    by_cases q : tkA tx tp a = -1
    · rw [if_pos q, if_pos q, f_X1_read_b115, hs.2.1]
      exact ⟨J, rfl, hs, FrR.rf⟩
    · obtain ⟨K, e, s, f⟩ := sc_refuse hτ hs
      rw [if_neg q, if_neg q, e, bnd_some, f_X1_read_b115, s.2.1]
      exact ⟨K, rfl, s, f⟩
/-- a text out of the codes of its parts -/
def mkB (c1 c2 c3 : List Nat) : Bk := (fun k => (c1 ++ c2 ++ c3).getD k 0, fun j => if j = 0 then 0 else if j = 1 then c1.length else if j = 2 then (c1 ++ c2).length else (c1 ++ c2 ++ c3).length)
theorem px_inr {a : Nat} {c : List Nat} (h : PX tx tp = .inr (a, c)) : ∃ a1 c1 a2 c2 c3, PT tx tp 0 0 = .inr (a1, c1) ∧ PT tx tp 1 a1 = .inr (a2, c2) ∧ PT tx tp 2 a2 = .inr (a, c3) ∧ tkA tx tp a = -1 ∧ c = c1 ++ c2 ++ c3 := by
  rw [PX] at h
  unfold stR at h
  have h0 : (thenR (thenR (thenR (PT tx tp 0 0) fun a' c' => .inr (a', [] ++ c')) fun a c => thenR (PT tx tp 1 a) fun a' c' => .inr (a', c ++ c')) fun a c => thenR (PT tx tp 2 a) fun a' c' => .inr (a', c ++ c')) |> fun r => thenR r (fun a c => if tkA tx tp a = -1 then .inr (a, c) else .inl (LXs tx tp a)) = (.inr (a, c) : Res) := h
  cases h1 : PT tx tp 0 0 with
  | inl f => rw [h1] at h0; exact absurd h0 (by simp [thenR])
  | inr p1 =>
    obtain ⟨a1, c1⟩ := p1
    cases h2 : PT tx tp 1 a1 with
    | inl f => rw [h1] at h0; simp only [thenR, h2] at h0; exact absurd h0 (by simp)
    | inr p2 =>
      obtain ⟨a2, c2⟩ := p2
      cases h3 : PT tx tp 2 a2 with
      | inl f => rw [h1] at h0; simp only [thenR, h2, h3] at h0; exact absurd h0 (by simp)
      | inr p3 =>
        obtain ⟨a3, c3⟩ := p3
        rw [h1] at h0
        simp only [thenR, h2, h3] at h0
        by_cases q : tkA tx tp a3 = -1
        · rw [if_pos q] at h0
          obtain ⟨rfl, rfl⟩ := Prod.mk.inj (Sum.inr.inj h0)
          exact ⟨a1, c1, a2, c2, c3, rfl, h2, h3, q, by rw [List.nil_append]⟩
        · rw [if_neg q] at h0
          exact absurd h0 (by simp)
theorem px_st {a1 a2 a3 : Nat} {c1 c2 c3 : List Nat} (h1 : PT tx tp 0 0 = .inr (a1, c1)) (h2 : PT tx tp 1 a1 = .inr (a2, c2)) (h3 : PT tx tp 2 a2 = .inr (a3, c3)) : stR tx tp 0 (.inr (0, [])) = .inr (a1, c1) ∧ stR tx tp 1 (stR tx tp 0 (.inr (0, []))) = .inr (a2, c1 ++ c2) ∧ stR tx tp 2 (stR tx tp 1 (stR tx tp 0 (.inr (0, [])))) = .inr (a3, c1 ++ c2 ++ c3) := by
  have e1 : stR tx tp 0 (.inr (0, [])) = .inr (a1, c1) := by
    show thenR (PT tx tp 0 0) (fun a' c' => .inr (a', [] ++ c')) = _
    rw [h1]; rfl
  have e2 : stR tx tp 1 (stR tx tp 0 (.inr (0, []))) = .inr (a2, c1 ++ c2) := by
    rw [e1]
    show thenR (PT tx tp 1 a1) (fun a' c' => .inr (a', c1 ++ c')) = _
    rw [h2]; rfl
  refine ⟨e1, e2, ?_⟩
  rw [e2]
  show thenR (PT tx tp 2 a2) (fun a' c' => .inr (a', c1 ++ c2 ++ c')) = _
  rw [h3]; rfl
theorem cl_read {I : Mem} {τ : Nat} (hτ : τ < 6) (ht : tp ≤ 160) (hb : ∀ k, k < tp → I 27 k = nI (tx k) ∧ tx k < 256) : ∃ K, f_X1_read (nI tp) τ I = some (vR (PX tx tp), K) ∧ FrE τ I K ∧ (∀ f, PX tx tp = .inl f → f ≤ 160) ∧ ∀ a1 c1 a2 c2 a3 c3, PT tx tp 0 0 = .inr (a1, c1) → PT tx tp 1 a1 = .inr (a2, c2) → PT tx tp 2 a2 = .inr (a3, c3) → tkA tx tp a3 = -1 → BC K τ (mkB c1 c2 c3) ∧ (c1 ++ c2 ++ c3).length ≤ 160 := by
  rw [f_X1_read, lt1_eq, lt1_eq, lt1_eq, lt1_eq, lt1_eq, if_neg (show ¬ (160 : Int32) < nI tp from fun hh => by have := (nI_lt' (a := 160) (by omega) (by omega)).mp hh; omega)]
  generalize hJ : wr (wr (wr (wr (wr I 26 0 1) 26 1 (nI tp)) 26 2 0) 26 5 (-1)) 26 6 (nI (τ + 1)) = J5
  have g : ∀ c, c ≠ 26 → J5 c = I c := fun c hc => by rw [← hJ, wr_k _ _ _ hc, wr_k _ _ _ hc, wr_k _ _ _ hc, wr_k _ _ _ hc, wr_k _ _ _ hc]
  have g0 : J5 26 0 = 1 := by rw [← hJ, wr_j _ _ _ (by omega), wr_j _ _ _ (by omega), wr_j _ _ _ (by omega), wr_j _ _ _ (by omega), wr_s]
  have g1 : J5 26 1 = nI tp := by rw [← hJ, wr_j _ _ _ (by omega), wr_j _ _ _ (by omega), wr_j _ _ _ (by omega), wr_s]
  have g2 : J5 26 2 = nI 0 := by rw [← hJ, wr_j _ _ _ (by omega), wr_j _ _ _ (by omega), wr_s]; rfl
  have g5 : J5 26 5 = -1 := by rw [← hJ, wr_j _ _ _ (by omega), wr_s]
  have g6 : J5 26 6 = nI (τ + 1) := by rw [← hJ, wr_s]
  obtain ⟨i1, i2⟩ := in_text hτ g6
  rw [if_pos i1, i2, f_X4_clear, lt1_eq, bnd_some]
  have k : ∀ c, c ≠ 30 + 3 * τ → wr J5 (30 + 3 * τ) 3 0 c = J5 c := fun c hc => wr_k _ _ _ hc
  obtain ⟨J8, e8, t8, f8, f8'⟩ := s1_next (tx := tx) (tp := tp) (J := wr J5 (30 + 3 * τ) 3 0) (a := 0) ⟨by rw [k 26 (by omega)]; exact g0, by rw [k 26 (by omega)]; exact g1, by rw [k 26 (by omega)]; exact g2, by omega, ht, fun i hi => by rw [k 27 (by omega), g 27 (by omega)]; exact hb i hi⟩
  have o8 : Out tx tp J8 τ [] (.inr (0, [])) := (show SC tx tp J8 τ 0 [] from ⟨t8, by rw [f8 5 (by omega) (by omega) (by omega), k 26 (by omega)]; exact g5, by rw [f8 6 (by omega) (by omega) (by omega), k 26 (by omega)]; exact g6, by rw [f8' _ (by omega), wr_s]; rfl, fun i hi => absurd hi (by simp), by simp, by omega⟩)
  have fI : FrE τ I J8 := fun c c1 c2 c3 c4 => by rw [f8' c c1, k c c2, g c c1]
  rw [e8, bnd_some, show FU = 4092 + 1 + 1 + 1 + 1 from rfl, show (0 : Int32) = nI 0 from rfl]
  obtain ⟨K0, e0, o0, l0, r0, f0⟩ := cl_part (t3 := τ) (a2 := nI tp) (K44 := f_X1_read_b44 (nI tp) τ (4092 + 1 + 1 + 1)) hτ (show 0 < 3 by omega) o8
  rw [f_X1_read_b44, if_neg (by decide), if_pos (by rfl), show (-3 : Int32) = kwC 0 from rfl, e0]
  obtain ⟨K1, e1, o1, l1, r1, f1⟩ := cl_part (t3 := τ) (a2 := nI tp) (K44 := f_X1_read_b44 (nI tp) τ (4092 + 1 + 1)) hτ (show 1 < 3 by omega) o0
  rw [f_X1_read_b44, if_neg (by decide), if_neg (by decide), if_pos (by rfl), show (-4 : Int32) = kwC 1 from rfl, e1]
  obtain ⟨K2, e2, o2, l2, r2, f2⟩ := cl_part (t3 := τ) (a2 := nI tp) (K44 := f_X1_read_b44 (nI tp) τ (4092 + 1)) hτ (show 2 < 3 by omega) o1
  rw [f_X1_read_b44, if_neg (by decide), if_neg (by decide), if_neg (by decide), show (-5 : Int32) = kwC 2 from rfl, e2]
  obtain ⟨K, e, o, f⟩ := cl_end (t3 := τ) (a2 := nI tp) (n := 4092) hτ o2
  refine ⟨K, e, fI.tr (f0.tr (f1.tr (f2.tr f.E))), ?_, ?_⟩
  · intro x hx
    have o' : Out tx tp K τ [] (PX tx tp) := o
    rw [hx] at o'
    exact (show SB K τ x from o').2.2.1
  · intro a1 c1 a2 c2 a3 c3 h1 h2 h3 h4
    obtain ⟨s1, s2, s3⟩ := px_st h1 h2 h3
    have hx : PX tx tp = .inr (a3, c1 ++ c2 ++ c3) := by
      rw [PX, s3]
      show (if tkA tx tp a3 = -1 then _ else _) = _
      rw [if_pos h4]
    have o' : Out tx tp K τ [] (PX tx tp) := o
    rw [hx] at o'
    have hs : SC tx tp K τ a3 (c1 ++ c2 ++ c3) := o'
    have hlen : (c1 ++ c2 ++ c3).length ≤ 160 := by
      have q1 := hs.2.2.2.2.2.1
      have q2 := hs.2.2.2.2.2.2
      omega
    refine ⟨⟨fun i hi => hs.2.2.2.2.1 i hi, fun j hj => ?_⟩, hlen⟩
    have fr : ∀ i, K (30 + 3 * τ + 2) i = K2 (30 + 3 * τ + 2) i := fun i => by rw [f _ (by omega) (by omega) (by omega)]
    rcases (show j = 0 ∨ j = 1 ∨ j = 2 by omega) with rfl | rfl | rfl
    · rw [fr, r2 0 (by omega), r1 0 (by omega), l0 a1 c1 s1]; rfl
    · rw [fr, r2 1 (by omega), l1 a2 _ s2]; rfl
    · rw [fr, l2 a3 _ s3]; rfl
end RdTop
