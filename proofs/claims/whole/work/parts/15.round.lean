/-! PURE 6: a round -/
def setf (S : RS) (f p : Nat) (v : Int32) : RS := (fun f' p' => if f' = f ∧ p' = p then v else S.1 f' p', S.2)
theorem setf_s (S : RS) (f p : Nat) (v : Int32) : (setf S f p v).1 f p = v := by simp [setf]
theorem setf_n (S : RS) {f p f' p' : Nat} (v : Int32) (h : ¬ (f' = f ∧ p' = p)) : (setf S f p v).1 f' p' = S.1 f' p' := by simp [setf, h]
theorem CR_set {I : Mem} {ρ f p : Nat} {S : RS} {v : Int32} (h : CR I ρ S) (hf : f < 6) : CR (wr I (2 + 8 * ρ + (f + 1)) p v) ρ (setf S f p v) := by
  obtain ⟨h1, h2, h3, h4, h5⟩ := h
  refine ⟨by rw [wr_k _ _ _ (by omega)]; exact h1, by rw [wr_k _ _ _ (by omega)]; exact h2, by rw [wr_k _ _ _ (by omega)]; exact h3, fun q hq => ?_, fun a b ha hb => by rw [wr_k _ _ _ (by omega), setf_n _ _ (by omega)]; exact h5 a b ha hb⟩
  obtain ⟨a0, a1, a2, a3, a4, a5⟩ := h4 q hq
  by_cases hq : q = p
  · subst hq
    rcases (show f = 0 ∨ f = 1 ∨ f = 2 ∨ f = 3 ∨ f = 4 ∨ f = 5 by omega) with rfl | rfl | rfl | rfl | rfl | rfl <;> simp [wr_get, setf, a0, a1, a2, a3, a4, a5]
  · rcases (show f = 0 ∨ f = 1 ∨ f = 2 ∨ f = 3 ∨ f = 4 ∨ f = 5 by omega) with rfl | rfl | rfl | rfl | rfl | rfl <;> simp [wr_get, setf, a0, a1, a2, a3, a4, a5, hq]
theorem CR_tal {I : Mem} {ρ p q : Nat} {S : RS} {v : Int32} (h : CR I ρ S) (hN : S.2.1 ≤ 6) (hp : p < S.2.1) (hq : q < S.2.1) : CR (wr I (2 + 8 * ρ + 7) (p * 6 + q) v) ρ (setf S (6 + q) p v) := by
  obtain ⟨h1, h2, h3, h4, h5⟩ := h
  refine ⟨by rw [wr_k _ _ _ (by omega)]; exact h1, by rw [wr_k _ _ _ (by omega)]; exact h2, by rw [wr_k _ _ _ (by omega)]; exact h3, fun q hq => ?_, fun a b ha hb => ?_⟩
  · rw [wr_k _ _ _ (by omega), wr_k _ _ _ (by omega), wr_k _ _ _ (by omega), wr_k _ _ _ (by omega), wr_k _ _ _ (by omega), wr_k _ _ _ (by omega), setf_n _ _ (by omega), setf_n _ _ (by omega), setf_n _ _ (by omega), setf_n _ _ (by omega), setf_n _ _ (by omega), setf_n _ _ (by omega)]
    exact h4 q hq
  · by_cases he : a = p ∧ b = q
    · obtain ⟨rfl, rfl⟩ := he
      rw [wr_s, setf_s]
    · have ha' : a < S.2.1 := ha
      have hb' : b < S.2.1 := hb
      rw [wr_j _ _ _ (by omega), setf_n _ _ (by omega)]
      exact h5 a b ha hb
theorem MR_set {I : Mem} {j p : Nat} {S : RS} {v : Int32} (h : MR I S) (hj : j < 4) : MR (wr I 59 (4 * p + j) v) (setf S (2 + j) p v) := by
  obtain ⟨h1, h2, h3, h4, h5⟩ := h
  refine ⟨by rw [wr_k _ _ _ (by omega)]; exact h1, by rw [wr_k _ _ _ (by omega)]; exact h2, by rw [wr_k _ _ _ (by omega)]; exact h3, fun q hq => ?_, fun a b ha hb => by rw [wr_k _ _ _ (by omega), setf_n _ _ (by omega)]; exact h5 a b ha hb⟩
  obtain ⟨a0, a1, a2, a3, a4, a5⟩ := h4 q hq
  have g : ∀ i, i < 4 → wr I 59 (4 * p + j) v 59 (4 * q + i) = if 2 + i = 2 + j ∧ q = p then v else I 59 (4 * q + i) := by
    intro i hi
    by_cases he : 2 + i = 2 + j ∧ q = p
    · rw [if_pos he, show 4 * q + i = 4 * p + j by omega, wr_s]
    · rw [if_neg he, wr_j _ _ _ (by omega)]
  refine ⟨by rw [wr_k _ _ _ (by omega), setf_n _ _ (by omega)]; exact a0, by rw [wr_k _ _ _ (by omega), setf_n _ _ (by omega)]; exact a1, ?_, ?_, ?_, ?_⟩
  · have := g 0 (by omega); rw [Nat.add_zero] at this; rw [this, a2]; rfl
  · rw [g 1 (by omega), a3]; rfl
  · rw [g 2 (by omega), a4]; rfl
  · rw [g 3 (by omega), a5]; rfl
theorem MR_tal {I : Mem} {p q : Nat} {S : RS} {v : Int32} (h : MR I S) (hN : S.2.1 ≤ 6) (hp : p < S.2.1) (hq : q < S.2.1) : MR (wr I 60 (6 * p + q) v) (setf S (6 + q) p v) := by
  obtain ⟨h1, h2, h3, h4, h5⟩ := h
  refine ⟨by rw [wr_k _ _ _ (by omega)]; exact h1, by rw [wr_k _ _ _ (by omega)]; exact h2, by rw [wr_k _ _ _ (by omega)]; exact h3, fun q hq => ?_, fun a b ha hb => ?_⟩
  · rw [wr_k _ _ _ (by omega), wr_k _ _ _ (by omega), wr_k _ _ _ (by omega), setf_n _ _ (by omega), setf_n _ _ (by omega), setf_n _ _ (by omega), setf_n _ _ (by omega), setf_n _ _ (by omega), setf_n _ _ (by omega)]
    exact h4 q hq
  · by_cases he : a = p ∧ b = q
    · obtain ⟨rfl, rfl⟩ := he
      rw [wr_s, setf_s]
    · have ha' : a < S.2.1 := ha
      have hb' : b < S.2.1 := hb
      rw [wr_j _ _ _ (by omega), setf_n _ _ (by omega)]
      exact h5 a b ha hb
def GB (f : Nat) (v : Int32) : Prop := 0 ≤ v.toInt ∧ v.toInt ≤ (if f = 0 then 5 else if f = 1 then 9 else if f = 2 then 63 else 99)
theorem GS_set {S : RS} {f p : Nat} {v : Int32} (h : GS S) (hb : GB f v) : GS (setf S f p v) := by
  obtain ⟨h1, h2, h3, h4, h5, h6⟩ := h
  have g : ∀ f' p', (setf S f p v).1 f' p' = if f' = f ∧ p' = p then v else S.1 f' p' := fun _ _ => rfl
  have ok : ∀ f' p' (M : Int), (0 ≤ (S.1 f' p').toInt ∧ (S.1 f' p').toInt ≤ M) → M = (if f' = 0 then 5 else if f' = 1 then 9 else if f' = 2 then 63 else 99) → 0 ≤ ((setf S f p v).1 f' p').toInt ∧ ((setf S f p v).1 f' p').toInt ≤ M := by
    intro f' p' M hM hE
    rw [g]
    by_cases he : f' = f ∧ p' = p
    · rw [if_pos he, hE, he.1]
      exact hb
    · rw [if_neg he]
      exact hM
  refine ⟨h1, h2, h3, h4, fun q hq => ?_, fun a b ha hb => ok _ _ 99 (h6 a b ha hb) (by rw [if_neg (by omega), if_neg (by omega), if_neg (by omega)])⟩
  obtain ⟨a0, a1, a2, a3, a4, a5⟩ := h5 q hq
  exact ⟨ok 0 q 5 a0 rfl, ok 1 q 9 a1 rfl, ok 2 q 63 a2 rfl, ok 3 q 99 a3 rfl, ok 4 q 99 a4 rfl, ok 5 q 99 a5 rfl⟩
def sub0 (f b : Int32) : Int32 := if 0 < f - b then f - b else 0
def inc (x : Int32) : Int32 := if x + 1 < 99 then x + 1 else 99
theorem c99_b (x : Int32) : 0 ≤ (c99 x).toInt ∧ (c99 x).toInt ≤ 99 := by
  have e99 : (99 : Int32).toInt = 99 := rfl
  have e0 : (0 : Int32).toInt = 0 := rfl
  unfold c99
  by_cases h1 : x < 99
  · rw [if_pos h1]
    have g1 := (i_lt _ _).mp h1
    by_cases h2 : 0 < x
    · rw [if_pos h2]; have g2 := (i_lt _ _).mp h2; omega
    · rw [if_neg h2]; omega
  · rw [if_neg h1, if_pos (by decide)]; omega
theorem sub0_b {f b : Int32} (hf : 0 ≤ f.toInt ∧ f.toInt ≤ 99) (hb : 0 ≤ b.toInt ∧ b.toInt ≤ 99) : (0 ≤ (sub0 f b).toInt ∧ (sub0 f b).toInt ≤ 99) ∧ c99 (f - b) = sub0 f b := by
  have e99 : (99 : Int32).toInt = 99 := rfl
  have e0 : (0 : Int32).toInt = 0 := rfl
  have ed : (f - b).toInt = f.toInt - b.toInt := ti_sub (by omega) (by omega)
  have hd : ∀ d : Int32, d.toInt = f.toInt - b.toInt → (0 ≤ (if 0 < d then d else 0).toInt ∧ (if 0 < d then d else 0).toInt ≤ 99) ∧ c99 d = (if 0 < d then d else 0) := by
    intro d hd
    by_cases h2 : 0 < d
    · have g2 := (i_lt _ _).mp h2
      rw [if_pos h2]
      refine ⟨by omega, ?_⟩
      unfold c99
      by_cases h1 : d < 99
      · rw [if_pos h1, if_pos h2]
      · have g1 : ¬ d.toInt < 99 := fun h => h1 ((i_lt _ _).mpr (by omega))
        rw [if_neg h1, if_pos (by decide), i_eq]; omega
    · have g2 : ¬ 0 < d.toInt := fun h => h2 ((i_lt _ _).mpr (by omega))
      rw [if_neg h2]
      refine ⟨by omega, ?_⟩
      unfold c99
      rw [if_pos ((i_lt _ _).mpr (by omega) : d < 99), if_neg h2]
  exact hd _ ed
theorem inc_b {x : Int32} (h : 0 ≤ x.toInt ∧ x.toInt ≤ 99) : (0 ≤ (inc x).toInt ∧ (inc x).toInt ≤ 99) ∧ c99 (x + 1) = inc x := by
  have e99 : (99 : Int32).toInt = 99 := rfl
  have e1 : (1 : Int32).toInt = 1 := rfl
  have ed : (x + 1).toInt = x.toInt + 1 := by rw [ti_add] <;> rw [e1] <;> omega
  have hd : ∀ d : Int32, d.toInt = x.toInt + 1 → (0 ≤ (if d < 99 then d else 99).toInt ∧ (if d < 99 then d else 99).toInt ≤ 99) ∧ c99 d = (if d < 99 then d else 99) := by
    intro d hd
    by_cases h1 : d < 99
    · have g1 := (i_lt _ _).mp h1
      rw [if_pos h1]
      refine ⟨by omega, ?_⟩
      unfold c99
      rw [if_pos h1, if_pos ((i_lt _ _).mpr (by show (0 : Int32).toInt < _; rw [show (0 : Int32).toInt = 0 from rfl]; omega))]
    · rw [if_neg h1]
      refine ⟨by omega, ?_⟩
      unfold c99
      rw [if_neg h1, if_pos (by decide)]
  exact hd _ ed
/-- one hits the other -/
def lS1 (B : Bk) (S : RS) (p q : Nat) : RS := setf S 3 q (sub0 (S.1 3 q) (blowS B S p q))
def lS2 (B : Bk) (S : RS) (p q : Nat) : RS := setf (lS1 B S p q) 5 q (inc ((lS1 B S p q).1 5 q))
def lS3 (B : Bk) (S : RS) (p q : Nat) : RS := setf (lS2 B S p q) (6 + q) p (inc ((lS2 B S p q).1 (6 + q) p))
def landS (B : Bk) (S : RS) (p q : Nat) : RS := setf (lS3 B S p q) 4 p (inc ((lS3 B S p q).1 4 p))
theorem landS_G {B : Bk} {S : RS} {p q : Nat} (h : GS S) (hp : p < S.2.1) (hq : q < S.2.1) : GS (lS1 B S p q) ∧ GS (lS2 B S p q) ∧ GS (lS3 B S p q) ∧ GS (landS B S p q) := by
  have g1 : GS (lS1 B S p q) := GS_set h (sub0_b (h.2.2.2.2.1 q hq).2.2.2.1 (c99_b _)).1
  have g2 : GS (lS2 B S p q) := GS_set g1 (inc_b (g1.2.2.2.2.1 q hq).2.2.2.2.2).1
  have g3 : GS (lS3 B S p q) := GS_set g2 (by have := (inc_b (g2.2.2.2.2.2 p q hp hq)).1; exact ⟨this.1, by rw [if_neg (by omega), if_neg (by omega), if_neg (by omega)]; exact this.2⟩)
  exact ⟨g1, g2, g3, GS_set g3 (inc_b (g3.2.2.2.2.1 p hp).2.2.2.2.1).1⟩
/-- a step -/
def stepV (x y : Int32) : Int32 := if y / 8 - x / 8 = 0 then (if (y - y / 8 * 8) - (x - x / 8 * 8) ≤ 0 then x + -1 else x + 1) else (if y / 8 - x / 8 ≤ 0 then x + -8 else x + 8)
def stepS (S : RS) (p q : Nat) : RS := setf S 2 p (stepV (S.1 2 p) (S.1 2 q))
def pstep (B : Bk) (p : Nat) (z : RS × Int32) : RS × Int32 := if z.1.1 3 p ≤ 0 then z else if goesS B z.1 p = 0 then z else if nearS z.1 p = -1 then z else if farS (z.1.1 2 p) (z.1.1 2 (nearS z.1 p).toNatClampNeg) ≤ 1 then (landS B z.1 p (nearS z.1 p).toNatClampNeg, z.2 ||| (if (landS B z.1 p (nearS z.1 p).toNatClampNeg).1 3 (nearS z.1 p).toNatClampNeg = 0 then 1 <<< (nI (nearS z.1 p).toNatClampNeg &&& 31) else 0)) else (stepS z.1 p (nearS z.1 p).toNatClampNeg, z.2)
def rndL (B : Bk) (S : RS) : RS × Int32 := lp (pstep B) S.2.1 0 (S, 0)
def rndS (B : Bk) (S : RS) : RS := ((rndL B S).1.1, (rndL B S).1.2.1, (rndL B S).1.2.2.1 + 1, (rndL B S).1.2.2.2)
def rndF (B : Bk) (S : RS) : Int32 := (rndL B S).2
theorem stepV_b {x y : Int32} (hx : 0 ≤ x.toInt ∧ x.toInt ≤ 63) (hy : 0 ≤ y.toInt ∧ y.toInt ≤ 63) (hf : ¬ farS x y ≤ 1) : 0 ≤ (stepV x y).toInt ∧ (stepV x y).toInt ≤ 63 := by
  have a1 := ti_m8 hx.1 hx.2
  have a2 := ti_m8 hy.1 hy.2
  have b1 := ti_div8 hx.1 hx.2
  have b2 := ti_div8 hy.1 hy.2
  have c1 : ((x - x / 8 * 8) - (y - y / 8 * 8)).toInt = x.toInt % 8 - y.toInt % 8 := by rw [ti_sub] <;> omega
  have c2 : (x / 8 - y / 8).toInt = x.toInt / 8 - y.toInt / 8 := by rw [ti_sub] <;> omega
  have c3 : ((y - y / 8 * 8) - (x - x / 8 * 8)).toInt = y.toInt % 8 - x.toInt % 8 := by rw [ti_sub] <;> omega
  have c4 : (y / 8 - x / 8).toInt = y.toInt / 8 - x.toInt / 8 := by rw [ti_sub] <;> omega
  have d1 := ti_abs (d := (x - x / 8 * 8) - (y - y / 8 * 8)) (by omega) (by omega)
  have d2 := ti_abs (d := x / 8 - y / 8) (by omega) (by omega)
  have hf' : ¬ (farS x y).toInt ≤ 1 := fun h => hf ((i_le _ _).mpr (by rw [show (1 : Int32).toInt = 1 from rfl]; exact h))
  unfold farS at hf'
  rw [ti_add (by rw [d1, d2]; split <;> split <;> omega) (by rw [d1, d2]; split <;> split <;> omega), d1, d2, c1, c2] at hf'
  have e0 : (0 : Int32).toInt = 0 := rfl
  have p1 : ∀ v : Int32, ∀ k : Int, v.toInt = k → -8 ≤ k → k ≤ 8 → (x + v).toInt = x.toInt + k := by
    intro v k h1 h2 h3
    rw [ti_add] <;> rw [h1] <;> omega
  unfold stepV
  by_cases h1 : y / 8 - x / 8 = 0
  · have g1 := (i_eq _ _).mp h1
    rw [c4, e0] at g1
    rw [if_pos h1]
    by_cases h2 : (y - y / 8 * 8) - (x - x / 8 * 8) ≤ 0
    · have g2 := (i_le _ _).mp h2
      rw [c3, e0] at g2
      rw [if_pos h2, p1 (-1) (-1) rfl (by omega) (by omega)]
      split at hf' <;> split at hf' <;> omega
    · have g2 : ¬ y.toInt % 8 - x.toInt % 8 ≤ 0 := fun h => h2 ((i_le _ _).mpr (by rw [c3, e0]; exact h))
      rw [if_neg h2, p1 1 1 rfl (by omega) (by omega)]
      split at hf' <;> split at hf' <;> omega
  · have g1 : ¬ y.toInt / 8 - x.toInt / 8 = 0 := fun h => h1 ((i_eq _ _).mpr (by rw [c4, e0]; exact h))
    rw [if_neg h1]
    by_cases h2 : y / 8 - x / 8 ≤ 0
    · have g2 := (i_le _ _).mp h2
      rw [c4, e0] at g2
      rw [if_pos h2, p1 (-8) (-8) rfl (by omega) (by omega)]
      omega
    · have g2 : ¬ y.toInt / 8 - x.toInt / 8 ≤ 0 := fun h => h2 ((i_le _ _).mpr (by rw [c4, e0]; exact h))
      rw [if_neg h2, p1 8 8 rfl (by omega) (by omega)]
      omega
theorem pstep_G {B : Bk} {S : RS} {p : Nat} {fl : Int32} (h : GS S) (hp : p < S.2.1) : GS (pstep B p (S, fl)).1 ∧ (pstep B p (S, fl)).1.2 = S.2 := by
  unfold pstep
  by_cases h1 : S.1 3 p ≤ 0
  · rw [if_pos h1]; exact ⟨h, rfl⟩
  · rw [if_neg h1]
    by_cases h2 : goesS B S p = 0
    · rw [if_pos h2]; exact ⟨h, rfl⟩
    · rw [if_neg h2]
      rcases near_or (S := S) (p := p) with hq | ⟨q, hqN, hqp, hu, hq⟩
      · rw [if_pos hq]; exact ⟨h, rfl⟩
      · have hne : ¬ nearS S p = -1 := by
          rw [hq]
          intro hh
          have h' := (i_eq _ _).mp hh
          rw [ti_nI (by have := h.1; omega), show (-1 : Int32).toInt = -1 from rfl] at h'
          omega
        have hcl : (nearS S p).toNatClampNeg = q := by rw [hq]; exact cl_nI (by have := h.1; omega)
        dsimp only
        rw [if_neg hne, hcl]
        by_cases h3 : farS (S.1 2 p) (S.1 2 q) ≤ 1
        · rw [if_pos h3]; exact ⟨(landS_G h hp hqN).2.2.2, rfl⟩
        · rw [if_neg h3]; exact ⟨GS_set h (stepV_b (h.2.2.2.2.1 p hp).2.2.1 (h.2.2.2.2.1 q hqN).2.2.1 h3), rfl⟩
