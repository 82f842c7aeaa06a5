/-! PURE 5: goes, hits, soft, a blow, the nearest; class and model -/
def goS (k more round so : Int32) : Int32 := if k = 2 then (if so = 0 then (if round - round / 3 * 3 = more - more / 3 * 3 then 1 else 0) else 1) else if k = 3 then (if so = 0 then 0 else if round < more then 0 else 1) else if k = 4 then (if so = 0 then (if round - round / 3 * 3 = more - more / 3 * 3 then 1 else 0) else 1) else if k = 5 then 0 else so
def hitS (k more k2 round v : Int32) : Int32 := if k = 1 then v + more else if k = 2 then (if k2 = 1 then 2 * v else v) else if k = 3 then (if round - round / 2 * 2 = 0 then v + more else 1) else if k = 4 then (if k2 = 5 then 0 else (if k2 = 1 then 2 * v else v) + 1) else v
def sofS (k more v : Int32) : Int32 := if k = 1 then v - more else if k = 2 then v else if k = 3 then v - more else if k = 4 then v + more else if k = 5 then 3 * v + more else v
def b01 (x : Int32) : Int32 := if x = 0 then 0 else 1
def goesS (B : Bk) (S : RS) (p : Nat) : Int32 := goS (S.1 0 p) (S.1 1 p) S.2.2.1 (b01 (sayS B S 0 p))
def hitsS (B : Bk) (S : RS) (p q : Nat) : Int32 := hitS (S.1 0 p) (S.1 1 p) (S.1 0 q) S.2.2.1 (sayS B S 1 p)
def softS (B : Bk) (S : RS) (p : Nat) : Int32 := sofS (S.1 0 p) (S.1 1 p) (sayS B S 2 p)
def c99 (x : Int32) : Int32 := if 0 < (if x < 99 then x else 99) then (if x < 99 then x else 99) else 0
def blowS (B : Bk) (S : RS) (p q : Nat) : Int32 := c99 (hitsS B S p q - softS B S q)
theorem b01_or (x : Int32) : b01 x = 0 ∨ b01 x = 1 := by unfold b01; split; exact Or.inl rfl; exact Or.inr rfl
theorem goS_or {k more round so : Int32} (h : so = 0 ∨ so = 1) : goS k more round so = 0 ∨ goS k more round so = 1 := by
  unfold goS
  (repeat' split) <;> first | exact h | exact Or.inl rfl | exact Or.inr rfl
theorem s0_goes {k more round so : Int32} {I : Mem} (h : so = 0 ∨ so = 1) : f_X0_goes k more round so I = some (goS k more round so, I) := by
  unfold f_X0_goes goS f_X0_goes_b45
  by_cases h2 : k = 2
  · rw [if_pos h2, if_pos h2]; (repeat' split) <;> rfl
  · rw [if_neg h2, if_neg h2]
    by_cases h3 : k = 3
    · rw [if_pos h3, if_pos h3]; (repeat' split) <;> rfl
    · rw [if_neg h3, if_neg h3]
      by_cases h4 : k = 4
      · rw [if_pos h4, if_pos h4]; (repeat' split) <;> rfl
      · rw [if_neg h4, if_neg h4]
        by_cases h5 : k = 5
        · rw [if_pos h5, if_pos h5]
        · rw [if_neg h5, if_neg h5, z01 h]
theorem s0_hits {k more k2 round v : Int32} {I : Mem} : f_X0_hits k more k2 round v I = some (hitS k more k2 round v, I) := by
  unfold f_X0_hits hitS f_X0_hits_b14
  by_cases h : k2 = 1
  · simp only [h, if_true]; (repeat' split) <;> rfl
  · simp only [h, if_false]; (repeat' split) <;> rfl
theorem s0_soft {k more v : Int32} {I : Mem} : f_X0_soft k more v I = some (sofS k more v, I) := by
  unfold f_X0_soft sofS
  (repeat' split) <;> rfl
section ClassSide
variable {ρ p q : Nat} {B : Bk} {S : RS} {I : Mem}
theorem s2_goes (hρ : ρ < 3) (hg : GS S) (hp : p < S.2.1) (hO : BOK B) (hB : BC I S.2.2.2 B) (hC : CR I ρ S) : ∃ J, f_X2_goes ρ (nI p) I = some (goesS B S p, J) ∧ ∀ c, c ≠ 29 → J c = I c := by
  have hN := hg.1
  have hl := hg.2.1
  obtain ⟨J, e, ho⟩ := s4_says (part := 0) hl hρ hg hp (by omega) hO hB hC
  refine ⟨J, ?_, ho⟩
  have h4 := hC.2.2.2.1 p hp
  have e' : f_X4_says S.2.2.2 (0 : Int32) ρ (nI p) I = some (sayS B S 0 p, J) := e
  rw [f_X2_goes, if_pos (inb_t (by omega) (by omega)), if_pos (inb_t (by omega) (by omega)), hC.2.2.1, lt1_eq, if_pos (inb_t (by omega) (by omega)), cl_nI (by omega), cl_nI (by omega), e', bnd_some, hC.2.1, h4.1, h4.2.1]
  by_cases h0 : sayS B S 0 p = 0
  · rw [if_pos h0, f_X2_goes_b39, s0_goes (Or.inl rfl), bnd_some, z01 (goS_or (Or.inl rfl)), goesS, b01, if_pos h0]
  · rw [if_neg h0, f_X2_goes_b39, s0_goes (Or.inr rfl), bnd_some, z01 (goS_or (Or.inr rfl)), goesS, b01, if_neg h0]
theorem s2_hits (hρ : ρ < 3) (hg : GS S) (hp : p < S.2.1) (hq : q < S.2.1) (hO : BOK B) (hB : BC I S.2.2.2 B) (hC : CR I ρ S) : ∃ J, f_X2_hits ρ (nI p) (nI q) I = some (hitsS B S p q, J) ∧ ∀ c, c ≠ 29 → J c = I c := by
  have hN := hg.1
  have hl := hg.2.1
  obtain ⟨J, e, ho⟩ := s4_says (part := 1) hl hρ hg hp (by omega) hO hB hC
  refine ⟨J, ?_, ho⟩
  have h4 := hC.2.2.2.1 p hp
  have h5 := hC.2.2.2.1 q hq
  have e' : f_X4_says S.2.2.2 (1 : Int32) ρ (nI p) I = some (sayS B S 1 p, J) := e
  rw [f_X2_hits, if_pos (inb_t (by omega) (by omega)), if_pos (inb_t (by omega) (by omega)), if_pos (inb_t (by omega) (by omega)), hC.2.2.1, lt1_eq, if_pos (inb_t (by omega) (by omega)), cl_nI (by omega), cl_nI (by omega), cl_nI (by omega), e', bnd_some, hC.2.1, h4.1, h4.2.1, h5.1, s0_hits, bnd_some]
  rfl
theorem s2_soft (hρ : ρ < 3) (hg : GS S) (hp : p < S.2.1) (hO : BOK B) (hB : BC I S.2.2.2 B) (hC : CR I ρ S) : ∃ J, f_X2_soft ρ (nI p) I = some (softS B S p, J) ∧ ∀ c, c ≠ 29 → J c = I c := by
  have hN := hg.1
  have hl := hg.2.1
  obtain ⟨J, e, ho⟩ := s4_says (part := 2) hl hρ hg hp (by omega) hO hB hC
  refine ⟨J, ?_, ho⟩
  have h4 := hC.2.2.2.1 p hp
  have e' : f_X4_says S.2.2.2 (2 : Int32) ρ (nI p) I = some (sayS B S 2 p, J) := e
  rw [f_X2_soft, if_pos (inb_t (by omega) (by omega)), if_pos (inb_t (by omega) (by omega)), hC.2.2.1, lt1_eq, if_pos (inb_t (by omega) (by omega)), cl_nI (by omega), cl_nI (by omega), e', bnd_some, h4.1, h4.2.1, s0_soft, bnd_some]
  rfl
theorem s2_blow (x y : Int32) : f_X2_blow x y I = some (c99 (x - y), I) := rfl
/-- the nearest, by least and best -/
def nearL (S : RS) (p : Nat) : Int32 × Int32 := lp (fun q b => if q = p then b else if S.1 3 q ≤ 0 then b else if b.1 ≤ farS (S.1 2 p) (S.1 2 q) then b else (farS (S.1 2 p) (S.1 2 q), nI q)) S.2.1 0 (64, -1)
def nearS (S : RS) (p : Nat) : Int32 := (nearL S p).2
theorem s2_nearest (hg : GS S) (hp : p < S.2.1) (hC : CR I ρ S) : f_X2_nearest ρ (nI p) I = some (nearS S p, I) := by
  have hN := hg.1
  have key : ∀ (k n q : Nat) (b : Int32 × Int32), q + k = S.2.1 → k < n → f_X2_nearest_b8 ρ (nI p) n (nI q) b.1 b.2 I = some ((lp (fun q b => if q = p then b else if S.1 3 q ≤ 0 then b else if b.1 ≤ farS (S.1 2 p) (S.1 2 q) then b else (farS (S.1 2 p) (S.1 2 q), nI q)) k q b).2, I) := by
    intro k
    induction k with
    | zero =>
      intro n q b hq hn
      obtain ⟨n, rfl⟩ : ∃ m, n = m + 1 := ⟨n - 1, by omega⟩
      rw [f_X2_nearest_b8, hC.1, if_pos ((nI_le' (by omega) (by omega)).mpr (by omega))]
      rfl
    | succ k ih =>
      intro n q b hq hn
      obtain ⟨n, rfl⟩ : ∃ m, n = m + 1 := ⟨n - 1, by omega⟩
      have hqN : q < S.2.1 := by omega
      rw [f_X2_nearest_b8, hC.1, if_neg (by rw [nI_le' (by omega) (by omega)]; omega), lp, nI_1]
      by_cases h1 : q = p
      · rw [if_pos ((nI_eq' (by omega) (by omega)).mpr h1), if_pos h1, ih n (q + 1) b (by omega) (by omega)]
      · rw [if_neg (fun h => h1 ((nI_eq' (by omega) (by omega)).mp h)), if_neg h1, if_pos (inb_t (by omega) (by omega)), cl_nI (by omega), (hC.2.2.2.1 q hqN).2.2.2.1]
        by_cases h2 : S.1 3 q ≤ 0
        · rw [if_pos h2, if_pos h2, ih n (q + 1) b (by omega) (by omega)]
        · rw [if_neg h2, if_neg h2, s2_far (by omega) (by omega), bnd_some, (hC.2.2.2.1 p hp).2.2.1, (hC.2.2.2.1 q hqN).2.2.1]
          by_cases h3 : b.1 ≤ farS (S.1 2 p) (S.1 2 q)
          · rw [if_pos h3, if_pos h3, ih n (q + 1) b (by omega) (by omega)]
          · rw [if_neg h3, if_neg h3, s2_far (by omega) (by omega), bnd_some, (hC.2.2.2.1 p hp).2.2.1, (hC.2.2.2.1 q hqN).2.2.1]
            exact ih n (q + 1) (farS (S.1 2 p) (S.1 2 q), nI q) (by omega) (by omega)
  exact key S.2.1 FU 0 (64, -1) (by omega) (by show _ < 4096; omega)
end ClassSide
theorem near_or {S : RS} {p : Nat} : nearS S p = -1 ∨ ∃ q, q < S.2.1 ∧ q ≠ p ∧ ¬ S.1 3 q ≤ 0 ∧ nearS S p = nI q := by
  have key : ∀ (k q : Nat) (b : Int32 × Int32), q + k = S.2.1 → (b.2 = -1 ∨ ∃ j, j < S.2.1 ∧ j ≠ p ∧ ¬ S.1 3 j ≤ 0 ∧ b.2 = nI j) → ((lp (fun q b => if q = p then b else if S.1 3 q ≤ 0 then b else if b.1 ≤ farS (S.1 2 p) (S.1 2 q) then b else (farS (S.1 2 p) (S.1 2 q), nI q)) k q b).2 = -1 ∨ ∃ j, j < S.2.1 ∧ j ≠ p ∧ ¬ S.1 3 j ≤ 0 ∧ (lp (fun q b => if q = p then b else if S.1 3 q ≤ 0 then b else if b.1 ≤ farS (S.1 2 p) (S.1 2 q) then b else (farS (S.1 2 p) (S.1 2 q), nI q)) k q b).2 = nI j) := by
    intro k
    induction k with
    | zero => intro q b _ h; exact h
    | succ k ih =>
      intro q b hq h
      rw [lp]
      apply ih (q + 1) _ (by omega)
      by_cases h1 : q = p
      · rw [if_pos h1]; exact h
      · rw [if_neg h1]
        by_cases h2 : S.1 3 q ≤ 0
        · rw [if_pos h2]; exact h
        · rw [if_neg h2]
          by_cases h3 : b.1 ≤ farS (S.1 2 p) (S.1 2 q)
          · rw [if_pos h3]; exact h
          · rw [if_neg h3]; exact Or.inr ⟨q, by omega, h1, h2, rfl⟩
  exact key S.2.1 0 (64, -1) (by omega) (Or.inl rfl)
section ModelSide
variable {p q : Nat} {B : Bk} {S : RS} {I : Mem}
theorem MR_off {J : Mem} (h : MR I S) (ho : ∀ c, c ≠ 72 → c ≠ 73 → J c = I c) : MR J S := by
  obtain ⟨h1, h2, h3, h4, h5⟩ := h
  refine ⟨by rw [ho _ (by omega) (by omega)]; exact h1, by rw [ho _ (by omega) (by omega)]; exact h2, by rw [ho _ (by omega) (by omega)]; exact h3, fun p hp => ?_, fun p q hp hq => by rw [ho _ (by omega) (by omega)]; exact h5 p q hp hq⟩
  rw [ho _ (by omega) (by omega), ho _ (by omega) (by omega), ho _ (by omega) (by omega)]
  exact h4 p hp
theorem s7_goes (hg : GS S) (hp : p < S.2.1) (hO : BOK B) (hB : BM I S.2.2.2 B) (hM : MR I S) : ∃ J, f_X7_goes (nI p) I = some (goesS B S p, J) ∧ ∀ c, c ≠ 72 → c ≠ 73 → J c = I c := by
  have hN := hg.1
  have h4 := hM.2.2.2.1 p hp
  by_cases h5 : S.1 0 p = 5
  · refine ⟨I, ?_, fun _ _ _ => rfl⟩
    rw [f_X7_goes, if_pos (inb_t (by omega) (by omega)), cl_nI (by omega), h4.1, if_pos h5, goesS, goS, h5]
    rfl
  · obtain ⟨J, e, ho⟩ := s7_asksOf (part := 0) hg hM rfl hp (by omega) hO hB
    refine ⟨J, ?_, ho⟩
    have e' : f_X7_asksOf (0 : Int32) (nI p) I = some (sayS B S 0 p, J) := e
    have hM' := MR_off hM ho
    have h4' := hM'.2.2.2.1 p hp
    have hb : ∀ so : Int32, so = 0 ∨ so = 1 → f_X7_goes_b26 (nI p) so J = some (goS (S.1 0 p) (S.1 1 p) S.2.2.1 so, J) := by
      intro so hso
      rw [f_X7_goes_b26, if_pos (inb_t (by omega) (by omega)), cl_nI (by omega), h4'.1, lt1_eq, h4'.2.1, hM'.2.1]
      unfold f_X7_goes_b81 goS
      by_cases k2 : S.1 0 p = 2
      · rw [if_pos k2, if_pos k2, if_pos (inb_t (by omega) (by omega))]; (repeat' split) <;> rfl
      · rw [if_neg k2, if_neg k2]
        by_cases k3 : S.1 0 p = 3
        · rw [if_pos k3, if_pos k3, if_pos (inb_t (by omega) (by omega))]; (repeat' split) <;> rfl
        · rw [if_neg k3, if_neg k3]
          by_cases k4 : S.1 0 p = 4
          · rw [if_pos k4, if_pos k4, if_pos (inb_t (by omega) (by omega))]; (repeat' split) <;> rfl
          · rw [if_neg k4, if_neg k4, if_neg h5, z01 hso]
    rw [f_X7_goes, if_pos (inb_t (by omega) (by omega)), cl_nI (by omega), h4.1, if_neg h5, e', bnd_some]
    by_cases h0 : sayS B S 0 p = 0
    · rw [if_pos h0, hb 0 (Or.inl rfl), goesS, b01, if_pos h0]
    · rw [if_neg h0, hb 1 (Or.inr rfl), goesS, b01, if_neg h0]
theorem s7_hits (hg : GS S) (hp : p < S.2.1) (hq : q < S.2.1) (hO : BOK B) (hB : BM I S.2.2.2 B) (hM : MR I S) : ∃ J, f_X7_hitsOf (nI p) (nI q) I = some (hitsS B S p q, J) ∧ ∀ c, c ≠ 72 → c ≠ 73 → J c = I c := by
  have hN := hg.1
  obtain ⟨J, e, ho⟩ := s7_asksOf (part := 1) hg hM rfl hp (by omega) hO hB
  refine ⟨J, ?_, ho⟩
  have e' : f_X7_asksOf (1 : Int32) (nI p) I = some (sayS B S 1 p, J) := e
  have hM' := MR_off hM ho
  have h4 := hM'.2.2.2.1 p hp
  have h5 := hM'.2.2.2.1 q hq
  have hb : ∀ v w : Int32, f_X7_hitsOf_b24 (nI p) (nI q) v w J = some (if S.1 0 p = 1 then v + S.1 1 p else if S.1 0 p = 2 then w else if S.1 0 p = 3 then (if S.2.2.1 - S.2.2.1 / 2 * 2 = 0 then v + S.1 1 p else 1) else if S.1 0 p = 4 then (if S.1 0 q = 5 then 0 else w + 1) else v, J) := by
    intro v w
    rw [f_X7_hitsOf_b24, if_pos (inb_t (by omega) (by omega)), if_pos (inb_t (by omega) (by omega)), if_pos (inb_t (by omega) (by omega)), cl_nI (by omega), cl_nI (by omega), h4.1, h4.2.1, h5.1, lt1_eq, hM'.2.1]
    (repeat' split) <;> rfl
  rw [f_X7_hitsOf, e', bnd_some, if_pos (inb_t (by omega) (by omega)), cl_nI (by omega), h5.1]
  by_cases h1 : S.1 0 q = 1
  · rw [if_pos h1, hb, hitsS, hitS]
    simp only [h1, if_true]
  · rw [if_neg h1, hb, hitsS, hitS]
    simp only [h1, if_false]
theorem s7_soft (hg : GS S) (hp : p < S.2.1) (hO : BOK B) (hB : BM I S.2.2.2 B) (hM : MR I S) : ∃ J, f_X7_softOf (nI p) I = some (softS B S p, J) ∧ ∀ c, c ≠ 72 → c ≠ 73 → J c = I c := by
  have hN := hg.1
  obtain ⟨J, e, ho⟩ := s7_asksOf (part := 2) hg hM rfl hp (by omega) hO hB
  refine ⟨J, ?_, ho⟩
  have e' : f_X7_asksOf (2 : Int32) (nI p) I = some (sayS B S 2 p, J) := e
  have hM' := MR_off hM ho
  have h4 := hM'.2.2.2.1 p hp
  rw [f_X7_softOf, e', bnd_some]
  simp (disch := omega) only [inb_t, if_true, cl_nI, h4.1, h4.2.1, lt1_eq, softS, sofS]
  (repeat' split) <;> rfl
theorem s7_blow (hg : GS S) (hp : p < S.2.1) (hq : q < S.2.1) (hO : BOK B) (hB : BM I S.2.2.2 B) (hM : MR I S) : ∃ J, f_X7_blowOf (nI p) (nI q) I = some (blowS B S p q, J) ∧ ∀ c, c ≠ 72 → c ≠ 73 → J c = I c := by
  obtain ⟨J, e, ho⟩ := s7_hits hg hp hq hO hB hM
  obtain ⟨K, e2, ho2⟩ := s7_soft (p := q) (I := J) hg hq hO ⟨fun k hk => by rw [ho _ (by omega) (by omega)]; exact hB.1 k hk, fun j hj => by rw [ho _ (by omega) (by omega)]; exact hB.2 j hj⟩ (MR_off hM ho)
  refine ⟨K, ?_, fun c h1 h2 => (ho2 c h1 h2).trans (ho c h1 h2)⟩
  rw [f_X7_blowOf, e, bnd_some, e2, bnd_some, s7_within (by decide), bnd_some]
  rfl
theorem s7_nearest (hg : GS S) (hp : p < S.2.1) (hM : MR I S) : f_X7_nearestOf (nI p) I = some (nearS S p, I) := by
  have hN := hg.1
  have key : ∀ (k n q : Nat) (b : Int32 × Int32) (m : Int32), q + k = S.2.1 → k < n → (b.2 = -1 ∧ b.1 = 64 ∨ b.2 ≠ -1 ∧ b.1 = m) → f_X7_nearestOf_b7 (nI p) n (nI q) m b.2 I = some ((lp (fun q b => if q = p then b else if S.1 3 q ≤ 0 then b else if b.1 ≤ farS (S.1 2 p) (S.1 2 q) then b else (farS (S.1 2 p) (S.1 2 q), nI q)) k q b).2, I) := by
    intro k
    induction k with
    | zero =>
      intro n q b m hq hn hb
      obtain ⟨n, rfl⟩ : ∃ m, n = m + 1 := ⟨n - 1, by omega⟩
      rw [f_X7_nearestOf_b7, hM.1, if_pos ((nI_le' (by omega) (by omega)).mpr (by omega))]
      rfl
    | succ k ih =>
      intro n q b m hq hn hb
      obtain ⟨n, rfl⟩ : ∃ m, n = m + 1 := ⟨n - 1, by omega⟩
      have hqN : q < S.2.1 := by omega
      rw [f_X7_nearestOf_b7, hM.1, if_neg (by rw [nI_le' (by omega) (by omega)]; omega), lp, nI_1]
      by_cases h1 : q = p
      · rw [if_pos ((nI_eq' (by omega) (by omega)).mpr h1), if_pos h1, ih n (q + 1) b m (by omega) (by omega) hb]
      · rw [if_neg (fun h => h1 ((nI_eq' (by omega) (by omega)).mp h)), if_neg h1, s7_isUp (by omega), bnd_some, (hM.2.2.2.1 q hqN).2.2.2.1]
        by_cases h2 : S.1 3 q ≤ 0
        · rw [if_pos h2, if_pos h2, if_pos rfl, ih n (q + 1) b m (by omega) (by omega) hb]
        · rw [if_neg h2, if_neg h2, if_neg (by decide), s7_far (by omega) (by omega), bnd_some, (hM.2.2.2.1 p hp).2.2.1, (hM.2.2.2.1 q hqN).2.2.1]
          have hf := far_b (hg.2.2.2.2.1 p hp).2.2.1 (hg.2.2.2.2.1 q hqN).2.2.1
          have hne : nI q ≠ -1 := fun h => by
            have h' := (i_eq _ _).mp h
            rw [ti_nI (by omega), show (-1 : Int32).toInt = -1 from rfl] at h'
            omega
          rcases hb with ⟨hb2, hb1⟩ | ⟨hb2, hb1⟩
          · rw [if_pos hb2, f_X7_nearestOf_b51, f_X7_nearestOf_b56, if_neg (by decide), f_X7_nearestOf_b69, if_neg (by decide), f_X7_nearestOf_b81, nI_1]
            have h3 : ¬ b.1 ≤ farS (S.1 2 p) (S.1 2 q) := by rw [hb1, i_le, show (64 : Int32).toInt = 64 from rfl]; omega
            rw [if_neg h3]
            exact ih n (q + 1) (farS (S.1 2 p) (S.1 2 q), nI q) _ (by omega) (by omega) (Or.inr ⟨hne, rfl⟩)
          · subst hb1
            rw [if_neg hb2]
            by_cases h3 : b.1 ≤ farS (S.1 2 p) (S.1 2 q)
            · rw [if_pos h3, if_pos h3, f_X7_nearestOf_b56, if_pos rfl, f_X7_nearestOf_b69, if_pos rfl, f_X7_nearestOf_b81, nI_1]
              exact ih n (q + 1) b b.1 (by omega) (by omega) (Or.inr ⟨hb2, rfl⟩)
            · rw [if_neg h3, if_neg h3, f_X7_nearestOf_b51, f_X7_nearestOf_b56, if_neg (by decide), f_X7_nearestOf_b69, if_neg (by decide), f_X7_nearestOf_b81, nI_1]
              exact ih n (q + 1) (farS (S.1 2 p) (S.1 2 q), nI q) _ (by omega) (by omega) (Or.inr ⟨hne, rfl⟩)
  exact key S.2.1 FU 0 (64, -1) 0 (by omega) (by show _ < 4096; omega) (Or.inl ⟨rfl, rfl⟩)
end ModelSide
