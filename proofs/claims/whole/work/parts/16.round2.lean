/-! PURE 7: a round, of the class and of the model -/
/-- beyond the last hat blows and tallies are 0 -/
def ZC (I : Mem) (ρ N : Nat) : Prop := (∀ p, N ≤ p → p < 6 → I (2 + 8 * ρ + 6) p = 0) ∧ ∀ p q, p < 6 → q < 6 → (N ≤ p ∨ N ≤ q) → I (2 + 8 * ρ + 7) (p * 6 + q) = 0
def FrC (ρ : Nat) (I J : Mem) : Prop := ∀ c, c ≠ 29 → (c < 2 + 8 * ρ ∨ 2 + 8 * ρ + 7 < c) → J c = I c
def FrM (I J : Mem) : Prop := (∀ c, c ≠ 56 → c ≠ 59 → c ≠ 60 → c ≠ 72 → c ≠ 73 → J c = I c) ∧ ∀ j, j ≠ 5 → J 56 j = I 56 j
theorem FrC.rf {ρ : Nat} {I : Mem} : FrC ρ I I := fun _ _ _ => rfl
theorem FrC.tr {ρ : Nat} {I J K : Mem} (h : FrC ρ I J) (h2 : FrC ρ J K) : FrC ρ I K := fun c h1 h3 => (h2 c h1 h3).trans (h c h1 h3)
theorem FrC.of29 {ρ : Nat} {I J : Mem} (h : ∀ c, c ≠ 29 → J c = I c) : FrC ρ I J := fun c h1 _ => h c h1
theorem FrC_wr {ρ : Nat} {I : Mem} {f j : Nat} {v : Int32} (hf : f < 8) : FrC ρ I (wr I (2 + 8 * ρ + f) j v) := fun c _ h2 => wr_k _ _ _ (by omega)
theorem FrM.rf {I : Mem} : FrM I I := ⟨fun _ _ _ _ _ _ => rfl, fun _ _ => rfl⟩
theorem FrM.tr {I J K : Mem} (h : FrM I J) (h2 : FrM J K) : FrM I K := ⟨fun c a1 a2 a3 a4 a5 => (h2.1 c a1 a2 a3 a4 a5).trans (h.1 c a1 a2 a3 a4 a5), fun j hj => (h2.2 j hj).trans (h.2 j hj)⟩
theorem FrM.of {I J : Mem} (h : ∀ c, c ≠ 72 → c ≠ 73 → J c = I c) : FrM I J := ⟨fun c _ _ _ a4 a5 => h c a4 a5, fun j _ => by rw [h 56 (by omega) (by omega)]⟩
theorem FrM.wr59 {I : Mem} {j : Nat} {v : Int32} : FrM I (wr I 59 j v) := ⟨fun c _ a2 _ _ _ => wr_k _ _ _ a2, fun _ _ => by rw [wr_k _ _ _ (by omega)]⟩
theorem FrM.wr60 {I : Mem} {j : Nat} {v : Int32} : FrM I (wr I 60 j v) := ⟨fun c _ _ a3 _ _ => wr_k _ _ _ a3, fun _ _ => by rw [wr_k _ _ _ (by omega)]⟩
theorem ZC.of29 {ρ N : Nat} {I J : Mem} (hρ : ρ < 3) (h : ∀ c, c ≠ 29 → J c = I c) (hz : ZC I ρ N) : ZC J ρ N := ⟨fun p a b => by rw [h _ (by omega)]; exact hz.1 p a b, fun p q a b c => by rw [h _ (by omega)]; exact hz.2 p q a b c⟩
theorem ZC_wr {ρ N f j : Nat} {I : Mem} {v : Int32} (hf : f < 6) (hz : ZC I ρ N) : ZC (wr I (2 + 8 * ρ + f) j v) ρ N := ⟨fun p a b => by rw [wr_k _ _ _ (by omega)]; exact hz.1 p a b, fun p q a b c => by rw [wr_k _ _ _ (by omega)]; exact hz.2 p q a b c⟩
theorem ZC_wr6 {ρ N j : Nat} {I : Mem} {v : Int32} (hj : j < N) (hz : ZC I ρ N) : ZC (wr I (2 + 8 * ρ + 6) j v) ρ N := ⟨fun p a b => by rw [wr_j _ _ _ (by omega)]; exact hz.1 p a b, fun p q a b c => by rw [wr_k _ _ _ (by omega)]; exact hz.2 p q a b c⟩
theorem ZC_wr7 {ρ N a b : Nat} {I : Mem} {v : Int32} (hN : N ≤ 6) (ha : a < N) (hb : b < N) (hz : ZC I ρ N) : ZC (wr I (2 + 8 * ρ + 7) (a * 6 + b) v) ρ N := ⟨fun p h1 h2 => by rw [wr_k _ _ _ (by omega)]; exact hz.1 p h1 h2, fun p q h1 h2 h3 => by rw [wr_j _ _ _ (by omega)]; exact hz.2 p q h1 h2 h3⟩
section RC
variable {ρ p q : Nat} {B : Bk} {S : RS} {I : Mem}
theorem s2_land (hρ : ρ < 3) (hg : GS S) (hp : p < S.2.1) (hq : q < S.2.1) (hC : CR I ρ S) (hZ : ZC I ρ S.2.1) : ∃ J, f_X2_land ρ (nI p) (nI q) (blowS B S p q) I = some ((), J) ∧ CR J ρ (landS B S p q) ∧ ZC J ρ S.2.1 ∧ FrC ρ I J := by
  have hN := hg.1
  rw [f_X2_land]
  have e6 : nI p * (6 : Int32) + nI q = nI (p * 6 + q) := by rw [show (6 : Int32) = nI 6 from rfl, pk_mul, nI_add]
  rw [e6]
  simp (disch := omega) only [inb_t, if_true, lt1_eq, cl_nI]
  have c1 : CR (wr I (2 + 8 * ρ + 4) q (sub0 (S.1 3 q) (blowS B S p q))) ρ (lS1 B S p q) := CR_set hC (f := 3) (by omega)
  have v1 : (if (0 : Int32) < I (2 + 8 * ρ + 4) q - blowS B S p q then I (2 + 8 * ρ + 4) q - blowS B S p q else 0) = sub0 (S.1 3 q) (blowS B S p q) := by rw [(hC.2.2.2.1 q hq).2.2.2.1]; rfl
  rw [v1]
  generalize hJ1 : wr I (2 + 8 * ρ + 4) q (sub0 (S.1 3 q) (blowS B S p q)) = J1 at c1 ⊢
  have f1 : FrC ρ I J1 := by rw [← hJ1]; exact FrC_wr (by omega)
  have z1 : ZC J1 ρ S.2.1 := by rw [← hJ1]; exact ZC_wr (by omega) hZ
  have v2 : (if J1 (2 + 8 * ρ + 6) q + (1 : Int32) < 99 then J1 (2 + 8 * ρ + 6) q + 1 else 99) = inc ((lS1 B S p q).1 5 q) := by rw [(c1.2.2.2.1 q hq).2.2.2.2.2]; rfl
  rw [v2]
  have c2 : CR (wr J1 (2 + 8 * ρ + 6) q (inc ((lS1 B S p q).1 5 q))) ρ (lS2 B S p q) := CR_set c1 (f := 5) (by omega)
  generalize hJ2 : wr J1 (2 + 8 * ρ + 6) q (inc ((lS1 B S p q).1 5 q)) = J2 at c2 ⊢
  have f2 : FrC ρ I J2 := by rw [← hJ2]; exact f1.tr (FrC_wr (by omega))
  have z2 : ZC J2 ρ S.2.1 := by rw [← hJ2]; exact ZC_wr6 hq z1
  have v3 : (if J2 (2 + 8 * ρ + 7) (p * 6 + q) + (1 : Int32) < 99 then J2 (2 + 8 * ρ + 7) (p * 6 + q) + 1 else 99) = inc ((lS2 B S p q).1 (6 + q) p) := by rw [c2.2.2.2.2 p q hp hq]; rfl
  rw [v3]
  have c3 : CR (wr J2 (2 + 8 * ρ + 7) (p * 6 + q) (inc ((lS2 B S p q).1 (6 + q) p))) ρ (lS3 B S p q) := CR_tal c2 hN hp hq
  generalize hJ3 : wr J2 (2 + 8 * ρ + 7) (p * 6 + q) (inc ((lS2 B S p q).1 (6 + q) p)) = J3 at c3 ⊢
  have f3 : FrC ρ I J3 := by rw [← hJ3]; exact f2.tr (FrC_wr (by omega))
  have z3 : ZC J3 ρ S.2.1 := by rw [← hJ3]; exact ZC_wr7 hN hp hq z2
  have v4 : (if J3 (2 + 8 * ρ + 5) p + (1 : Int32) < 99 then J3 (2 + 8 * ρ + 5) p + 1 else 99) = inc ((lS3 B S p q).1 4 p) := by rw [(c3.2.2.2.1 p hp).2.2.2.2.1]; rfl
  rw [v4]
  have c4 : CR (wr J3 (2 + 8 * ρ + 5) p (inc ((lS3 B S p q).1 4 p))) ρ (landS B S p q) := CR_set c3 (f := 4) (by omega)
  exact ⟨_, rfl, c4, ZC_wr (by omega) z3, f3.tr (FrC_wr (by omega))⟩
theorem s2_step (hρ : ρ < 3) (hg : GS S) (hp : p < S.2.1) (hq : q < S.2.1) (hC : CR I ρ S) (hZ : ZC I ρ S.2.1) : ∃ J, f_X2_step ρ (nI p) (nI q) I = some ((), J) ∧ CR J ρ (stepS S p q) ∧ ZC J ρ S.2.1 ∧ FrC ρ I J := by
  have hN := hg.1
  have hx := (hC.2.2.2.1 p hp).2.2.1
  have hy := (hC.2.2.2.1 q hq).2.2.1
  refine ⟨wr I (2 + 8 * ρ + 3) p (stepV (S.1 2 p) (S.1 2 q)), ?_, CR_set hC (f := 2) (by omega), ZC_wr (by omega) hZ, FrC_wr (by omega)⟩
  rw [f_X2_step]
  simp (disch := omega) only [inb_t, if_true, lt1_eq, cl_nI, f_X2_step_b85, f_X2_step_b63, hx, hy, stepV]
  by_cases h1 : S.1 2 q / 8 - S.1 2 p / 8 = 0
  · rw [if_pos h1, if_pos h1]
    by_cases h2 : (S.1 2 q - S.1 2 q / 8 * 8) - (S.1 2 p - S.1 2 p / 8 * 8) ≤ 0
    · rw [if_pos h2, if_pos h2]
    · rw [if_neg h2, if_neg h2]
  · rw [if_neg h1, if_neg h1]
    by_cases h2 : S.1 2 q / 8 - S.1 2 p / 8 ≤ 0
    · rw [if_pos h2, if_pos h2]
    · rw [if_neg h2, if_neg h2]
theorem BC_Fr {I J : Mem} {τ : Nat} {B : Bk} (h : BC I τ B) (hρ : ρ < 3) (hτ : τ < 6) (hf : FrC ρ I J) : BC J τ B := ⟨fun k hk => by rw [hf _ (by omega) (by omega)]; exact h.1 k hk, fun j hj => by rw [hf _ (by omega) (by omega)]; exact h.2 j hj⟩
theorem or0 (b : Int32) : b ||| 0 = b := Int32.or_zero
theorem s2_pstep {n : Nat} {fl : Int32} (hρ : ρ < 3) (hg : GS S) (hp : p < S.2.1) (hO : BOK B) (hB : BC I S.2.2.2 B) (hC : CR I ρ S) (hZ : ZC I ρ S.2.1) : ∃ J, f_X2_play_b4 ρ (n + 1) (nI p) fl I = f_X2_play_b4 ρ n (nI (p + 1)) (pstep B p (S, fl)).2 J ∧ CR J ρ (pstep B p (S, fl)).1 ∧ ZC J ρ S.2.1 ∧ FrC ρ I J := by
  have hN := hg.1
  rw [f_X2_play_b4, hC.1, if_neg (by rw [nI_le' (by omega) (by omega)]; omega), if_pos (inb_t (by omega) (by omega)), cl_nI (by omega), (hC.2.2.2.1 p hp).2.2.2.1]
  unfold pstep
  by_cases h1 : S.1 3 p ≤ 0
  · rw [if_pos h1, if_pos h1, f_X2_play_b37, f_X2_play_b38, if_pos rfl, nI_1]
    exact ⟨I, rfl, hC, hZ, FrC.rf⟩
  · rw [if_neg h1, if_neg h1]
    obtain ⟨J1, e1, o1⟩ := s2_goes hρ hg hp hO hB hC
    have hC1 := CR_off hC o1 hρ
    have hZ1 := ZC.of29 hρ o1 hZ
    have hB1 := BC_off hB o1 hg.2.1
    rw [e1, bnd_some]
    dsimp only
    by_cases h2 : goesS B S p = 0
    · rw [if_pos h2, if_pos h2, f_X2_play_b37, f_X2_play_b38, if_pos rfl, nI_1]
      exact ⟨J1, rfl, hC1, hZ1, FrC.of29 o1⟩
    · rw [if_neg h2, if_neg h2, s2_nearest hg hp hC1, bnd_some, f_X2_play_b38]
      rcases near_or (S := S) (p := p) with hq | ⟨q, hqN, hqp, hu, hq⟩
      · rw [if_pos hq, if_pos hq, nI_1]
        exact ⟨J1, rfl, hC1, hZ1, FrC.of29 o1⟩
      · have hne : ¬ nearS S p = -1 := by
          rw [hq]
          intro hh
          have h' := (i_eq _ _).mp hh
          rw [ti_nI (by omega), show (-1 : Int32).toInt = -1 from rfl] at h'
          omega
        have hcl : (nearS S p).toNatClampNeg = q := by rw [hq]; exact cl_nI (by omega)
        rw [if_neg hne, if_neg hne, hcl, hq, s2_far (by omega) (by omega), bnd_some, (hC1.2.2.2.1 p hp).2.2.1, (hC1.2.2.2.1 q hqN).2.2.1]
        by_cases h3 : farS (S.1 2 p) (S.1 2 q) ≤ 1
        · rw [if_pos h3, if_pos h3]
          obtain ⟨J2, e2, o2⟩ := s2_hits (q := q) hρ hg hp hqN hO hB1 hC1
          have hC2 := CR_off hC1 o2 hρ
          have hB2 := BC_off hB1 o2 hg.2.1
          obtain ⟨J3, e3, o3⟩ := s2_soft (p := q) hρ hg hqN hO hB2 hC2
          have hC3 := CR_off hC2 o3 hρ
          have hZ3 := ZC.of29 hρ o3 (ZC.of29 hρ o2 hZ1)
          obtain ⟨J4, e4, c4, z4, f4⟩ := s2_land (B := B) (q := q) hρ hg hp hqN hC3 hZ3
          rw [e2, bnd_some, e3, bnd_some, s2_blow, bnd_some]
          rw [show c99 (hitsS B S p q - softS B S q) = blowS B S p q from rfl, e4, bnd_some, if_pos (inb_t (by omega) (by omega)), (c4.2.2.2.1 q hqN).2.2.2.1]
          refine ⟨J4, ?_, c4, z4, (FrC.of29 o1).tr ((FrC.of29 o2).tr ((FrC.of29 o3).tr f4))⟩
          by_cases h4 : (landS B S p q).1 3 q = 0
          · rw [if_pos h4, if_pos h4, f_X2_play_b103, lt1_eq, nI_1]
          · rw [if_neg h4, if_neg h4, f_X2_play_b103, lt1_eq, nI_1]
        · rw [if_neg h3, if_neg h3]
          obtain ⟨J4, e4, c4, z4, f4⟩ := s2_step (q := q) hρ hg hp hqN hC1 hZ1
          rw [e4, bnd_some, nI_1]
          exact ⟨J4, rfl, c4, z4, (FrC.of29 o1).tr f4⟩
theorem s2_play (hρ : ρ < 3) (hg : GS S) (hO : BOK B) (hB : BC I S.2.2.2 B) (hC : CR I ρ S) (hZ : ZC I ρ S.2.1) : ∃ J, f_X2_play ρ I = some (rndF B S, J) ∧ CR J ρ (rndS B S) ∧ ZC J ρ S.2.1 ∧ FrC ρ I J := by
  have key : ∀ (k n p : Nat) (S' : RS) (fl : Int32) (I : Mem), p + k = S'.2.1 → k < n → GS S' → BC I S'.2.2.2 B → CR I ρ S' → ZC I ρ S'.2.1 → ∃ J, f_X2_play_b4 ρ n (nI p) fl I = some ((lp (pstep B) k p (S', fl)).2, J) ∧ CR J ρ ((lp (pstep B) k p (S', fl)).1.1, (lp (pstep B) k p (S', fl)).1.2.1, (lp (pstep B) k p (S', fl)).1.2.2.1 + 1, (lp (pstep B) k p (S', fl)).1.2.2.2) ∧ ZC J ρ S'.2.1 ∧ FrC ρ I J := by
    intro k
    induction k with
    | zero =>
      intro n p S' fl I hp hn hg hB hC hZ
      obtain ⟨n, rfl⟩ : ∃ m, n = m + 1 := ⟨n - 1, by omega⟩
      have hN := hg.1
      rw [f_X2_play_b4, hC.1, if_pos ((nI_le' (by omega) (by omega)).mpr (by omega)), lt1_eq, hC.2.1]
      refine ⟨wr I (2 + 8 * ρ) 9 (S'.2.2.1 + 1), rfl, ?_, ZC_wr (f := 0) (by omega) hZ, FrC_wr (f := 0) (by omega)⟩
      obtain ⟨h1, h2, h3, h4, h5⟩ := hC
      refine ⟨by rw [wr_j _ _ _ (by omega)]; exact h1, by rw [wr_s]; rfl, by rw [wr_j _ _ _ (by omega)]; exact h3, fun p hp => ?_, fun p q hp hq => by rw [wr_k _ _ _ (by omega)]; exact h5 p q hp hq⟩
      rw [wr_k _ _ _ (by omega), wr_k _ _ _ (by omega), wr_k _ _ _ (by omega), wr_k _ _ _ (by omega), wr_k _ _ _ (by omega), wr_k _ _ _ (by omega)]
      exact h4 p hp
    | succ k ih =>
      intro n p S' fl I hp hn hg hB hC hZ
      obtain ⟨n, rfl⟩ : ∃ m, n = m + 1 := ⟨n - 1, by omega⟩
      obtain ⟨J, e, c, z, f⟩ := s2_pstep (n := n) (fl := fl) hρ hg (p := p) (by omega) hO hB hC hZ
      obtain ⟨g, g2⟩ := pstep_G (B := B) (fl := fl) hg (p := p) (by omega)
      have gN : (pstep B p (S', fl)).1.2.1 = S'.2.1 := by rw [g2]
      have gL : (pstep B p (S', fl)).1.2.2.2 = S'.2.2.2 := by rw [g2]
      obtain ⟨K, e', c', z', f'⟩ := ih n (p + 1) (pstep B p (S', fl)).1 (pstep B p (S', fl)).2 J (by rw [gN]; omega) (by omega) g (by rw [gL]; exact BC_Fr hB hρ hg.2.1 f) c (by rw [gN]; exact z)
      rw [gN] at z'
      exact ⟨K, e.trans e', c', z', f.tr f'⟩
  exact key S.2.1 FU 0 S 0 I (by omega) (by show _ < 4096; have := hg.1; omega) hg hB hC hZ
end RC
