/-! PURE 26: hat, hatsBy, feed -/
def nhS (S : RS) (a1 a2 a3 : Int32) : RS := (fun f p => if p = S.2.1 then (if f = 0 then a1 / 10 else if f = 1 then a1 - a1 / 10 * 10 else if f = 2 then a2 else if f = 3 then a3 / 100 else if f = 4 then a3 - a3 / 100 * 100 else 0) else if f = 6 + S.2.1 then 0 else S.1 f p, S.2.1 + 1, S.2.2.1, S.2.2.2)
theorem nhS_o {S : RS} {a1 a2 a3 : Int32} {f p : Nat} (hp : p < S.2.1) (hf : f ≠ 6 + S.2.1) : (nhS S a1 a2 a3).1 f p = S.1 f p := by
  show (if p = S.2.1 then _ else if f = 6 + S.2.1 then 0 else S.1 f p) = _
  rw [if_neg (by omega), if_neg hf]
theorem nhS_z {S : RS} {a1 a2 a3 : Int32} {f p : Nat} (h : p = S.2.1 ∧ 5 ≤ f ∨ f = 6 + S.2.1) : (nhS S a1 a2 a3).1 f p = 0 := by
  show (if p = S.2.1 then (if f = 0 then a1 / 10 else if f = 1 then a1 - a1 / 10 * 10 else if f = 2 then a2 else if f = 3 then a3 / 100 else if f = 4 then a3 - a3 / 100 * 100 else 0) else if f = 6 + S.2.1 then 0 else S.1 f p) = 0
  by_cases hp : p = S.2.1
  · rw [if_pos hp, if_neg (by omega), if_neg (by omega), if_neg (by omega), if_neg (by omega), if_neg (by omega)]
  · rw [if_neg hp, if_pos (by omega)]
def hatR (S : RS) (a1 a2 a3 : Int32) : Int32 × RS := if wth a1 0 59 = 0 then (-2, S) else if wth a2 0 63 = 0 then (-2, S) else if wth a3 0 9999 = 0 then (-2, S) else if S.2.1 < 6 then (nI S.2.1, nhS S a1 a2 a3) else (-4, S)
theorem hat_in {S : RS} {a1 a2 a3 : Int32} (h1 : ¬ wth a1 0 59 = 0) (h2 : ¬ wth a2 0 63 = 0) (h3 : ¬ wth a3 0 9999 = 0) : ∃ x y z : Nat, x < 60 ∧ y < 64 ∧ z < 10000 ∧ a1 = nI x ∧ a2 = nI y ∧ a3 = nI z := by
  rcases hat_or a1 (N := 60) (by omega) with ⟨x, hx, e1, _⟩ | ⟨_, u⟩
  · rcases hat_or a2 (N := 64) (by omega) with ⟨y, hy, e2, _⟩ | ⟨_, u⟩
    · have h3' : 0 ≤ a3.toInt ∧ a3.toInt ≤ 9999 := by
        by_cases q1 : (0 : Int32) ≤ a3
        · by_cases q2 : a3 ≤ 9999
          · have g1 := (i_le _ _).mp q1
            have g2 := (i_le _ _).mp q2
            rw [show (0 : Int32).toInt = 0 from rfl] at g1
            rw [show (9999 : Int32).toInt = 9999 from rfl] at g2
            exact ⟨g1, g2⟩
          · exact absurd (by rw [wth, if_pos q1, if_neg q2]) h3
        · exact absurd (by rw [wth, if_neg q1]) h3
      obtain ⟨z, hz, e3, e4⟩ := nI_of_toInt h3'.1
      exact ⟨x, y, z, hx, hy, by omega, e1, e2, e3⟩
    · exact absurd u h2
  · exact absurd u h1
theorem hatR_G {S : RS} (g : GS S) (a1 a2 a3 : Int32) : GS (hatR S a1 a2 a3).2 ∧ (hatR S a1 a2 a3).2.2.2 = S.2.2 ∧ S.2.1 ≤ (hatR S a1 a2 a3).2.2.1 ∧ ∀ f p, f < 2 → p < S.2.1 → (hatR S a1 a2 a3).2.1 f p = S.1 f p := by
  unfold hatR
  by_cases h1 : wth a1 0 59 = 0
  · rw [if_pos h1]; exact ⟨g, rfl, Nat.le_refl _, fun _ _ _ _ => rfl⟩
  · rw [if_neg h1]
    by_cases h2 : wth a2 0 63 = 0
    · rw [if_pos h2]; exact ⟨g, rfl, Nat.le_refl _, fun _ _ _ _ => rfl⟩
    · rw [if_neg h2]
      by_cases h3 : wth a3 0 9999 = 0
      · rw [if_pos h3]; exact ⟨g, rfl, Nat.le_refl _, fun _ _ _ _ => rfl⟩
      · rw [if_neg h3]
        by_cases h6 : S.2.1 < 6
        · rw [if_pos h6]
          obtain ⟨x, y, z, hx, hy, hz, rfl, rfl, rfl⟩ := hat_in (S := S) h1 h2 h3
          obtain ⟨g1, g2, g3, g4, g5, g6⟩ := g
          refine ⟨⟨by show S.2.1 + 1 ≤ 6; omega, g2, g3, g4, fun p hp => ?_, fun p q hp hq => ?_⟩, rfl, by show S.2.1 ≤ S.2.1 + 1; omega, fun f p hf hp => nhS_o hp (by omega)⟩
          · have hp' : p < S.2.1 + 1 := hp
            by_cases e : p = S.2.1
            · have z5 : (nhS S (nI x) (nI y) (nI z)).1 5 p = 0 := nhS_z (Or.inl ⟨e, by omega⟩)
              have v0 : (nhS S (nI x) (nI y) (nI z)).1 0 p = nI (x / 10) := by
                show (if p = S.2.1 then _ else _) = _
                rw [if_pos e, if_pos rfl, show (10 : Int32) = nI 10 from rfl, pk_div (by omega) (by omega) (by omega)]
              have v1 : (nhS S (nI x) (nI y) (nI z)).1 1 p = nI (x % 10) := by
                show (if p = S.2.1 then _ else _) = _
                rw [if_pos e, if_neg (by omega), if_pos rfl, show (10 : Int32) = nI 10 from rfl, pk_rem (by omega) (by omega) (by omega)]
              have v2 : (nhS S (nI x) (nI y) (nI z)).1 2 p = nI y := by
                show (if p = S.2.1 then _ else _) = _
                rw [if_pos e, if_neg (by omega), if_neg (by omega), if_pos rfl]
              have v3 : (nhS S (nI x) (nI y) (nI z)).1 3 p = nI (z / 100) := by
                show (if p = S.2.1 then _ else _) = _
                rw [if_pos e, if_neg (by omega), if_neg (by omega), if_neg (by omega), if_pos rfl, show (100 : Int32) = nI 100 from rfl, pk_div (by omega) (by omega) (by omega)]
              have v4 : (nhS S (nI x) (nI y) (nI z)).1 4 p = nI (z % 100) := by
                show (if p = S.2.1 then _ else _) = _
                rw [if_pos e, if_neg (by omega), if_neg (by omega), if_neg (by omega), if_neg (by omega), if_pos rfl, show (100 : Int32) = nI 100 from rfl, pk_rem (by omega) (by omega) (by omega)]
              rw [z5, v0, v1, v2, v3, v4, ti_nI (by omega), ti_nI (by omega), ti_nI (by omega), ti_nI (by omega), ti_nI (by omega), show (0 : Int32).toInt = 0 from rfl]
              omega
            · rw [nhS_o (by omega) (by omega), nhS_o (by omega) (by omega), nhS_o (by omega) (by omega), nhS_o (by omega) (by omega), nhS_o (by omega) (by omega), nhS_o (by omega) (by omega)]
              exact g5 p (by omega)
          · have hp' : p < S.2.1 + 1 := hp
            have hq' : q < S.2.1 + 1 := hq
            by_cases e : p = S.2.1 ∨ q = S.2.1
            · rw [nhS_z (by omega), show (0 : Int32).toInt = 0 from rfl]
              omega
            · rw [nhS_o (by omega) (by omega)]
              exact g6 p q (by omega) (by omega)
        · rw [if_neg h6]; exact ⟨g, rfl, Nat.le_refl _, fun _ _ _ _ => rfl⟩
theorem nI_sub1 {n : Nat} (h : n < 1000) : nI (n + 1) - 1 = nI n := by
  rw [i_eq, ti_sub] <;> rw [ti_nI (by omega), show (1 : Int32).toInt = 1 from rfl]
  · rw [ti_nI (by omega)]; omega
  · omega
  · omega
theorem s6_hat {I : Mem} {S : RS} (g : GS S) (a1 a2 a3 : Int32) (c : CR I 0 S) (z : ZC I 0 S.2.1) : ∃ J, f_X6_hat a1 a2 a3 I = some ((hatR S a1 a2 a3).1, J) ∧ CR J 0 (hatR S a1 a2 a3).2 ∧ ZC J 0 (hatR S a1 a2 a3).2.2.1 ∧ ∀ c, (c < 2 ∨ 9 < c) → J c = I c := by
  have c1 : I 2 8 = nI S.2.1 := c.1
  have hN := g.1
  rw [f_X6_hat, s6_within, bnd_some]
  unfold hatR
  by_cases h1 : wth a1 0 59 = 0
  · rw [if_pos h1, if_pos h1]; exact ⟨I, rfl, c, z, fun _ _ => rfl⟩
  · rw [if_neg h1, if_neg h1, s6_within, bnd_some]
    by_cases h2 : wth a2 0 63 = 0
    · rw [if_pos h2, if_pos h2]; exact ⟨I, rfl, c, z, fun _ _ => rfl⟩
    · rw [if_neg h2, if_neg h2, s6_within, bnd_some]
      by_cases h3 : wth a3 0 9999 = 0
      · rw [if_pos h3, if_pos h3]; exact ⟨I, rfl, c, z, fun _ _ => rfl⟩
      · rw [if_neg h3, if_neg h3, c1]
        by_cases h6 : S.2.1 < 6
        · rw [if_pos h6, if_pos (show nI S.2.1 < (6 : Int32) from (nI_lt' (b := 6) (by omega) (by omega)).mpr h6), f_X2_add, lt1_eq]
          simp only [show 2 + 8 * 0 = 2 from rfl, c1]
          rw [if_pos (inb_t h6 (by omega)), lt1_eq, if_pos (inb_t h6 (by omega)), lt1_eq, if_pos (inb_t h6 (by omega)), lt1_eq, if_pos (inb_t h6 (by omega)), lt1_eq, if_pos (inb_t h6 (by omega)), lt1_eq, lt1_eq, bnd_some, cl_nI (by omega)]
          have hE : ∀ c, c = 2 ∨ (7 < c) ∨ c < 2 → wr (wr (wr (wr (wr I (2 + 1) S.2.1 (a1 / 10)) (2 + 2) S.2.1 (a1 - a1 / 10 * 10)) (2 + 3) S.2.1 a2) (2 + 4) S.2.1 (a3 / 100)) (2 + 5) S.2.1 (a3 - a3 / 100 * 100) c = I c := fun c hc => by simp (disch := omega) only [wr_k]
          rw [hE 2 (by omega), c1, nI_1]
          obtain ⟨c1', c2, c3, c4, c5⟩ := c
          refine ⟨wr (wr (wr (wr (wr (wr I (2 + 1) S.2.1 (a1 / 10)) (2 + 2) S.2.1 (a1 - a1 / 10 * 10)) (2 + 3) S.2.1 a2) (2 + 4) S.2.1 (a3 / 100)) (2 + 5) S.2.1 (a3 - a3 / 100 * 100)) 2 8 (nI (S.2.1 + 1)), ?_, ⟨?_, ?_, ?_, fun p hp => ?_, fun p q hp hq => ?_⟩, ⟨fun p q1 q2 => ?_, fun p q q1 q2 q3 => ?_⟩, fun c hc => ?_⟩
          · exact congrArg some (Prod.ext (by dsimp only; rw [wr_s, nI_sub1 (by omega)]) rfl)
          · exact wr_s _ _ _ _
          · simp (disch := omega) only [wr_k, wr_j]; exact c2
          · simp (disch := omega) only [wr_k, wr_j]; exact c3
          · have hp' : p < S.2.1 + 1 := hp
            simp (disch := omega) only [wr_k]
            by_cases e : p = S.2.1
            · have z5 : (nhS S a1 a2 a3).1 5 p = 0 := nhS_z (Or.inl ⟨e, by omega⟩)
              rw [z5, e]
              simp (disch := omega) only [wr_k, wr_s]
              exact ⟨by show _ = (if S.2.1 = S.2.1 then _ else _); rw [if_pos rfl, if_pos rfl], by show _ = (if S.2.1 = S.2.1 then _ else _); rw [if_pos rfl, if_neg (by omega), if_pos rfl], by show _ = (if S.2.1 = S.2.1 then _ else _); rw [if_pos rfl, if_neg (by omega), if_neg (by omega), if_pos rfl], by show _ = (if S.2.1 = S.2.1 then _ else _); rw [if_pos rfl, if_neg (by omega), if_neg (by omega), if_neg (by omega), if_pos rfl], by show _ = (if S.2.1 = S.2.1 then _ else _); rw [if_pos rfl, if_neg (by omega), if_neg (by omega), if_neg (by omega), if_neg (by omega), if_pos rfl], z.1 _ (Nat.le_refl _) h6⟩
            · rw [nhS_o (by omega) (by omega), nhS_o (by omega) (by omega), nhS_o (by omega) (by omega), nhS_o (by omega) (by omega), nhS_o (by omega) (by omega), nhS_o (by omega) (by omega)]
              simp (disch := omega) only [wr_k, wr_j]
              exact c4 p (by omega)
          · have hp' : p < S.2.1 + 1 := hp
            have hq' : q < S.2.1 + 1 := hq
            simp (disch := omega) only [wr_k]
            by_cases e : p = S.2.1 ∨ q = S.2.1
            · rw [nhS_z (by omega)]
              exact z.2 p q (by omega) (by omega) (by omega)
            · rw [nhS_o (by omega) (by omega)]
              exact c5 p q (by omega) (by omega)
          · simp (disch := omega) only [wr_k]
            have q1' : S.2.1 + 1 ≤ p := q1
            exact z.1 p (by omega) q2
          · simp (disch := omega) only [wr_k]
            have q3' : S.2.1 + 1 ≤ p ∨ S.2.1 + 1 ≤ q := q3
            exact z.2 p q q1 q2 (by omega)
          · simp (disch := omega) only [wr_k]
        · rw [if_neg h6, if_neg (show ¬ nI S.2.1 < (6 : Int32) from fun h => h6 ((nI_lt' (b := 6) (by omega) (by omega)).mp h))]
          exact ⟨I, rfl, c, z, fun _ _ => rfl⟩
