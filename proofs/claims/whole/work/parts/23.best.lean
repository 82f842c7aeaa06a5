/-! PURE 14: when, end, toss, rid, lasts, beaten -/
theorem th_set {J : Mem} {S : RS} {B : Bk} {f p : Nat} {v : Int32} (h : TH B J S) (hf : 1 ≤ f ∧ f < 6) (hp : p < S.2.1) (hb : GB f v) : TH B (wr J (2 + 8 * 1 + (f + 1)) p v) (setf S f p v) := by
  obtain ⟨g, c, z, b⟩ := h
  refine ⟨GS_set g hb, CR_set c hf.2, ?_, ⟨fun k hk => by rw [wr_k _ _ _ (by omega)]; exact b.1 k hk, fun j hj => by rw [wr_k _ _ _ (by omega)]; exact b.2 j hj⟩⟩
  by_cases h5 : f = 5
  · subst h5
    exact ZC_wr6 (ρ := 1) hp z
  · exact ZC_wr (ρ := 1) (f := f + 1) (by omega) z
theorem fr_set {J : Mem} {f p : Nat} {v : Int32} (hf : f < 6) : FrC 1 J (wr J (2 + 8 * 1 + (f + 1)) p v) := FrC_wr (ρ := 1) (f := f + 1) (by omega)
theorem mo_set {I J : Mem} {S : RS} {B : Bk} {j p : Nat} {v : Int32} (h : MO B I J S) (hj : j < 4) (hb : GB (2 + j) v) : MO B I (wr J 59 (4 * p + j) v) (setf S (2 + j) p v) := mo_Fr h FrM.wr59 (GS_set h.1 hb) (MR_set h.2.1 hj) rfl
theorem BM_Q {I J : Mem} {τ : Nat} {B : Bk} (h : BM I τ B) (hf : FrQ I J) : BM J τ B := ⟨fun k hk => by rw [hf.1 _ (by omega) (by omega) (by omega) (by omega) (by omega) (by omega)]; exact h.1 k hk, fun j hj => by rw [hf.1 _ (by omega) (by omega) (by omega) (by omega) (by omega) (by omega)]; exact h.2 j hj⟩
theorem mo_back {I J : Mem} {S S0 : RS} {B : Bk} (g0 : GS S0) (m0 : MR I S0) (b0 : BM I S0.2.2.2 B) (h : MO B I J S) : ∃ K, f_X7_lays J = some ((), K) ∧ MO B I K S0 := by
  obtain ⟨K, e, m, k, q⟩ := mo_lays g0 m0 h
  exact ⟨K, e, g0, m, BM_Q b0 q, k, q⟩
theorem mo_felt {I J : Mem} {S S0 : RS} {B : Bk} {p N : Nat} (hN : N ≤ 1000) (hO : BOK B) (g0 : GS S0) (m0 : MR I S0) (b0 : BM I S0.2.2.2 B) (h : MO B I J S) (hp : p < S.2.1) (hr : S.2.2.1.toInt + N ≤ 2000) : ∃ K, f_X7_feltBehind (nI p) (nI N) J = some ((itS B N S).1 3 p, K) ∧ MO B I K S0 := by
  have hN6 := h.1.1
  obtain ⟨J1, e1, o1⟩ := mo_passes hN hO h hr
  obtain ⟨K, e2, o2⟩ := mo_back g0 m0 b0 o1
  have hpT : p < (itS B N S).2.1 := by rw [(itS_G (B := B) N S h.1 hr).2.1]; exact hp
  exact ⟨K, by rw [f_X7_feltBehind, e1, bnd_some, fact4, nI_1, lt1_eq, if_pos (inb_t (by omega) (by omega)), lt1_eq, cl_nI (by omega), e2, bnd_some, (o1.2.1.2.2.2.1 p hpT).2.2.2.1], o2⟩
theorem th_felt {J : Mem} {S : RS} {B : Bk} {p N : Nat} (hN : N ≤ 1000) (hO : BOK B) (h : TH B J S) (hp : p < S.2.1) (hr : S.2.2.1.toInt + N ≤ 2000) : ∃ K, f_X6_feltBehind (nI p) (nI N) J = some ((itS B N S).1 3 p, K) ∧ FrC 1 J K ∧ ((itS B N S).1 3 p ≤ 0 ∨ TH B K (itS B N S)) := by
  have fin : ∀ (J : Mem) (S : RS), CR J 1 S → S.2.1 ≤ 6 → p < S.2.1 → f_X6_feltBehind_b33 (nI p) (nI N) J = some (S.1 3 p, J) := by
    intro J S hC h6 hp
    have h14 : J 14 p = S.1 3 p := (hC.2.2.2.1 p hp).2.2.2.1
    rw [f_X6_feltBehind_b33, if_pos (inb_t (by omega) (by omega)), cl_nI (by omega), h14]
  have key : ∀ (k n i : Nat) (S : RS) (J : Mem), i + k = N → k < n → TH B J S → p < S.2.1 → S.2.2.1.toInt + k ≤ 2000 → ∃ K, f_X6_feltBehind_b2 (nI p) (nI N) n (nI i) J = some ((itS B k S).1 3 p, K) ∧ FrC 1 J K ∧ ((itS B k S).1 3 p ≤ 0 ∨ TH B K (itS B k S)) := by
    intro k
    induction k with
    | zero =>
      intro n i S J hi hn h hp hr
      obtain ⟨n, rfl⟩ : ∃ m, n = m + 1 := ⟨n - 1, by omega⟩
      rw [f_X6_feltBehind_b2, if_pos ((nI_le' (by omega) (by omega)).mpr (by omega)), fin J S h.2.1 h.1.1 hp]
      exact ⟨J, rfl, FrC.rf, Or.inr h⟩
    | succ k ih =>
      intro n i S J hi hn h hp hr
      obtain ⟨n, rfl⟩ : ∃ m, n = m + 1 := ⟨n - 1, by omega⟩
      have hN6 := h.1.1
      have h14 : J 14 p = S.1 3 p := (h.2.1.2.2.2.1 p hp).2.2.2.1
      rw [f_X6_feltBehind_b2, if_neg (by rw [nI_le' (by omega) (by omega)]; omega), if_pos (inb_t (by omega) (by omega)), cl_nI (by omega), h14]
      by_cases hu : S.1 3 p ≤ 0
      · have h0 := felt0 (h.1.2.2.2.2.1 p hp).2.2.2.1.1 hu
        rw [if_pos hu, fin J S h.2.1 h.1.1 hp, h0, itS_f0 (k + 1) S h.1 hr h0]
        exact ⟨J, rfl, FrC.rf, Or.inl (by decide)⟩
      · obtain ⟨K, e, t, f⟩ := th_play hO h (by omega)
        obtain ⟨g', a, b', d⟩ := rndS_G (B := B) h.1 (by omega)
        obtain ⟨K', e', f', q'⟩ := ih n (i + 1) (rndS B S) K (by omega) (by omega) t (by rw [a]; exact hp) (by rw [b']; omega)
        rw [if_neg hu, e, bnd_some, nI_1]
        exact ⟨K', e', f.tr f', q'⟩
  exact key N FU 0 S J (by omega) (by show _ < 4096; omega) h hp hr
/-- the class's ring, that is thought of again and again -/
def CB (B : Bk) (J : Mem) (S : RS) : Prop := GS S ∧ CR J 0 S ∧ ZC J 0 S.2.1 ∧ BC J S.2.2.2 B
theorem cb_Fr {I J : Mem} {S : RS} {B : Bk} (h : CB B I S) (f : FrC 1 I J) : CB B J S := ⟨h.1, CR_Fr (by omega) (by omega) f h.2.1, ZC_Fr (by omega) (by omega) f h.2.2.1, BC_Fr h.2.2.2 (ρ := 1) (by omega) h.1.2.1 f⟩
theorem cb_im {J : Mem} {S : RS} {B : Bk} (h : CB B J S) : ∃ K, f_X6_imagine J = some ((), K) ∧ TH B K S ∧ FrC 1 J K := th_start h.1 h.2.1 h.2.2.1 h.2.2.2
def tossG (B : Bk) (S : RS) (p n : Nat) (c : Nat) (z : Int32 × Int32) : Int32 × Int32 := if (itS B n (setf S 2 p (nI c))).1 3 p ≤ z.1 then z else ((itS B n (setf S 2 p (nI c))).1 3 p, nI c)
theorem GB2 {c : Nat} (h : c < 64) : GB 2 (nI c) := by
  refine ⟨?_, ?_⟩ <;> rw [ti_nI (by omega)]
  · omega
  · show (c : Int) ≤ 63
    omega
theorem GB3 {c : Nat} (h : c < 100) : GB 3 (nI c) := by
  refine ⟨?_, ?_⟩ <;> rw [ti_nI (by omega)]
  · omega
  · show (c : Int) ≤ 99
    omega
section Toss
variable {I : Mem} {S : RS} {T : Nat} {Bs : Nat → Bk} {tp : Nat} {tx : Nat → Nat} {sh : SHt} {im : Option RS}
theorem p_toss (a a2 a3 : Int32) : Pair (f_X6_toss a a2 a3) (f_X7_toss a a2 a3) := by
  intro I hI
  obtain ⟨S, T, Bs, tp, tx, sh, im, hv⟩ := id hI
  obtain ⟨⟨c, m, g, r, z⟩, ⟨t1, t2, t3, t4, t5⟩, b, -, -, -, -⟩ := id hv
  have hN6 := g.1
  have c1 : I 2 8 = nI S.2.1 := c.1
  obtain ⟨b1, b2, b3⟩ := b S.2.2.2 t3
  rcases hat_or a (N := S.2.1) (by omega) with ⟨p, hp, rfl, u⟩ | ⟨_, u⟩
  · rcases hat_or a2 (N := 41) (by omega) with ⟨n, hn, rfl, u2⟩ | ⟨_, u2⟩
    · have u2' : wth (nI n) 0 40 = 1 := u2
      rcases hat_or a3 (N := 2) (by omega) with ⟨w, hw, rfl, u3⟩ | ⟨_, u3⟩
      · have u3' : wth (nI w) 0 1 = 1 := u3
        have keyC : ∀ (k n' i : Nat) (y : Int32 × Int32) (J : Mem), i + k = 64 → k < n' → CB (Bs S.2.2.2) J S → ∃ K, f_X6_toss_b42 (nI p) (nI n) (nI w) n' (nI i) y.1 y.2 J = some (if nI w = 0 then (lp (tossG (Bs S.2.2.2) S p n) k i y).2 else (lp (tossG (Bs S.2.2.2) S p n) k i y).1, K) ∧ FrC 1 J K := by
          intro k
          induction k with
          | zero =>
            intro n' i y J hi hn' h
            obtain ⟨n', rfl⟩ : ∃ m, n' = m + 1 := ⟨n' - 1, by omega⟩
            rw [f_X6_toss_b42, show (64 : Int32) = nI 64 from rfl, if_pos ((nI_le' (by omega) (by omega)).mpr (by omega)), some_if]
            exact ⟨J, rfl, FrC.rf⟩
          | succ k ih =>
            intro n' i y J hi hn' h
            obtain ⟨n', rfl⟩ : ∃ m, n' = m + 1 := ⟨n' - 1, by omega⟩
            obtain ⟨J1, e1, h1, f1⟩ := cb_im h
            have h2 := th_set (f := 2) (p := p) (v := nI i) h1 (by omega) hp (GB2 (by omega))
            obtain ⟨J3, e3, f3, _⟩ := th_felt (p := p) (N := n) (by omega) b1 h2 hp (by show S.2.2.1.toInt + n ≤ 2000; omega)
            have ff : FrC 1 J J3 := f1.tr ((fr_set (by omega)).tr f3)
            have e3' : f_X6_feltBehind (nI p) (nI n) (wr J1 13 p (nI i)) = _ := e3
            rw [f_X6_toss_b42, show (64 : Int32) = nI 64 from rfl, if_neg (by rw [nI_le' (by omega) (by omega)]; omega), e1, bnd_some, if_pos (inb_t (by omega) (by omega)), lt1_eq, cl_nI (by omega), e3', bnd_some, nI_1, lp, tossG]
            by_cases hle : (itS (Bs S.2.2.2) n (setf S 2 p (nI i))).1 3 p ≤ y.1
            · rw [if_pos hle, if_pos hle]
              obtain ⟨K, e, f⟩ := ih n' (i + 1) y J3 (by omega) (by omega) (cb_Fr h ff)
              exact ⟨K, e, ff.tr f⟩
            · rw [if_neg hle, if_neg hle]
              obtain ⟨K, e, f⟩ := ih n' (i + 1) ((itS (Bs S.2.2.2) n (setf S 2 p (nI i))).1 3 p, nI i) J3 (by omega) (by omega) (cb_Fr h ff)
              exact ⟨K, e, ff.tr f⟩
        have keyM : ∀ (I0 : Mem), MR I0 S → BM I0 S.2.2.2 (Bs S.2.2.2) → ∀ (k n' i : Nat) (y : Int32 × Int32) (J : Mem), i + k = 64 → k < n' → MO (Bs S.2.2.2) I0 J S → ∃ K, f_X7_toss_b46 (nI p) (nI n) (nI w) n' (nI i) y.1 y.2 J = some (if nI w = 0 then (lp (tossG (Bs S.2.2.2) S p n) k i y).2 else (lp (tossG (Bs S.2.2.2) S p n) k i y).1, K) ∧ MO (Bs S.2.2.2) I0 K S := by
          intro I0 m0 b0 k
          induction k with
          | zero =>
            intro n' i y J hi hn' h
            obtain ⟨n', rfl⟩ : ∃ m, n' = m + 1 := ⟨n' - 1, by omega⟩
            rw [f_X7_toss_b46, show (64 : Int32) = nI 64 from rfl, if_pos ((nI_le' (by omega) (by omega)).mpr (by omega)), some_if]
            exact ⟨J, rfl, h⟩
          | succ k ih =>
            intro n' i y J hi hn' h
            obtain ⟨n', rfl⟩ : ∃ m, n' = m + 1 := ⟨n' - 1, by omega⟩
            have h2 : MO (Bs S.2.2.2) I0 (wr J 59 (4 * p) (nI i)) (setf S 2 p (nI i)) := mo_set (j := 0) (p := p) (v := nI i) h (by omega) (GB2 (by omega))
            obtain ⟨J3, e3, h3⟩ := mo_felt (p := p) (N := n) (by omega) b1 g m0 b0 h2 hp (by show S.2.2.1.toInt + n ≤ 2000; omega)
            rw [f_X7_toss_b46, show (64 : Int32) = nI 64 from rfl, if_neg (by rw [nI_le' (by omega) (by omega)]; omega), fact4, if_pos (inb_t (by omega) (by omega)), lt1_eq, cl_nI (by omega), e3, bnd_some, lp, tossG]
            by_cases hle : (itS (Bs S.2.2.2) n (setf S 2 p (nI i))).1 3 p ≤ y.1
            · rw [if_pos hle, if_pos hle, f_X7_toss_b85, if_pos hle, f_X7_toss_b101, nI_1]
              exact ih n' (i + 1) y J3 (by omega) (by omega) h3
            · rw [if_neg hle, if_neg hle, f_X7_toss_b85, if_neg hle, f_X7_toss_b101, nI_1]
              exact ih n' (i + 1) ((itS (Bs S.2.2.2) n (setf S 2 p (nI i))).1 3 p, nI i) J3 (by omega) (by omega) h3
        obtain ⟨K, e, f⟩ := keyC 64 FU 0 (-1, 0) I (by omega) (by show _ < 4096; omega) ⟨g, c, z, b2⟩
        have hvK := IV_c f hv
        obtain ⟨J1, e1, o1⟩ := mo_start g hvK.1.2.1 (hvK.2.2.1 _ t3).2.2
        obtain ⟨K2, e2, o2⟩ := keyM K hvK.1.2.1 (hvK.2.2.1 _ t3).2.2 64 FU 0 (-1, -1) J1 (by omega) (by show _ < 4096; omega) o1
        have hs : lp (tossG (Bs S.2.2.2) S p n) 64 0 (-1, 0) = lp (tossG (Bs S.2.2.2) S p n) 64 0 (-1, -1) := by
          have hle : ¬ (itS (Bs S.2.2.2) n (setf S 2 p (nI 0))).1 3 p ≤ -1 := by
            obtain ⟨gT, aT, _, _⟩ := itS_G (B := Bs S.2.2.2) n (setf S 2 p (nI 0)) (GS_set g (GB2 (by omega))) (by show S.2.2.1.toInt + n ≤ 2000; omega)
            have hb := (gT.2.2.2.2.1 p (by rw [aT]; exact hp)).2.2.2.1.1
            intro hh
            have h' := (i_le _ _).mp hh
            rw [show (-1 : Int32).toInt = -1 from rfl] at h'
            omega
          show lp (tossG (Bs S.2.2.2) S p n) 63 (0 + 1) (tossG (Bs S.2.2.2) S p n 0 (-1, 0)) = lp (tossG (Bs S.2.2.2) S p n) 63 (0 + 1) (tossG (Bs S.2.2.2) S p n 0 (-1, -1))
          rw [show tossG (Bs S.2.2.2) S p n 0 (-1, 0) = tossG (Bs S.2.2.2) S p n 0 (-1, -1) from by unfold tossG; rw [if_neg hle, if_neg hle]]
        refine ⟨if nI w = 0 then (lp (tossG (Bs S.2.2.2) S p n) 64 0 (-1, -1)).2 else (lp (tossG (Bs S.2.2.2) S p n) 64 0 (-1, -1)).1, K, K2, ?_, ?_, IV_q f o2.2.2.2.2 o2.2.1 hv⟩
        · rw [← hs, f_X6_toss, s6_isHat, bnd_some, c1, u, if_neg (by decide), s6_within, bnd_some, u2', if_neg (by decide), s6_within, bnd_some, u3', if_neg (by decide)]
          exact e
        · rw [f_X7_toss, s7_isOne, bnd_some, hvK.1.2.1.1, u, if_neg (by decide), s7_in, bnd_some, u2', if_neg (by decide), s7_in, bnd_some, u3', if_neg (by decide), e1, bnd_some]
          exact e2
      · have u3' : wth a3 0 1 = 0 := u3
        exact ⟨-7, I, I, by rw [f_X6_toss, s6_isHat, bnd_some, c1, u, if_neg (by decide), s6_within, bnd_some, u2', if_neg (by decide), s6_within, bnd_some, u3', if_pos rfl], by rw [f_X7_toss, s7_isOne, bnd_some, m.1, u, if_neg (by decide), s7_in, bnd_some, u2', if_neg (by decide), s7_in, bnd_some, u3', if_pos rfl], hI⟩
    · have u2' : wth a2 0 40 = 0 := u2
      exact ⟨-7, I, I, by rw [f_X6_toss, s6_isHat, bnd_some, c1, u, if_neg (by decide), s6_within, bnd_some, u2', if_pos rfl], by rw [f_X7_toss, s7_isOne, bnd_some, m.1, u, if_neg (by decide), s7_in, bnd_some, u2', if_pos rfl], hI⟩
  · exact ⟨-5, I, I, by rw [f_X6_toss, s6_isHat, bnd_some, c1, u, if_pos rfl], by rw [f_X7_toss, s7_isOne, bnd_some, m.1, u, if_pos rfl], hI⟩
end Toss
