/-! PURE 15: rid, lasts -/
def ridG (B : Bk) (S : RS) (p n : Nat) (q : Nat) (z : Int32 × Int32) : Int32 × Int32 := if q = p then z else if S.1 3 q ≤ 0 then z else if (itS B n (setf S 3 q 0)).1 3 p ≤ z.1 then z else ((itS B n (setf S 3 q 0)).1 3 p, nI q)
theorem p_rid (a a2 a3 : Int32) : Pair (f_X6_rid a a2 a3) (f_X7_rid a a2 a3) := by
  intro I hI
  obtain ⟨S, T, Bs, tp, tx, sh, im, hv⟩ := id hI
  obtain ⟨⟨c, m, g, r, z⟩, ⟨t1, t2, t3, t4, t5⟩, b, -, -, -, -⟩ := id hv
  have hN6 := g.1
  have c1 : I 2 8 = nI S.2.1 := c.1
  obtain ⟨b1, b2, b3⟩ := b S.2.2.2 t3
  rcases hat_or a (N := S.2.1) (by omega) with ⟨p, hp, rfl, u⟩ | ⟨_, u⟩
  · rcases hat_or a2 (N := 41) (by omega) with ⟨n, hn, rfl, u2⟩ | ⟨_, u2⟩
    · have u2' : wth (nI n) 0 40 = 1 := u2
      rcases hat_or a3 (N := 2) (by omega) with ⟨w, hw, rfl, u3⟩ | ⟨_, u3⟩
      · have u3' : wth (nI w) 0 1 = 1 := u3
        have keyC : ∀ (k n' i : Nat) (y : Int32 × Int32) (J : Mem), i + k = S.2.1 → k < n' → CB (Bs S.2.2.2) J S → ∃ K, f_X6_rid_b51 (nI p) (nI n) (nI w) n' (nI i) y.2 y.1 J = some (if nI w = 0 then (lp (ridG (Bs S.2.2.2) S p n) k i y).2 else (lp (ridG (Bs S.2.2.2) S p n) k i y).1, K) ∧ FrC 1 J K := by
          intro k
          induction k with
          | zero =>
            intro n' i y J hi hn' h
            obtain ⟨n', rfl⟩ : ∃ m, n' = m + 1 := ⟨n' - 1, by omega⟩
            have h8 : J 2 8 = nI S.2.1 := h.2.1.1
            rw [f_X6_rid_b51, h8, if_pos ((nI_le' (by omega) (by omega)).mpr (by omega)), some_if]
            exact ⟨J, rfl, FrC.rf⟩
          | succ k ih =>
            intro n' i y J hi hn' h
            obtain ⟨n', rfl⟩ : ∃ m, n' = m + 1 := ⟨n' - 1, by omega⟩
            have h8 : J 2 8 = nI S.2.1 := h.2.1.1
            have h6 : J 6 i = S.1 3 i := (h.2.1.2.2.2.1 i (by omega)).2.2.2.1
            rw [f_X6_rid_b51, h8, if_neg (by rw [nI_le' (by omega) (by omega)]; omega), nI_1, lp]
            by_cases hip : i = p
            · rw [if_pos (by rw [hip]), show ridG (Bs S.2.2.2) S p n i y = y from by rw [ridG, if_pos hip]]
              exact ih n' (i + 1) y J (by omega) (by omega) h
            · rw [if_neg (by rw [nI_eq' (by omega) (by omega)]; exact hip), if_pos (inb_t (by omega) (by omega)), cl_nI (by omega), h6]
              by_cases hu : S.1 3 i ≤ 0
              · rw [if_pos hu, show ridG (Bs S.2.2.2) S p n i y = y from by rw [ridG, if_neg hip, if_pos hu]]
                exact ih n' (i + 1) y J (by omega) (by omega) h
              · obtain ⟨J1, e1, h1, f1⟩ := cb_im h
                have h2 := th_set (f := 3) (p := i) (v := 0) h1 (by omega) (by omega) (GB3 (c := 0) (by omega))
                obtain ⟨J3, e3, f3, _⟩ := th_felt (p := p) (N := n) (by omega) b1 h2 hp (by show S.2.2.1.toInt + n ≤ 2000; omega)
                have ff : FrC 1 J J3 := f1.tr ((fr_set (by omega)).tr f3)
                have e3' : f_X6_feltBehind (nI p) (nI n) (wr J1 14 i 0) = _ := e3
                rw [if_neg hu, e1, bnd_some, if_pos (inb_t (by omega) (by omega)), lt1_eq, e3', bnd_some]
                by_cases hle : (itS (Bs S.2.2.2) n (setf S 3 i 0)).1 3 p ≤ y.1
                · rw [if_pos hle, show ridG (Bs S.2.2.2) S p n i y = y from by rw [ridG, if_neg hip, if_neg hu, if_pos hle]]
                  obtain ⟨K, e, f⟩ := ih n' (i + 1) y J3 (by omega) (by omega) (cb_Fr h ff)
                  exact ⟨K, e, ff.tr f⟩
                · rw [if_neg hle, show ridG (Bs S.2.2.2) S p n i y = ((itS (Bs S.2.2.2) n (setf S 3 i 0)).1 3 p, nI i) from by rw [ridG, if_neg hip, if_neg hu, if_neg hle]]
                  obtain ⟨K, e, f⟩ := ih n' (i + 1) ((itS (Bs S.2.2.2) n (setf S 3 i 0)).1 3 p, nI i) J3 (by omega) (by omega) (cb_Fr h ff)
                  exact ⟨K, e, ff.tr f⟩
        have keyM : ∀ (I0 : Mem), MR I0 S → BM I0 S.2.2.2 (Bs S.2.2.2) → ∀ (k n' i : Nat) (y : Int32 × Int32) (J : Mem), i + k = S.2.1 → k < n' → MO (Bs S.2.2.2) I0 J S → ∃ K, f_X7_rid_b51 (nI p) (nI n) (nI w) n' (nI i) y.1 y.2 J = some (if nI w = 0 then (lp (ridG (Bs S.2.2.2) S p n) k i y).2 else (lp (ridG (Bs S.2.2.2) S p n) k i y).1, K) ∧ MO (Bs S.2.2.2) I0 K S := by
          intro I0 m0 b0 k
          induction k with
          | zero =>
            intro n' i y J hi hn' h
            obtain ⟨n', rfl⟩ : ∃ m, n' = m + 1 := ⟨n' - 1, by omega⟩
            rw [f_X7_rid_b51, h.2.1.1, if_pos ((nI_le' (by omega) (by omega)).mpr (by omega)), some_if]
            exact ⟨J, rfl, h⟩
          | succ k ih =>
            intro n' i y J hi hn' h
            obtain ⟨n', rfl⟩ : ∃ m, n' = m + 1 := ⟨n' - 1, by omega⟩
            rw [f_X7_rid_b51, h.2.1.1, if_neg (by rw [nI_le' (by omega) (by omega)]; omega), nI_1, lp]
            by_cases hip : i = p
            · rw [if_pos (by rw [hip]), show ridG (Bs S.2.2.2) S p n i y = y from by rw [ridG, if_pos hip]]
              exact ih n' (i + 1) y J (by omega) (by omega) h
            · rw [if_neg (by rw [nI_eq' (by omega) (by omega)]; exact hip), s7_isUp (by omega), bnd_some, (h.2.1.2.2.2.1 i (by omega)).2.2.2.1]
              by_cases hu : S.1 3 i ≤ 0
              · rw [if_pos hu, if_pos rfl, show ridG (Bs S.2.2.2) S p n i y = y from by rw [ridG, if_neg hip, if_pos hu]]
                exact ih n' (i + 1) y J (by omega) (by omega) h
              · have h2 : MO (Bs S.2.2.2) I0 (wr J 59 (4 * i + 1) 0) (setf S 3 i 0) := mo_set (j := 1) (p := i) (v := 0) h (by omega) (GB3 (c := 0) (by omega))
                obtain ⟨J3, e3, h3⟩ := mo_felt (p := p) (N := n) (by omega) b1 g m0 b0 h2 hp (by show S.2.2.1.toInt + n ≤ 2000; omega)
                rw [if_neg hu, if_neg (show ¬ (1 : Int32) = 0 by decide), fact4, nI_1, if_pos (inb_t (by omega) (by omega)), lt1_eq, cl_nI (by omega), e3, bnd_some]
                by_cases hle : (itS (Bs S.2.2.2) n (setf S 3 i 0)).1 3 p ≤ y.1
                · rw [if_pos hle, show ridG (Bs S.2.2.2) S p n i y = y from by rw [ridG, if_neg hip, if_neg hu, if_pos hle], f_X7_rid_b109, if_pos hle, f_X7_rid_b125, nI_1]
                  exact ih n' (i + 1) y J3 (by omega) (by omega) h3
                · rw [if_neg hle, show ridG (Bs S.2.2.2) S p n i y = ((itS (Bs S.2.2.2) n (setf S 3 i 0)).1 3 p, nI i) from by rw [ridG, if_neg hip, if_neg hu, if_neg hle], f_X7_rid_b109, if_neg hle, f_X7_rid_b125, nI_1]
                  exact ih n' (i + 1) ((itS (Bs S.2.2.2) n (setf S 3 i 0)).1 3 p, nI i) J3 (by omega) (by omega) h3
        have h0 : CB (Bs S.2.2.2) I S := ⟨g, c, z, b2⟩
        obtain ⟨C1, d1, w1, f1⟩ := cb_im h0
        obtain ⟨C2, d2, f2, _⟩ := th_felt (p := p) (N := n) (by omega) b1 w1 hp (by omega)
        have f12 := f1.tr f2
        obtain ⟨K, e, f⟩ := keyC S.2.1 FU 0 ((itS (Bs S.2.2.2) n S).1 3 p, -1) C2 (by omega) (by show _ < 4096; omega) (cb_Fr h0 f12)
        have hvK := IV_c (f12.tr f) hv
        have mK := hvK.1.2.1
        have bK := (hvK.2.2.1 _ t3).2.2
        obtain ⟨J1, e1, o1⟩ := mo_start g mK bK
        obtain ⟨J2, e2, o2⟩ := mo_felt (p := p) (N := n) (by omega) b1 g mK bK o1 hp (by omega)
        obtain ⟨K2, e3, o3⟩ := keyM K mK bK S.2.1 FU 0 ((itS (Bs S.2.2.2) n S).1 3 p, -1) J2 (by omega) (by show _ < 4096; omega) o2
        refine ⟨if nI w = 0 then (lp (ridG (Bs S.2.2.2) S p n) S.2.1 0 ((itS (Bs S.2.2.2) n S).1 3 p, -1)).2 else (lp (ridG (Bs S.2.2.2) S p n) S.2.1 0 ((itS (Bs S.2.2.2) n S).1 3 p, -1)).1, K, K2, ?_, ?_, IV_q (f12.tr f) o3.2.2.2.2 o3.2.1 hv⟩
        · rw [f_X6_rid, s6_isHat, bnd_some, c1, u, if_neg (by decide), s6_within, bnd_some, u2', if_neg (by decide), s6_within, bnd_some, u3', if_neg (by decide), d1, bnd_some, d2, bnd_some]
          exact e
        · rw [f_X7_rid, s7_isOne, bnd_some, mK.1, u, if_neg (by decide), s7_in, bnd_some, u2', if_neg (by decide), s7_in, bnd_some, u3', if_neg (by decide), e1, bnd_some, e2, bnd_some]
          exact e3
      · have u3' : wth a3 0 1 = 0 := u3
        exact ⟨-7, I, I, by rw [f_X6_rid, s6_isHat, bnd_some, c1, u, if_neg (by decide), s6_within, bnd_some, u2', if_neg (by decide), s6_within, bnd_some, u3', if_pos rfl], by rw [f_X7_rid, s7_isOne, bnd_some, m.1, u, if_neg (by decide), s7_in, bnd_some, u2', if_neg (by decide), s7_in, bnd_some, u3', if_pos rfl], hI⟩
    · have u2' : wth a2 0 40 = 0 := u2
      exact ⟨-7, I, I, by rw [f_X6_rid, s6_isHat, bnd_some, c1, u, if_neg (by decide), s6_within, bnd_some, u2', if_pos rfl], by rw [f_X7_rid, s7_isOne, bnd_some, m.1, u, if_neg (by decide), s7_in, bnd_some, u2', if_pos rfl], hI⟩
  · exact ⟨-5, I, I, by rw [f_X6_rid, s6_isHat, bnd_some, c1, u, if_pos rfl], by rw [f_X7_rid, s7_isOne, bnd_some, m.1, u, if_pos rfl], hI⟩
/-- the least v, from i on, with which p lasts -/
def lastS (B : Bk) (S : RS) (p n : Nat) : Nat → Nat → Int32
  | 0, _ => -1
  | k + 1, i => if (itS B n (setf S 3 p (nI i))).1 3 p ≤ 0 then lastS B S p n k (i + 1) else nI i
theorem p_lasts (a a2 : Int32) : Pair (f_X6_lasts a a2) (f_X7_lasts a a2) := by
  intro I hI
  obtain ⟨S, T, Bs, tp, tx, sh, im, hv⟩ := id hI
  obtain ⟨⟨c, m, g, r, z⟩, ⟨t1, t2, t3, t4, t5⟩, b, -, -, -, -⟩ := id hv
  have hN6 := g.1
  have c1 : I 2 8 = nI S.2.1 := c.1
  obtain ⟨b1, b2, b3⟩ := b S.2.2.2 t3
  rcases hat_or a (N := S.2.1) (by omega) with ⟨p, hp, rfl, u⟩ | ⟨_, u⟩
  · rcases hat_or a2 (N := 41) (by omega) with ⟨n, hn, rfl, u2⟩ | ⟨_, u2⟩
    · have u2' : wth (nI n) 0 40 = 1 := u2
      have keyC : ∀ (k n' i : Nat) (J : Mem), i + k = 100 → k < n' → CB (Bs S.2.2.2) J S → ∃ K, f_X6_lasts_b26 (nI p) (nI n) n' (nI i) J = some (lastS (Bs S.2.2.2) S p n k i, K) ∧ FrC 1 J K := by
        intro k
        induction k with
        | zero =>
          intro n' i J hi hn' h
          obtain ⟨n', rfl⟩ : ∃ m, n' = m + 1 := ⟨n' - 1, by omega⟩
          rw [f_X6_lasts_b26, show (99 : Int32) = nI 99 from rfl, if_pos ((nI_lt' (by omega) (by omega)).mpr (by omega))]
          exact ⟨J, rfl, FrC.rf⟩
        | succ k ih =>
          intro n' i J hi hn' h
          obtain ⟨n', rfl⟩ : ∃ m, n' = m + 1 := ⟨n' - 1, by omega⟩
          obtain ⟨J1, e1, h1, f1⟩ := cb_im h
          have h2 := th_set (f := 3) (p := p) (v := nI i) h1 (by omega) hp (GB3 (by omega))
          obtain ⟨J3, e3, f3, _⟩ := th_felt (p := p) (N := n) (by omega) b1 h2 hp (by show S.2.2.1.toInt + n ≤ 2000; omega)
          have ff : FrC 1 J J3 := f1.tr ((fr_set (by omega)).tr f3)
          have e3' : f_X6_feltBehind (nI p) (nI n) (wr J1 14 p (nI i)) = _ := e3
          rw [f_X6_lasts_b26, show (99 : Int32) = nI 99 from rfl, if_neg (by rw [nI_lt' (by omega) (by omega)]; omega), e1, bnd_some, if_pos (inb_t (by omega) (by omega)), lt1_eq, cl_nI (by omega), e3', bnd_some, nI_1, lastS]
          by_cases hle : (itS (Bs S.2.2.2) n (setf S 3 p (nI i))).1 3 p ≤ 0
          · rw [if_pos hle, if_pos hle]
            obtain ⟨K, e, f⟩ := ih n' (i + 1) J3 (by omega) (by omega) (cb_Fr h ff)
            exact ⟨K, e, ff.tr f⟩
          · rw [if_neg hle, if_neg hle]
            exact ⟨J3, rfl, ff⟩
      have keyM : ∀ (I0 : Mem), MR I0 S → BM I0 S.2.2.2 (Bs S.2.2.2) → ∀ (k n' i : Nat) (J : Mem), i + k = 100 → k < n' → MO (Bs S.2.2.2) I0 J S → ∃ K, f_X7_lasts_b33 (nI p) (nI n) n' (nI i) (-1) J = some (lastS (Bs S.2.2.2) S p n k i, K) ∧ MO (Bs S.2.2.2) I0 K S := by
        intro I0 m0 b0 k
        induction k with
        | zero =>
          intro n' i J hi hn' h
          obtain ⟨n', rfl⟩ : ∃ m, n' = m + 1 := ⟨n' - 1, by omega⟩
          rw [f_X7_lasts_b33, show (99 : Int32) = nI 99 from rfl, if_pos ((nI_lt' (by omega) (by omega)).mpr (by omega))]
          exact ⟨J, rfl, h⟩
        | succ k ih =>
          intro n' i J hi hn' h
          obtain ⟨n', rfl⟩ : ∃ m, n' = m + 1 := ⟨n' - 1, by omega⟩
          have h2 : MO (Bs S.2.2.2) I0 (wr J 59 (4 * p + 1) (nI i)) (setf S 3 p (nI i)) := mo_set (j := 1) (p := p) (v := nI i) h (by omega) (GB3 (by omega))
          obtain ⟨J3, e3, h3⟩ := mo_felt (p := p) (N := n) (by omega) b1 g m0 b0 h2 hp (by show S.2.2.1.toInt + n ≤ 2000; omega)
          rw [f_X7_lasts_b33, show (99 : Int32) = nI 99 from rfl, if_neg (by rw [nI_lt' (by omega) (by omega)]; omega), if_pos rfl, fact4, nI_1, if_pos (inb_t (by omega) (by omega)), lt1_eq, cl_nI (by omega), e3, bnd_some, lastS]
          by_cases hle : (itS (Bs S.2.2.2) n (setf S 3 p (nI i))).1 3 p ≤ 0
          · rw [if_pos hle, if_pos hle, f_X7_lasts_b72, nI_1]
            exact ih n' (i + 1) J3 (by omega) (by omega) h3
          · rw [if_neg hle, if_neg hle, f_X7_lasts_b72, nI_1]
            obtain ⟨n', rfl⟩ : ∃ m, n' = m + 1 := ⟨n' - 1, by omega⟩
            rw [f_X7_lasts_b33, if_neg (ne_m1 (by omega)), ite_self]
            exact ⟨J3, rfl, h3⟩
      obtain ⟨K, e, f⟩ := keyC 100 FU 0 I (by omega) (by show _ < 4096; omega) ⟨g, c, z, b2⟩
      have hvK := IV_c f hv
      have mK := hvK.1.2.1
      have bK := (hvK.2.2.1 _ t3).2.2
      obtain ⟨J1, e1, o1⟩ := mo_start g mK bK
      obtain ⟨K2, e3, o3⟩ := keyM K mK bK 100 FU 0 J1 (by omega) (by show _ < 4096; omega) o1
      refine ⟨lastS (Bs S.2.2.2) S p n 100 0, K, K2, ?_, ?_, IV_q f o3.2.2.2.2 o3.2.1 hv⟩
      · rw [f_X6_lasts, s6_isHat, bnd_some, c1, u, if_neg (by decide), s6_within, bnd_some, u2', if_neg (by decide)]
        exact e
      · rw [f_X7_lasts, s7_isOne, bnd_some, mK.1, u, if_neg (by decide), s7_in, bnd_some, u2', if_neg (by decide), e1, bnd_some]
        exact e3
    · have u2' : wth a2 0 40 = 0 := u2
      exact ⟨-7, I, I, by rw [f_X6_lasts, s6_isHat, bnd_some, c1, u, if_neg (by decide), s6_within, bnd_some, u2', if_pos rfl], by rw [f_X7_lasts, s7_isOne, bnd_some, m.1, u, if_neg (by decide), s7_in, bnd_some, u2', if_pos rfl], hI⟩
  · exact ⟨-5, I, I, by rw [f_X6_lasts, s6_isHat, bnd_some, c1, u, if_pos rfl], by rw [f_X7_lasts, s7_isOne, bnd_some, m.1, u, if_pos rfl], hI⟩
