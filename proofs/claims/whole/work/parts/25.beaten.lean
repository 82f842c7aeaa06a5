/-! PURE 16: sets of bits; beaten -/
def BS (x : Int32) : Prop := ∃ m : Nat, m < 64 ∧ x = nI m
theorem BS_0 : BS 0 := ⟨0, by omega, rfl⟩
theorem BS_or {x : Int32} {p : Nat} (h : BS x) (hp : p < 6) : BS (x ||| (1 <<< (nI p &&& 31))) := by
  obtain ⟨m, hm, rfl⟩ := h
  have hd : ∀ m : Fin 64, ∀ p : Fin 6, nI m.1 ||| (1 <<< (nI p.1 &&& 31)) = nI (m.1 ||| 2 ^ p.1) := by decide
  have hb : ∀ m : Fin 64, ∀ p : Fin 6, m.1 ||| 2 ^ p.1 < 64 := by decide
  exact ⟨m ||| 2 ^ p, hb ⟨m, hm⟩ ⟨p, hp⟩, hd ⟨m, hm⟩ ⟨p, hp⟩⟩
/-- the ones, as the class counts them -/
def bcS (a : Int32) : Int32 :=
  let v1 := a - (((a.toUInt32 >>> ((1 : Int32).toUInt32 &&& Int32.toUInt32 31)).toInt32) &&& (1431655765))
  let v2 := (v1 &&& (858993459)) + (((v1.toUInt32 >>> ((2 : Int32).toUInt32 &&& Int32.toUInt32 31)).toInt32) &&& (858993459))
  let v3 := (v2 + ((v2.toUInt32 >>> ((4 : Int32).toUInt32 &&& Int32.toUInt32 31)).toInt32)) &&& (252645135)
  let v4 := v3 + ((v3.toUInt32 >>> ((8 : Int32).toUInt32 &&& Int32.toUInt32 31)).toInt32)
  let v5 := v4 + ((v4.toUInt32 >>> ((16 : Int32).toUInt32 &&& Int32.toUInt32 31)).toInt32)
  v5 &&& 63
theorem j6_bitCount {x : Int32} (h : BS x) (I : Mem) : f_J6_bitCount_0f7a4 x I = some (onesS x, I) := by
  obtain ⟨m, hm, rfl⟩ := h
  have e : f_J6_bitCount_0f7a4 (nI m) I = some (bcS (nI m), I) := rfl
  have hd : ∀ m : Fin 64, bcS (nI m.1) = onesS (nI m.1) := by decide
  rw [e, hd ⟨m, hm⟩]
theorem wr_id (I : Mem) (k j : Nat) : wr I k j (I k j) = I := by
  funext k' j'
  rw [wr_get]
  by_cases h : k' = k
  · rw [if_pos h]
    by_cases h2 : j' = j
    · rw [if_pos h2, h, h2]
    · rw [if_neg h2]
  · rw [if_neg h]
/-- all but p and q leave -/
def lvG (p q j : Nat) (S : RS) : RS := if j = p then S else if j = q then S else setf S 3 j 0
theorem lvG_2 {p q j : Nat} {S : RS} : (lvG p q j S).2 = S.2 := by unfold lvG; split; rfl; split <;> rfl
theorem lv_2 {p q : Nat} : ∀ (k i : Nat) (S : RS), (lp (lvG p q) k i S).2 = S.2
  | 0, _, _ => rfl
  | k + 1, i, S => (lv_2 k (i + 1) (lvG p q i S)).trans lvG_2
theorem th_leave {J : Mem} {S : RS} {B : Bk} {p q : Nat} (h : TH B J S) (hp : p < 6) (hq : q < 6) : ∃ K, f_X2_leaveOnly 1 (nI p) (nI q) J = some ((), K) ∧ TH B K (lp (lvG p q) S.2.1 0 S) ∧ FrC 1 J K := by
  have key : ∀ (k n i : Nat) (S' : RS) (J : Mem), i + k = S.2.1 → S'.2 = S.2 → k < n → TH B J S' → ∃ K, f_X2_leaveOnly_b2 1 (nI p) (nI q) n (nI i) J = some ((), K) ∧ TH B K (lp (lvG p q) k i S') ∧ FrC 1 J K := by
    intro k
    induction k with
    | zero =>
      intro n i S' J hi hs hn h
      obtain ⟨n, rfl⟩ : ∃ m, n = m + 1 := ⟨n - 1, by omega⟩
      have hN6 := h.1.1
      have hN : S'.2.1 = S.2.1 := by rw [hs]
      rw [f_X2_leaveOnly_b2, h.2.1.1, if_pos ((nI_le' (by omega) (by omega)).mpr (by omega))]
      exact ⟨J, rfl, h, FrC.rf⟩
    | succ k ih =>
      intro n i S' J hi hs hn h
      obtain ⟨n, rfl⟩ : ∃ m, n = m + 1 := ⟨n - 1, by omega⟩
      have hN6 := h.1.1
      have hN : S'.2.1 = S.2.1 := by rw [hs]
      have keep : f_X2_leaveOnly_b25 1 (nI p) (nI q) (f_X2_leaveOnly_b2 1 (nI p) (nI q) n) (nI i) (nI i) J = f_X2_leaveOnly_b2 1 (nI p) (nI q) n (nI (i + 1)) J := by
        rw [f_X2_leaveOnly_b25, if_pos (inb_t (by omega) (by omega)), f_X2_leaveOnly_b35, if_pos (inb_t (by omega) (by omega)), lt1_eq, cl_nI (by omega), wr_id, nI_1]
      rw [f_X2_leaveOnly_b2, h.2.1.1, if_neg (by rw [nI_le' (by omega) (by omega)]; omega), lp]
      by_cases h1 : i = p
      · rw [if_pos (by rw [h1]), keep, show lvG p q i S' = S' from by rw [lvG, if_pos h1]]
        exact ih n (i + 1) S' J (by omega) hs (by omega) h
      · rw [if_neg (by rw [nI_eq' (by omega) (by omega)]; exact h1)]
        by_cases h2 : i = q
        · rw [if_pos (by rw [h2]), keep, show lvG p q i S' = S' from by rw [lvG, if_neg h1, if_pos h2]]
          exact ih n (i + 1) S' J (by omega) hs (by omega) h
        · rw [if_neg (by rw [nI_eq' (by omega) (by omega)]; exact h2), f_X2_leaveOnly_b35, if_pos (inb_t (by omega) (by omega)), lt1_eq, cl_nI (by omega), nI_1, show lvG p q i S' = setf S' 3 i 0 from by rw [lvG, if_neg h1, if_neg h2]]
          have t := th_set (f := 3) (p := i) (v := 0) h (by omega) (by omega) (GB3 (c := 0) (by omega))
          obtain ⟨K, e, t', f⟩ := ih n (i + 1) (setf S' 3 i 0) _ (by omega) hs (by omega) t
          exact ⟨K, e, t', (fr_set (by omega)).tr f⟩
  exact key S.2.1 FU 0 S J (by omega) rfl (by have := h.1.1; show _ < 4096; omega) h
def btT (B : Bk) (S : RS) (p q : Nat) : RS := itS B 60 (lp (lvG p q) S.2.1 0 S)
def btG (B : Bk) (S : RS) (p : Nat) (q : Nat) (b : Int32) : Int32 := if q = p then b else if (btT B S p q).1 3 p ≤ 0 then b else if (btT B S p q).1 3 q = 0 then b ||| (1 <<< (nI q &&& 31)) else b
theorem btG_BS {B : Bk} {S : RS} {p q : Nat} {b : Int32} (h : BS b) (hq : q < 6) : BS (btG B S p q b) := by
  unfold btG
  split
  · exact h
  · split
    · exact h
    · split
      · exact BS_or h hq
      · exact h
theorem bt_BS {B : Bk} {S : RS} {p : Nat} : ∀ (k i : Nat) (b : Int32), i + k ≤ 6 → BS b → BS (lp (btG B S p) k i b)
  | 0, _, _, _, h => h
  | k + 1, i, b, hi, h => bt_BS k (i + 1) (btG B S p i b) (by omega) (btG_BS h (by omega))
theorem p_beaten (a a2 : Int32) : Pair (f_X6_beaten a a2) (f_X7_beaten a a2) := by
  intro I hI
  obtain ⟨S, T, Bs, tp, tx, sh, im, hv⟩ := id hI
  obtain ⟨⟨c, m, g, r, z⟩, ⟨t1, t2, t3, t4, t5⟩, b, -, -, -, -⟩ := id hv
  have hN6 := g.1
  have c1 : I 2 8 = nI S.2.1 := c.1
  obtain ⟨b1, b2, b3⟩ := b S.2.2.2 t3
  rcases hat_or a (N := S.2.1) (by omega) with ⟨p, hp, rfl, u⟩ | ⟨_, u⟩
  · rcases hat_or a2 (N := 2) (by omega) with ⟨w, hw, rfl, u3⟩ | ⟨_, u3⟩
    · have u3' : wth (nI w) 0 1 = 1 := u3
      have l2 : ∀ q, (lp (lvG p q) S.2.1 0 S).2 = S.2 := fun q => lv_2 _ _ _
      have keyC : ∀ (k n' i : Nat) (y : Int32) (J : Mem), i + k = S.2.1 → k < n' → BS y → CB (Bs S.2.2.2) J S → ∃ K, f_X6_beaten_b28 (nI p) (nI w) n' (nI i) y J = some (if nI w = 0 then lp (btG (Bs S.2.2.2) S p) k i y else onesS (lp (btG (Bs S.2.2.2) S p) k i y), K) ∧ FrC 1 J K := by
        intro k
        induction k with
        | zero =>
          intro n' i y J hi hn' hy h
          obtain ⟨n', rfl⟩ : ∃ m, n' = m + 1 := ⟨n' - 1, by omega⟩
          have h8 : J 2 8 = nI S.2.1 := h.2.1.1
          rw [f_X6_beaten_b28, h8, if_pos ((nI_le' (by omega) (by omega)).mpr (by omega)), j6_bitCount hy, bnd_some, some_if]
          exact ⟨J, rfl, FrC.rf⟩
        | succ k ih =>
          intro n' i y J hi hn' hy h
          obtain ⟨n', rfl⟩ : ∃ m, n' = m + 1 := ⟨n' - 1, by omega⟩
          have h8 : J 2 8 = nI S.2.1 := h.2.1.1
          obtain ⟨J1, e1, h1, f1⟩ := cb_im h
          obtain ⟨J2, e2, h2, f2⟩ := th_leave (p := p) (q := i) h1 (by omega) (by omega)
          have f12 := f1.tr f2
          rw [f_X6_beaten_b28, h8, if_neg (by rw [nI_le' (by omega) (by omega)]; omega), e1, bnd_some, e2, bnd_some, nI_1, lp]
          have hyy : BS (btG (Bs S.2.2.2) S p i y) := btG_BS hy (by omega)
          by_cases hip : i = p
          · rw [if_pos (by rw [hip])]
            have hG : btG (Bs S.2.2.2) S p i y = y := by rw [btG, if_pos hip]
            rw [hG]
            obtain ⟨K, e, f⟩ := ih n' (i + 1) y J2 (by omega) (by omega) hy (cb_Fr h f12)
            exact ⟨K, e, f12.tr f⟩
          · obtain ⟨J3, e3, f3, h3⟩ := th_felt (p := p) (N := 60) (by omega) b1 h2 (by rw [l2 i]; exact hp) (by rw [l2 i]; omega)
            have ff := f12.tr f3
            have e3' : f_X6_feltBehind (nI p) (60 : Int32) J2 = some ((btT (Bs S.2.2.2) S p i).1 3 p, J3) := e3
            rw [if_neg (by rw [nI_eq' (by omega) (by omega)]; exact hip), e3', bnd_some]
            by_cases hu : (btT (Bs S.2.2.2) S p i).1 3 p ≤ 0
            · have hG : btG (Bs S.2.2.2) S p i y = y := by rw [btG, if_neg hip, if_pos hu]
              rw [if_pos hu, hG]
              obtain ⟨K, e, f⟩ := ih n' (i + 1) y J3 (by omega) (by omega) hy (cb_Fr h ff)
              exact ⟨K, e, ff.tr f⟩
            · have h3' : TH (Bs S.2.2.2) J3 (btT (Bs S.2.2.2) S p i) := h3.resolve_left hu
              have hN : (btT (Bs S.2.2.2) S p i).2.1 = S.2.1 := by
                rw [btT, (itS_G (B := Bs S.2.2.2) 60 _ h2.1 (by rw [l2 i]; omega)).2.1, l2 i]
              have h14 : J3 14 i = (btT (Bs S.2.2.2) S p i).1 3 i := (h3'.2.1.2.2.2.1 i (by rw [hN]; omega)).2.2.2.1
              rw [if_neg hu, if_pos (inb_t (by omega) (by omega)), cl_nI (by omega), h14]
              by_cases hq : (btT (Bs S.2.2.2) S p i).1 3 i = 0
              · have hG : btG (Bs S.2.2.2) S p i y = y ||| (1 <<< (nI i &&& 31)) := by rw [btG, if_neg hip, if_neg hu, if_pos hq]
                rw [if_pos hq, lt1_eq, hG]
                rw [hG] at hyy
                obtain ⟨K, e, f⟩ := ih n' (i + 1) (y ||| (1 <<< (nI i &&& 31))) J3 (by omega) (by omega) hyy (cb_Fr h ff)
                exact ⟨K, e, ff.tr f⟩
              · have hG : btG (Bs S.2.2.2) S p i y = y := by rw [btG, if_neg hip, if_neg hu, if_neg hq]
                rw [if_neg hq, hG]
                obtain ⟨K, e, f⟩ := ih n' (i + 1) y J3 (by omega) (by omega) hy (cb_Fr h ff)
                exact ⟨K, e, ff.tr f⟩
      have keyM : ∀ (I0 : Mem), MR I0 S → BM I0 S.2.2.2 (Bs S.2.2.2) → ∀ (k n' i : Nat) (y : Int32) (J : Mem), i + k = S.2.1 → k < n' → MO (Bs S.2.2.2) I0 J S → ∃ K, f_X7_beaten_b32 (nI p) (nI w) n' (nI i) y J = some (if nI w = 0 then lp (btG (Bs S.2.2.2) S p) k i y else onesS (lp (btG (Bs S.2.2.2) S p) k i y), K) ∧ MO (Bs S.2.2.2) I0 K S := by
        intro I0 m0 b0 k
        induction k with
        | zero =>
          intro n' i y J hi hn' h
          obtain ⟨n', rfl⟩ : ∃ m, n' = m + 1 := ⟨n' - 1, by omega⟩
          rw [f_X7_beaten_b32, h.2.1.1, if_pos ((nI_le' (by omega) (by omega)).mpr (by omega)), s7_onesOf, bnd_some, some_if]
          exact ⟨J, rfl, h⟩
        | succ k ih =>
          intro n' i y J hi hn' h
          obtain ⟨n', rfl⟩ : ∃ m, n' = m + 1 := ⟨n' - 1, by omega⟩
          rw [f_X7_beaten_b32, h.2.1.1, if_neg (by rw [nI_le' (by omega) (by omega)]; omega), nI_1, lp]
          by_cases hip : i = p
          · rw [if_pos (by rw [hip]), show btG (Bs S.2.2.2) S p i y = y from by rw [btG, if_pos hip]]
            exact ih n' (i + 1) y J (by omega) (by omega) h
          · rw [if_neg (by rw [nI_eq' (by omega) (by omega)]; exact hip)]
            have inner : ∀ (l n2 j : Nat) (S' : RS) (J : Mem), j + l = S.2.1 → S'.2 = S.2 → l < n2 → lp (lvG p i) l j S' = lp (lvG p i) S.2.1 0 S → MO (Bs S.2.2.2) I0 J S' → ∃ K, f_X7_beaten_b50 (nI p) (nI w) (f_X7_beaten_b32 (nI p) (nI w) n') n2 (nI j) (nI i) y J = some (if nI w = 0 then lp (btG (Bs S.2.2.2) S p) k (i + 1) (btG (Bs S.2.2.2) S p i y) else onesS (lp (btG (Bs S.2.2.2) S p) k (i + 1) (btG (Bs S.2.2.2) S p i y)), K) ∧ MO (Bs S.2.2.2) I0 K S := by
              intro l
              induction l with
              | zero =>
                intro n2 j S' J hj hs hn2 hl h
                obtain ⟨n2, rfl⟩ : ∃ m, n2 = m + 1 := ⟨n2 - 1, by omega⟩
                have hN : S'.2.1 = S.2.1 := by rw [hs]
                obtain ⟨J1, e1, o1⟩ := mo_passes (N := 60) (by omega) b1 h (by rw [hs]; omega)
                have e1' : f_X7_passes (60 : Int32) J = some ((), J1) := e1
                have hl' : S' = lp (lvG p i) S.2.1 0 S := hl
                have o1' : MO (Bs S.2.2.2) I0 J1 (btT (Bs S.2.2.2) S p i) := by rw [hl'] at o1; exact o1
                have hNT : (btT (Bs S.2.2.2) S p i).2.1 = S.2.1 := by
                  rw [btT, ← hl', (itS_G (B := Bs S.2.2.2) 60 _ h.1 (by rw [hs]; omega)).2.1, hs]
                have mp := (o1'.2.1.2.2.2.1 p (by rw [hNT]; exact hp)).2.2.2.1
                have mi := (o1'.2.1.2.2.2.1 i (by rw [hNT]; omega)).2.2.2.1
                have gi := (o1'.1.2.2.2.2.1 i (by rw [hNT]; omega)).2.2.2.1
                obtain ⟨J2, e2, o2⟩ := mo_back g m0 b0 o1'
                rw [f_X7_beaten_b50, h.2.1.1, if_pos ((nI_le' (by omega) (by omega)).mpr (by omega)), e1', bnd_some, s7_isUp (by omega), bnd_some, mp]
                by_cases hu : (btT (Bs S.2.2.2) S p i).1 3 p ≤ 0
                · have hG : btG (Bs S.2.2.2) S p i y = y := by rw [btG, if_neg hip, if_pos hu]
                  rw [if_pos hu, if_pos rfl, f_X7_beaten_b135, f_X7_beaten_b136, lt1_eq, or0, e2, bnd_some, nI_1, hG]
                  exact ih n' (i + 1) y J2 (by omega) (by omega) o2
                · rw [if_neg hu, if_neg (show ¬ (1 : Int32) = 0 by decide), s7_isUp (by omega), bnd_some, mi]
                  by_cases hq : (btT (Bs S.2.2.2) S p i).1 3 i ≤ 0
                  · have hG : btG (Bs S.2.2.2) S p i y = y ||| (1 <<< (nI i &&& 31)) := by rw [btG, if_neg hip, if_neg hu, if_pos (felt0 gi.1 hq)]
                    rw [if_pos hq, if_pos rfl, f_X7_beaten_b136, lt1_eq, e2, bnd_some, nI_1, hG]
                    exact ih n' (i + 1) _ J2 (by omega) (by omega) o2
                  · have hG : btG (Bs S.2.2.2) S p i y = y := by rw [btG, if_neg hip, if_neg hu, if_neg (fun hh => hq (by rw [hh]; decide))]
                    rw [if_neg hq, if_neg (show ¬ (1 : Int32) = 0 by decide), f_X7_beaten_b135, f_X7_beaten_b136, lt1_eq, or0, e2, bnd_some, nI_1, hG]
                    exact ih n' (i + 1) y J2 (by omega) (by omega) o2
              | succ l ihl =>
                intro n2 j S' J hj hs hn2 hl h
                obtain ⟨n2, rfl⟩ : ∃ m, n2 = m + 1 := ⟨n2 - 1, by omega⟩
                have hN : S'.2.1 = S.2.1 := by rw [hs]
                have keep : f_X7_beaten_b82 (nI p) (nI w) (f_X7_beaten_b32 (nI p) (nI w) n') (f_X7_beaten_b50 (nI p) (nI w) (f_X7_beaten_b32 (nI p) (nI w) n') n2) (nI j) (nI i) y (nI (4 * j + 1)) J = f_X7_beaten_b50 (nI p) (nI w) (f_X7_beaten_b32 (nI p) (nI w) n') n2 (nI (j + 1)) (nI i) y J := by
                  rw [f_X7_beaten_b82, fact4, nI_1, lt1_eq, if_pos (inb_t (by omega) (by omega)), f_X7_beaten_b97, if_pos (inb_t (by omega) (by omega)), lt1_eq, cl_nI (by omega), wr_id, nI_1]
                rw [f_X7_beaten_b50, h.2.1.1, if_neg (by rw [nI_le' (by omega) (by omega)]; omega), fact4, nI_1]
                rw [lp] at hl
                by_cases q1 : j = p
                · rw [show lvG p i j S' = S' from by rw [lvG, if_pos q1]] at hl
                  rw [if_pos (by rw [q1]), keep]
                  exact ihl n2 (j + 1) S' J (by omega) hs (by omega) hl h
                · rw [if_neg (by rw [nI_eq' (by omega) (by omega)]; exact q1)]
                  by_cases q2 : j = i
                  · rw [show lvG p i j S' = S' from by rw [lvG, if_neg q1, if_pos q2]] at hl
                    rw [if_pos (by rw [q2]), keep]
                    exact ihl n2 (j + 1) S' J (by omega) hs (by omega) hl h
                  · rw [show lvG p i j S' = setf S' 3 j 0 from by rw [lvG, if_neg q1, if_neg q2]] at hl
                    have h2 : MO (Bs S.2.2.2) I0 (wr J 59 (4 * j + 1) 0) (setf S' 3 j 0) := mo_set (j := 1) (p := j) (v := 0) h (by omega) (GB3 (c := 0) (by omega))
                    rw [if_neg (by rw [nI_eq' (by omega) (by omega)]; exact q2), f_X7_beaten_b97, if_pos (inb_t (by omega) (by omega)), lt1_eq, cl_nI (by omega), nI_1]
                    exact ihl n2 (j + 1) (setf S' 3 j 0) _ (by omega) hs (by omega) hl h2
            exact inner S.2.1 FU 0 S J (by omega) rfl (by show _ < 4096; omega) rfl h
      obtain ⟨K, e, f⟩ := keyC S.2.1 FU 0 0 I (by omega) (by show _ < 4096; omega) BS_0 ⟨g, c, z, b2⟩
      have hvK := IV_c f hv
      have mK := hvK.1.2.1
      have bK := (hvK.2.2.1 _ t3).2.2
      obtain ⟨J1, e1, o1⟩ := mo_start g mK bK
      obtain ⟨K2, e3, o3⟩ := keyM K mK bK S.2.1 FU 0 0 J1 (by omega) (by show _ < 4096; omega) o1
      refine ⟨if nI w = 0 then lp (btG (Bs S.2.2.2) S p) S.2.1 0 0 else onesS (lp (btG (Bs S.2.2.2) S p) S.2.1 0 0), K, K2, ?_, ?_, IV_q f o3.2.2.2.2 o3.2.1 hv⟩
      · rw [f_X6_beaten, s6_isHat, bnd_some, c1, u, if_neg (by decide), s6_within, bnd_some, u3', if_neg (by decide)]
        exact e
      · rw [f_X7_beaten, s7_isOne, bnd_some, mK.1, u, if_neg (by decide), s7_in, bnd_some, u3', if_neg (by decide), e1, bnd_some]
        exact e3
    · have u3' : wth a2 0 1 = 0 := u3
      exact ⟨-7, I, I, by rw [f_X6_beaten, s6_isHat, bnd_some, c1, u, if_neg (by decide), s6_within, bnd_some, u3', if_pos rfl], by rw [f_X7_beaten, s7_isOne, bnd_some, m.1, u, if_neg (by decide), s7_in, bnd_some, u3', if_pos rfl], hI⟩
  · exact ⟨-5, I, I, by rw [f_X6_beaten, s6_isHat, bnd_some, c1, u, if_pos rfl], by rw [f_X7_beaten, s7_isOne, bnd_some, m.1, u, if_pos rfl], hI⟩
