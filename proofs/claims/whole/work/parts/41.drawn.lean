/-! PURE 32: betting; lots; drawn; odds -/
def fsS (S : RS) : Int32 := lp (fun p a => a + S.1 3 p) S.2.1 0 0
theorem fs_n {S : RS} (g : GS S) : ∃ s : Nat, s ≤ 600 ∧ fsS S = nI s := by
  have key : ∀ (k p s : Nat), p + k = S.2.1 → s ≤ 100 * p → ∃ s' : Nat, s' ≤ 100 * S.2.1 ∧ lp (fun p a => a + S.1 3 p) k p (nI s) = nI s' := by
    intro k
    induction k with
    | zero => intro p s hp hs; exact ⟨s, by omega, rfl⟩
    | succ k ih =>
      intro p s hp hs
      obtain ⟨f, hf, e, e2⟩ := nI_of_toInt (g.2.2.2.2.1 p (by omega)).2.2.2.1.1
      have h99 := (g.2.2.2.2.1 p (by omega)).2.2.2.1.2
      rw [lp, e, nI_add]
      exact ih (p + 1) (s + f) (by omega) (by omega)
  obtain ⟨s, hs, e⟩ := key S.2.1 0 0 (by omega) (by omega)
  exact ⟨s, by have := g.1; omega, e⟩
theorem s2_feltSum {ρ : Nat} {I : Mem} {S : RS} (hg : GS S) (hC : CR I ρ S) : f_X2_feltSum ρ I = some (fsS S, I) := by
  have hN := hg.1
  have key : ∀ (k n p : Nat) (b : Int32), p + k = S.2.1 → k < n → f_X2_feltSum_b4 ρ n (nI p) b I = some (lp (fun p a => a + S.1 3 p) k p b, I) := by
    intro k
    induction k with
    | zero =>
      intro n p b hp hn
      obtain ⟨n, rfl⟩ : ∃ m, n = m + 1 := ⟨n - 1, by omega⟩
      rw [f_X2_feltSum_b4, hC.1, if_pos ((nI_le' (by omega) (by omega)).mpr (by omega))]
      rfl
    | succ k ih =>
      intro n p b hp hn
      obtain ⟨n, rfl⟩ : ∃ m, n = m + 1 := ⟨n - 1, by omega⟩
      rw [f_X2_feltSum_b4, hC.1, if_neg (by rw [nI_le' (by omega) (by omega)]; omega), if_pos (inb_t (by omega) (by omega)), lt1_eq, cl_nI (by omega), (hC.2.2.2.1 p (by omega)).2.2.2.1, nI_1, ih n (p + 1) _ (by omega) (by omega), lp]
  exact key S.2.1 FU 0 0 (by omega) (by show _ < 4096; omega)
theorem p_betting (a a2 : Int32) : Pair (f_X6_betting a a2) (f_X7_betting a a2) := by
  intro I hI
  obtain ⟨S, T, Bs, tp, tx, sh, im, hv⟩ := id hI
  obtain ⟨⟨c, m, g, r, z⟩, -, -, -, -, -, -⟩ := id hv
  have hN6 := g.1
  have c1 : I 2 8 = nI S.2.1 := c.1
  have eM : f_X7_betting a a2 I = bnd (f_X7_isOne a I) fun v2 J1 => if v2 = 0 then (some ((-4611686018427387904 : Int64), J1)) else bnd (f_X7_in a2 (0 : Int32) (1 : Int32) J1) fun v4 J3 => if v4 = 0 then (some ((-4611686018427387904 : Int64), J3)) else if fsS S ≤ 0 then (some ((-4611686018427387904 : Int64), J3)) else lt1 (((4 : Int32) * a) + (1 : Int32)) fun v5 => if inb v5 24 = true then (bnd (f_X7_lowest ((J3 59 (v5).toNatClampNeg).toInt64) ((fsS S).toInt64) a2 J3) fun v7 J6 => some (v7, J6)) else none := by
    have key : ∀ (k n p : Nat) (b : Int32), p + k = S.2.1 → k < n → f_X7_betting_b5 a a2 n (nI p) b I = bnd (f_X7_isOne a I) fun v2 J1 => if v2 = 0 then (some ((-4611686018427387904 : Int64), J1)) else bnd (f_X7_in a2 (0 : Int32) (1 : Int32) J1) fun v4 J3 => if v4 = 0 then (some ((-4611686018427387904 : Int64), J3)) else if lp (fun p a => a + S.1 3 p) k p b ≤ 0 then (some ((-4611686018427387904 : Int64), J3)) else lt1 (((4 : Int32) * a) + (1 : Int32)) fun v5 => if inb v5 24 = true then (bnd (f_X7_lowest ((J3 59 (v5).toNatClampNeg).toInt64) ((lp (fun p a => a + S.1 3 p) k p b).toInt64) a2 J3) fun v7 J6 => some (v7, J6)) else none := by
      intro k
      induction k with
      | zero =>
        intro n p b hp hn
        obtain ⟨n, rfl⟩ : ∃ m, n = m + 1 := ⟨n - 1, by omega⟩
        rw [f_X7_betting_b5, m.1, if_pos ((nI_le' (by omega) (by omega)).mpr (by omega))]
        rfl
      | succ k ih =>
        intro n p b hp hn
        obtain ⟨n, rfl⟩ : ∃ m, n = m + 1 := ⟨n - 1, by omega⟩
        rw [f_X7_betting_b5, m.1, if_neg (by rw [nI_le' (by omega) (by omega)]; omega), fact4, nI_1, lt1_eq, if_pos (inb_t (by omega) (by omega)), lt1_eq, cl_nI (by omega), (m.2.2.2.1 p (by omega)).2.2.2.1, nI_1, ih n (p + 1) _ (by omega) (by omega), lp]
    exact key S.2.1 FU 0 0 (by omega) (by show _ < 4096; omega)
  obtain ⟨s, hs, es⟩ := fs_n g
  rcases hat_or a (N := S.2.1) (by omega) with ⟨p, hp, rfl, u⟩ | ⟨_, u⟩
  · obtain ⟨f, hf, ef, ef2⟩ := nI_of_toInt (g.2.2.2.2.1 p hp).2.2.2.1.1
    have h99 := (g.2.2.2.2.1 p hp).2.2.2.1.2
    have h6 : I 6 p = nI f := by rw [show I 6 p = S.1 3 p from (c.2.2.2.1 p hp).2.2.2.1, ef]
    have h59 : I 59 (4 * p + 1) = nI f := by rw [(m.2.2.2.1 p hp).2.2.2.1, ef]
    have eC : f_X6_betting (nI p) a2 I = bnd (f_X6_lowestTerms (nI f) (nI s) a2 I) fun v6 J5 => some (v6, J5) := by
      rw [f_X6_betting, s6_isHat, bnd_some, c1, u, if_neg (by decide), if_pos (inb_t (by omega) (by omega)), s2_feltSum (ρ := 0) g c, bnd_some, cl_nI (by omega), h6, es]
    rcases hat_or a2 (N := 2) (by omega) with ⟨w, hw, rfl, u2⟩ | ⟨_, u2⟩
    · have u2' : wth (nI w) 0 1 = 1 := u2
      have hs0 : nI s ≤ 0 ↔ s = 0 := by rw [i_le, ti_nI (by omega), show (0 : Int32).toInt = 0 from rfl]; omega
      by_cases h : s = 0
      · refine ⟨-4611686018427387904, I, I, ?_, ?_, hI⟩
        · rw [eC, f_X6_lowestTerms, s6_within, bnd_some, u2', if_neg (by decide), if_neg (show ¬ 0 < nI s by rw [h]; decide), bnd_some]
        · rw [eM, s7_isOne, bnd_some, m.1, u, if_neg (by decide), s7_in, bnd_some, u2', if_neg (by decide), es, if_pos (hs0.mpr h)]
      · refine ⟨if nI w = 0 then nL (f / Nat.gcd f s) else nL (s / Nat.gcd f s), I, I, ?_, ?_, hI⟩
        · rw [eC, f_X6_lowestTerms, s6_within, bnd_some, u2', if_neg (by decide), if_pos (show 0 < nI s by rw [i_lt, ti_nI (by omega), show (0 : Int32).toInt = 0 from rfl]; omega), s6_lowest (by omega) (by omega) (by omega), bnd_some]
        · have hl := s7_lowest (c := f) (n := s) (by omega) (by omega) (by omega) (w := nI w) (by rcases (show w = 0 ∨ w = 1 by omega) with rfl | rfl; exact Or.inl rfl; exact Or.inr rfl) I
          rw [eM, s7_isOne, bnd_some, m.1, u, if_neg (by decide), s7_in, bnd_some, u2', if_neg (by decide), es, if_neg (fun q => h (hs0.mp q)), fact4, nI_1, lt1_eq, if_pos (inb_t (by omega) (by omega)), cl_nI (by omega), h59, show (nI f).toInt64 = nL f from rfl, show (nI s).toInt64 = nL s from rfl, hl, bnd_some]
    · have u2' : wth a2 0 1 = 0 := u2
      exact ⟨-4611686018427387904, I, I, by rw [eC, f_X6_lowestTerms, s6_within, bnd_some, u2', if_pos rfl, bnd_some], by rw [eM, s7_isOne, bnd_some, m.1, u, if_neg (by decide), s7_in, bnd_some, u2', if_pos rfl], hI⟩
  · exact ⟨-4611686018427387904, I, I, by rw [f_X6_betting, s6_isHat, bnd_some, c1, u, if_pos rfl], by rw [eM, s7_isOne, bnd_some, m.1, u, if_pos rfl], hI⟩
/-- the draw -/
def lcg (x : Int64) : Int64 := (x * (48271 : Int64)) - (x * (48271 : Int64)) / (2147483647 : Int64) * (2147483647 : Int64)
def plc (x : Int64) : Int32 := (x - x / (64 : Int64) * (64 : Int64)).toInt32
def LB (x : Int64) : Prop := 0 ≤ x.toInt ∧ x.toInt < 2147483648
theorem lcg_b {x : Int64} (h : LB x) : LB (lcg x) := by
  obtain ⟨h1, h2⟩ := h
  have e1 : (48271 : Int64).toInt = 48271 := rfl
  have e2 : (2147483647 : Int64).toInt = 2147483647 := rfl
  have e3 : (x * (48271 : Int64)).toInt = x.toInt * 48271 := by rw [tl_mul] <;> rw [e1] <;> omega
  have e4 := tl_rem (a := x * (48271 : Int64)) (b := 2147483647) (by rw [e3]; omega) (by rw [e2]; omega)
  rw [e3, e2] at e4
  unfold LB lcg
  rw [e4]
  omega
theorem plc_b {x : Int64} (h : LB x) : GB 2 (plc x) := by
  obtain ⟨h1, h2⟩ := h
  have e2 : (64 : Int64).toInt = 64 := rfl
  have e4 := tl_rem (a := x) (b := 64) h1 (by rw [e2]; omega)
  rw [e2] at e4
  have e5 : (plc x).toInt = x.toInt % 64 := by
    unfold plc
    rw [Int64.toInt_toInt32, e4]
    exact Int.bmod_eq_of_le (by omega) (by omega)
  refine ⟨by rw [e5]; omega, ?_⟩
  rw [e5]
  show x.toInt % 64 ≤ 63
  omega
def drG (p : Nat) (z : RS × Int64) : RS × Int64 := (setf z.1 2 p (plc z.2), lcg z.2)
def drS (S : RS) (A : Nat) : RS := (lp drG S.2.1 0 (S, lcg (nL A + 1))).1
theorem seed_b {A : Nat} (h : A ≤ 1000000) : LB (lcg (nL A + 1)) := by
  refine lcg_b ?_
  have e1 : (1 : Int64).toInt = 1 := rfl
  unfold LB
  rw [tl_add] <;> rw [tl_nL (by omega), e1] <;> omega
theorem th_drawn {J : Mem} {S : RS} {B : Bk} {A : Nat} (hA : A ≤ 1000000) (hO : BOK B) (h : CB B J S) (hr : S.2.2.1.toInt ≤ 999) : ∃ K, f_X6_imagineDrawn (nI A) J = some ((), K) ∧ TH B K (itS B 20 (drS S A)) ∧ (drS S A).2 = S.2 ∧ FrC 1 J K := by
  have pass : ∀ (k n i : Nat) (S' : RS) (J : Mem), i + k = 20 → k < n → TH B J S' → S'.2.2.1.toInt + k ≤ 2000 → ∃ K, f_X6_imagineDrawn_b67 (nI A) n (nI i) J = some ((), K) ∧ TH B K (itS B k S') ∧ FrC 1 J K := by
    intro k
    induction k with
    | zero =>
      intro n i S' J hi hn h hr
      obtain ⟨n, rfl⟩ : ∃ m, n = m + 1 := ⟨n - 1, by omega⟩
      rw [f_X6_imagineDrawn_b67, show (20 : Int32) = nI 20 from rfl, if_pos ((nI_le' (by omega) (by omega)).mpr (by omega))]
      exact ⟨J, rfl, h, FrC.rf⟩
    | succ k ih =>
      intro n i S' J hi hn h hr
      obtain ⟨n, rfl⟩ : ∃ m, n = m + 1 := ⟨n - 1, by omega⟩
      obtain ⟨K, e, t, f⟩ := th_play hO h (by omega)
      obtain ⟨g', a, b', d⟩ := rndS_G (B := B) h.1 (by omega)
      obtain ⟨K', e', t', f'⟩ := ih n (i + 1) (rndS B S') K (by omega) (by omega) t (by rw [b']; omega)
      rw [f_X6_imagineDrawn_b67, show (20 : Int32) = nI 20 from rfl, if_neg (by rw [nI_le' (by omega) (by omega)]; omega), e, bnd_some, nI_1]
      exact ⟨K', e', t', f.tr f'⟩
  have key : ∀ (k n i : Nat) (zz : RS × Int64) (J : Mem), i + k = S.2.1 → k < n → zz.1.2 = S.2 → LB zz.2 → TH B J zz.1 → ∃ K, f_X6_imagineDrawn_b20 (nI A) n (nI i) zz.2 J = some ((), K) ∧ TH B K (itS B 20 (lp drG k i zz).1) ∧ (lp drG k i zz).1.2 = S.2 ∧ FrC 1 J K := by
    intro k
    induction k with
    | zero =>
      intro n i zz J hi hn hz hl h
      obtain ⟨n, rfl⟩ : ∃ m, n = m + 1 := ⟨n - 1, by omega⟩
      have hN6 := h.1.1
      have hN : zz.1.2.1 = S.2.1 := by rw [hz]
      have h8 : J 10 8 = nI S.2.1 := by rw [← hN]; exact h.2.1.1
      obtain ⟨K, e, t, f⟩ := pass 20 FU 0 zz.1 J (by omega) (by show _ < 4096; omega) h (by rw [hz]; omega)
      rw [f_X6_imagineDrawn_b20, h8, if_pos ((nI_le' (by omega) (by omega)).mpr (by omega))]
      exact ⟨K, e, t, hz, f⟩
    | succ k ih =>
      intro n i zz J hi hn hz hl h
      obtain ⟨n, rfl⟩ : ∃ m, n = m + 1 := ⟨n - 1, by omega⟩
      have hN6 := h.1.1
      have hN : zz.1.2.1 = S.2.1 := by rw [hz]
      have h8 : J 10 8 = nI S.2.1 := by rw [← hN]; exact h.2.1.1
      have h2 : TH B (wr J 13 i (plc zz.2)) (setf zz.1 2 i (plc zz.2)) := th_set0 (f := 2) (p := i) (v := plc zz.2) h (by omega) (plc_b hl)
      obtain ⟨K, e, t, hs, f⟩ := ih n (i + 1) (drG i zz) (wr J 13 i (plc zz.2)) (by omega) (by omega) hz (lcg_b hl) h2
      rw [f_X6_imagineDrawn_b20, h8, if_neg (by rw [nI_le' (by omega) (by omega)]; omega), if_pos (inb_t (by omega) (by omega)), lt1_eq, lt1_eq, cl_nI (by omega), nI_1]
      exact ⟨K, e, t, hs, FrC.tr (fun c _ h2 => wr_k _ _ _ (by omega)) f⟩
  obtain ⟨J1, e1, h1, f1⟩ := cb_im h
  obtain ⟨K, e, t, hs, f⟩ := key S.2.1 FU 0 (S, lcg (nL A + 1)) J1 (by omega) (by have := h.1.1; show _ < 4096; omega) rfl (seed_b hA) h1
  exact ⟨K, by rw [f_X6_imagineDrawn, e1, bnd_some, lt1_eq]; exact e, t, hs, f1.tr f⟩
theorem mo_31 {I J : Mem} {S : RS} {B : Bk} {v : Int32} (h : MO B I J S) : MO B I (wr J 56 31 v) S := by
  obtain ⟨g, ⟨m1, m2, m3, m4, m5⟩, b, k, q⟩ := h
  refine ⟨g, ⟨by rw [wr_j _ _ _ (by omega)]; exact m1, by rw [wr_j _ _ _ (by omega)]; exact m2, by rw [wr_j _ _ _ (by omega)]; exact m3, fun p hp => ?_, fun p q hp hq => by rw [wr_k _ _ _ (by omega)]; exact m5 p q hp hq⟩, ⟨fun k hk => by rw [wr_k _ _ _ (by omega)]; exact b.1 k hk, fun j hj => by rw [wr_k _ _ _ (by omega)]; exact b.2 j hj⟩, ⟨fun j hj => by rw [wr_k _ _ _ (by omega)]; exact k.1 j hj, fun j hj => by rw [wr_k _ _ _ (by omega)]; exact k.2.1 j hj, by rw [wr_k _ _ _ (by omega)]; exact k.2.2⟩, ⟨fun c a1 a2 a3 a4 a5 a6 => by rw [wr_k _ _ _ a1]; exact q.1 c a1 a2 a3 a4 a5 a6, fun j a1 a2 => by rw [wr_j _ _ _ a2]; exact q.2 j a1 a2⟩⟩
  rw [wr_k _ _ _ (by omega), wr_k _ _ _ (by omega), wr_k _ _ _ (by omega)]
  exact m4 p hp
theorem mo_lots {J : Mem} {S : RS} {B : Bk} {A : Nat} (hA : A ≤ 1000000) (hO : BOK B) (g : GS S) (m : MR J S) (b : BM J S.2.2.2 B) (hr : S.2.2.1.toInt ≤ 999) : ∃ K, f_X7_lotRing (nI A) J = some (upb (itS B 20 (drS S A)), K) ∧ K 56 31 = tsS (itS B 20 (drS S A)) ∧ MR K S ∧ FrQ J K := by
  have key : ∀ (k n i : Nat) (zz : RS × Int64) (x2 : Int64) (M : Mem), i + k = S.2.1 → k < n → zz.1.2 = S.2 → LB zz.2 → zz.2 = lcg x2 → MO B J M zz.1 → ∃ K, f_X7_lotRing_b12 (nI A) n (nI i) x2 M = some (upb (itS B 20 (lp drG k i zz).1), K) ∧ K 56 31 = tsS (itS B 20 (lp drG k i zz).1) ∧ MR K S ∧ FrQ J K := by
    intro k
    induction k with
    | zero =>
      intro n i zz x2 M hi hn hz hl hx h
      obtain ⟨n, rfl⟩ : ∃ m, n = m + 1 := ⟨n - 1, by omega⟩
      have hN6 := h.1.1
      have hN : zz.1.2.1 = S.2.1 := by rw [hz]
      obtain ⟨M1, e1, o1⟩ := mo_passes (N := 20) (by omega) hO h (by rw [hz]; omega)
      have e1' : f_X7_passes (20 : Int32) M = some ((), M1) := e1
      have o2 := mo_31 (v := tsS (itS B 20 zz.1)) o1
      obtain ⟨K, e2, mK, kK, qK⟩ := mo_lays g m o2
      obtain ⟨K', e3, -, l2, -⟩ := s7_lays (wr M1 56 31 (tsS (itS B 20 zz.1)))
      have hKK : K = K' := by rw [e2] at e3; exact (Prod.mk.inj (Option.some.inj e3)).2
      rw [f_X7_lotRing_b12, h.2.1.1, if_pos ((nI_le' (by omega) (by omega)).mpr (by omega)), e1', bnd_some, s7_upSet o1.2.1 o1.1, bnd_some, s7_talliesAll o1.1 o1.2.1, bnd_some, lt1_eq, e2, bnd_some]
      refine ⟨K, rfl, ?_, mK, qK⟩
      rw [hKK, l2 31 (by omega), wr_s]
      rfl
    | succ k ih =>
      intro n i zz x2 M hi hn hz hl hx h
      obtain ⟨n, rfl⟩ : ∃ m, n = m + 1 := ⟨n - 1, by omega⟩
      have hN6 := h.1.1
      have hN : zz.1.2.1 = S.2.1 := by rw [hz]
      have h2 : MO B J (wr M 59 (4 * i) (plc (lcg x2))) (setf zz.1 2 i (plc (lcg x2))) := mo_set (j := 0) (p := i) (v := plc (lcg x2)) h (by omega) (plc_b (by rw [← hx]; exact hl))
      rw [← hx] at h2
      obtain ⟨K, e, r1, r2, r3⟩ := ih n (i + 1) (drG i zz) (lcg x2) _ (by omega) (by omega) hz (lcg_b hl) (by rw [← hx]; rfl) h2
      rw [f_X7_lotRing_b12, h.2.1.1, if_neg (by rw [nI_le' (by omega) (by omega)]; omega), lt1_eq, fact4, if_pos (inb_t (by omega) (by omega)), lt1_eq, cl_nI (by omega), nI_1]
      rw [hx] at e
      exact ⟨K, e, r1, r2, r3⟩
  obtain ⟨J1, e1, o1⟩ := mo_start g m b
  obtain ⟨K, e, r1, r2, r3⟩ := key S.2.1 FU 0 (S, lcg (nL A + 1)) (nL A + 1) J1 (by omega) (by have := g.1; show _ < 4096; omega) rfl (seed_b hA) rfl o1
  exact ⟨K, by rw [f_X7_lotRing, lt1_eq, e1, bnd_some]; exact e, r1, r2, r3⟩
theorem lot_of {a : Int32} (h : ¬ wth a 0 99999 = 0) : ∃ A : Nat, A ≤ 99999 ∧ a = nI A := by
  by_cases q1 : (0 : Int32) ≤ a
  · by_cases q2 : a ≤ 99999
    · have g1 := (i_le _ _).mp q1
      have g2 := (i_le _ _).mp q2
      rw [show (0 : Int32).toInt = 0 from rfl] at g1
      rw [show (99999 : Int32).toInt = 99999 from rfl] at g2
      obtain ⟨n, hn, e, e2⟩ := nI_of_toInt g1
      exact ⟨n, by omega, e⟩
    · exact absurd (by rw [wth, if_pos q1, if_neg q2]) h
  · exact absurd (by rw [wth, if_neg q1]) h
theorem p_drawn (a w : Int32) : Pair (f_X6_drawn a w) (f_X7_drawn a w) := by
  intro I hI
  obtain ⟨S, T, Bs, tp, tx, sh, im, hv⟩ := id hI
  obtain ⟨⟨c, m, g, r, z⟩, ⟨t1, t2, t3, t4, t5⟩, b, -, -, -, -⟩ := id hv
  obtain ⟨b1, b2, b3⟩ := b S.2.2.2 t3
  by_cases w1 : wth a 0 99999 = 0
  · exact ⟨-2, I, I, by rw [f_X6_drawn, s6_within, bnd_some, if_pos w1], by rw [f_X7_drawn, s7_in, bnd_some, if_pos w1], hI⟩
  · by_cases w2 : wth w 0 1 = 0
    · exact ⟨-2, I, I, by rw [f_X6_drawn, s6_within, bnd_some, if_neg w1, s6_within, bnd_some, if_pos w2], by rw [f_X7_drawn, s7_in, bnd_some, if_neg w1, s7_in, bnd_some, if_pos w2], hI⟩
    · obtain ⟨A, hA, rfl⟩ := lot_of w1
      obtain ⟨J, e, t, -, f⟩ := th_drawn (A := A) (by omega) b1 (⟨g, c, z, b2⟩ : CB (Bs S.2.2.2) I S) r
      have hvJ := IV_c f hv
      obtain ⟨K, e2, k31, mK, qK⟩ := mo_lots (A := A) (by omega) b1 g hvJ.1.2.1 (hvJ.2.2.1 _ t3).2.2 r
      refine ⟨if w = 0 then upb (itS (Bs S.2.2.2) 20 (drS S A)) else tsS (itS (Bs S.2.2.2) 20 (drS S A)), J, K, ?_, ?_, IV_q f qK mK hv⟩
      · rw [f_X6_drawn, s6_within, bnd_some, if_neg w1, s6_within, bnd_some, if_neg w2, e, bnd_some, s2_upBits t.2.1 t.1, bnd_some, s2_tallySum t.1 t.2.1, bnd_some, some_if]
      · rw [f_X7_drawn, s7_in, bnd_some, if_neg w1, s7_in, bnd_some, if_neg w2, e2, bnd_some, k31, some_if]
