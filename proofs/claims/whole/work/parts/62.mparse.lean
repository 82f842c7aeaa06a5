/-! PURE 53: the model's reader is the parser -/
/-- what waits after level w ranks so much at least; what stands below ranks less -/
def lo (w : Nat) : Nat := if w = 0 then 1 else if w = 1 then 2 else if w = 2 then 3 else if w = 3 then 5 else if w = 4 then 6 else 8
def thr (w : Nat) : Nat := if w = 0 then 1 else if w = 1 then 2 else if w = 2 then 4 else if w = 3 then 5 else if w = 4 then 6 else 7
section RdP
variable {tx : Nat → Nat} {tp : Nat}
def GoM (tx : Nat → Nat) (tp τ w o k a : Nat) (L c s0 : List Nat) (J : Mem) (X : Option (Int32 × Mem)) : Prop := ∃ K n x2 L' P, X = f_X7_eRead_b14 n x2 0 K ∧ SM tx tp K τ a L' (s0 ++ P.reverse) (o + opS P) ∧ L' ++ P = L ++ c ++ List.replicate k 19 ∧ (∀ x, x ∈ P → okS x ∧ lo w ≤ rk x) ∧ StpE tx tp w a P ∧ o + opS P ≤ 5 ∧ tp + 1 ≤ n + a ∧ FrT τ J K
def OutM (tx : Nat → Nat) (tp τ w o k : Nat) (L s0 : List Nat) (J : Mem) (X : Option (Int32 × Mem)) (r : Res) : Prop := match r with
  | .inl f => FailM τ f J X
  | .inr (a, c) => GoM tx tp τ w o k a L c s0 J X
def x2C (tx : Nat → Nat) (tp w o a : Nat) (x2 : Int32) : Prop := (w ≤ 2 ∧ x2 = 1) ∨ (3 ≤ w ∧ (x2 = 0 ∨ (x2 = 1 ∧ ¬ (tkK (tkA tx tp a) = 3 ∧ o < 5))))
theorem FailM.tr {τ f : Nat} {J J2 : Mem} {X : Option (Int32 × Mem)} (h : FrT τ J J2) (h2 : FailM τ f J2 X) : FailM τ f J X := by
  obtain ⟨K, e, p, f⟩ := h2
  exact ⟨K, e, p, h.tr f⟩
theorem has4_app {P : List Nat} {s : Nat} (h : has4 P) : has4 (P ++ [s]) := by
  obtain ⟨y, x, q, rfl, h1, h2, h3⟩ := h
  exact ⟨y, x, q ++ [s], by simp, h1, h2, h3⟩
theorem StpE_app {w a s : Nat} {P : List Nat} (h : StpE tx tp w a P) : StpE tx tp w a (P ++ [s]) := ⟨h.1, h.2.1, fun h1 h2 => has4_app (h.2.2.1 h1 h2), h.2.2.2.1, h.2.2.2.2⟩
theorem end_k {a : Nat} (ha : a ≤ tp) (h : tp ≤ a) : tkK (tkA tx tp a) = 9 := by
  obtain rfl : a = tp := by omega
  have hb := LXs_b (tx := tx) (Nat.le_refl a)
  have e : LXs tx a a = a := by omega
  rw [tkA, e, LX1, if_neg (by omega)]
  exact tkK_e
theorem lp_M {g w kind o τ : Nat} {s0 L : List Nat} {J : Mem} (hτ : τ < 6) (ho : o ≤ 5) (hw : (w = 0 ∧ kind = 1) ∨ (w = 1 ∧ kind = 2) ∨ (w = 3 ∧ kind = 5) ∨ (w = 4 ∧ kind = 6)) (hT : TopLt s0 (thr w)) (IH : ∀ a J L s0 n x2, TopLt s0 (thr (w + 1)) → SM tx tp J τ a L s0 o → x2C tx tp (w + 1) o a x2 → tp + 1 ≤ n + a → OutM tx tp τ (w + 1) o 0 L s0 J (f_X7_eRead_b14 n x2 1 J) (PR tx tp g (w + 1) o a)) : ∀ (m a : Nat) (c : List Nat) (K : Mem) (n : Nat) (x2 : Int32) (L' P : List Nat), 160 ≤ m + a → SM tx tp K τ a L' (s0 ++ P.reverse) (o + opS P) → L' ++ P = L ++ c → (∀ x, x ∈ P → okS x ∧ lo w ≤ rk x) → StpE tx tp (w + 1) a P → o + opS P ≤ 5 → tp + 1 ≤ n + a → FrT τ J K → OutM tx tp τ w o 0 L s0 J (f_X7_eRead_b14 n x2 0 K) (lpR tx tp kind (PR tx tp g (w + 1) o) m a c) := by
  have stop : ∀ (a : Nat) (c : List Nat) (K : Mem) (n : Nat) (x2 : Int32) (L' P : List Nat), tkK (tkA tx tp a) ≠ kind → SM tx tp K τ a L' (s0 ++ P.reverse) (o + opS P) → L' ++ P = L ++ c → (∀ x, x ∈ P → okS x ∧ lo w ≤ rk x) → StpE tx tp (w + 1) a P → o + opS P ≤ 5 → tp + 1 ≤ n + a → FrT τ J K → OutM tx tp τ w o 0 L s0 J (f_X7_eRead_b14 n x2 0 K) (.inr (a, c)) := by
    intro a c K n x2 L' P hk h hL hP hS hoP hn hf
    refine ⟨K, n, x2, L', P, rfl, h, by rw [hL]; simp, hP, ?_, hoP, hn, hf⟩
    obtain ⟨S1, S2, S3, S4, S5⟩ := hS
    rcases hw with ⟨rfl, rfl⟩ | ⟨rfl, rfl⟩ | ⟨rfl, rfl⟩ | ⟨rfl, rfl⟩
    · exact ⟨fun _ => S1 (by omega), fun _ => S2 (by omega), fun _ => S3 (by omega), fun _ => S4 (by omega), fun _ => hk⟩
    · exact ⟨fun _ => S1 (by omega), fun _ => S2 (by omega), fun _ => S3 (by omega), fun _ => hk, fun h => absurd h (by omega)⟩
    · exact ⟨fun _ => S1 (by omega), fun _ => hk, fun h => absurd h (by omega), fun h => absurd h (by omega), fun h => absurd h (by omega)⟩
    · exact ⟨fun _ => hk, fun h => absurd h (by omega), fun h => absurd h (by omega), fun h => absurd h (by omega), fun h => absurd h (by omega)⟩
  intro m
  induction m with
  | zero =>
    intro a c K n x2 L' P hm h hL hP hS hoP hn hf
    have ha := h.1.2.2.1
    have ht := h.1.2.2.2.1
    rw [lpR]
    exact stop a c K n x2 L' P (by rw [end_k ha (by omega)]; omega) h hL hP hS hoP hn hf
  | succ m ih =>
    intro a c K n x2 L' P hm h hL hP hS hoP hn hf
    have ha := h.1.2.2.1
    rw [lpR]
    by_cases q : tkK (tkA tx tp a) = kind
    · rw [if_pos q]
      obtain ⟨n, rfl⟩ : ∃ n', n = n' + 1 := ⟨n - 1, by omega⟩
      have hp := nxA_p (tx := tx) ha (by rw [q]; omega)
      have hb := nxA_b (tx := tx) ha
      -- what the sign is
      have hs : ∃ s, tkM (tkA tx tp a) = s ∧ ru s = lo w ∧ lo w = thr w ∧ rk s ≠ 4 ∧ rk s < thr (w + 1) ∧ lo w ≤ rk s ∧ okS s ∧ opn s = 0 ∧ x2C tx tp (w + 1) o (nxA tx tp a) (if 12 < s then 0 else 1) := by
        rcases hw with ⟨rfl, rfl⟩ | ⟨rfl, rfl⟩ | ⟨rfl, rfl⟩ | ⟨rfl, rfl⟩
        · exact ⟨11, by rw [tk1.mp q]; rfl, rfl, rfl, by decide, by decide, by decide, Or.inr (by omega), rfl, Or.inl ⟨by omega, rfl⟩⟩
        · exact ⟨12, by rw [tk2.mp q]; rfl, rfl, rfl, by decide, by decide, by decide, Or.inr (by omega), rfl, Or.inl ⟨by omega, rfl⟩⟩
        · rcases tk5.mp q with e | e
          · exact ⟨16, by rw [e]; rfl, rfl, rfl, by decide, by decide, by decide, Or.inr (by omega), rfl, Or.inr ⟨by omega, Or.inl rfl⟩⟩
          · exact ⟨17, by rw [e]; rfl, rfl, rfl, by decide, by decide, by decide, Or.inr (by omega), rfl, Or.inr ⟨by omega, Or.inl rfl⟩⟩
        · exact ⟨18, by rw [tk6.mp q]; rfl, rfl, rfl, by decide, by decide, by decide, Or.inr (by omega), rfl, Or.inr ⟨by omega, Or.inl rfl⟩⟩
      obtain ⟨s, e0, e1, e2, e3, e4, e5, e6, e7, e8⟩ := hs
      obtain ⟨K1, g1, g2, g3⟩ := so_sign (n := n) (x2 := x2) hτ (by omega) (by rw [e0, e1]; exact hP) (by rw [e0, e1, e2]; exact hT) (by rw [e0]; intro hh; exact absurd hh e3) h hoP
      rw [e0] at g1 g2
      have hI := IH (nxA tx tp a) K1 (L' ++ P) (s0 ++ [s]) n _ (TopLt.mk e6 e4) g2 e8 (by omega)
      rw [g1, e0]
      cases hr : PR tx tp g (w + 1) o (nxA tx tp a) with
      | inl f =>
        rw [hr] at hI
        exact FailM.tr (hf.tr g3) hI
      | inr p =>
        obtain ⟨a2, c2⟩ := p
        rw [hr] at hI
        obtain ⟨K2, n2, y2, L2, P2, i1, i2, i3, i4, i5, i6, i7, i8⟩ := hI
        have hg := (PR_g g (w + 1) o _ hb.2.1 a2 c2 hr).1
        have hoS : opS (P2 ++ [s]) = opS P2 := by
          rw [opS_app]
          show opS P2 + (opn s + 0) = _
          omega
        rw [i1]
        refine ih a2 (c ++ c2 ++ [s]) K2 n2 y2 L2 (P2 ++ [s]) (by omega) ?_ ?_ ?_ (StpE_app i5) (by rw [hoS]; exact i6) i7 (hf.tr (g3.tr i8))
        · rw [hoS, show s0 ++ (P2 ++ [s]).reverse = s0 ++ [s] ++ P2.reverse by simp]
          exact i2
        · rw [← List.append_assoc, i3, hL]
          simp
        · intro x hx
          rw [List.mem_append, List.mem_singleton] at hx
          rcases hx with hx | rfl
          · refine ⟨(i4 x hx).1, ?_⟩
            have h1 := (i4 x hx).2
            have h2 : lo w ≤ lo (w + 1) := by rcases hw with ⟨rfl, -⟩ | ⟨rfl, -⟩ | ⟨rfl, -⟩ | ⟨rfl, -⟩ <;> decide
            omega
          · exact ⟨e6, e5⟩
    · rw [if_neg q]
      exact stop a c K n x2 L' P q h hL hP hS hoP hn hf
/-- one at level w + 1, then the loop -/
theorem two_M {g w kind o τ a n : Nat} {x2 : Int32} {s0 L : List Nat} {J : Mem} (hτ : τ < 6) (ho : o ≤ 5) (hw : (w = 0 ∧ kind = 1) ∨ (w = 1 ∧ kind = 2) ∨ (w = 3 ∧ kind = 5) ∨ (w = 4 ∧ kind = 6)) (hT : TopLt s0 (thr w)) (IH : ∀ a J L s0 n x2, TopLt s0 (thr (w + 1)) → SM tx tp J τ a L s0 o → x2C tx tp (w + 1) o a x2 → tp + 1 ≤ n + a → OutM tx tp τ (w + 1) o 0 L s0 J (f_X7_eRead_b14 n x2 1 J) (PR tx tp g (w + 1) o a)) (h : SM tx tp J τ a L s0 o) (hx : x2C tx tp w o a x2) (hn : tp + 1 ≤ n + a) : OutM tx tp τ w o 0 L s0 J (f_X7_eRead_b14 n x2 1 J) (thenR (PR tx tp g (w + 1) o a) fun a1 c => lpR tx tp kind (PR tx tp g (w + 1) o) 160 a1 c) := by
  have hx' : x2C tx tp (w + 1) o a x2 := by
    rcases hx with ⟨h1, h2⟩ | ⟨h1, h2⟩
    · exact Or.inl ⟨by omega, h2⟩
    · exact Or.inr ⟨by omega, h2⟩
  have hth : thr w ≤ thr (w + 1) ∧ lo w ≤ lo (w + 1) := by rcases hw with ⟨rfl, -⟩ | ⟨rfl, -⟩ | ⟨rfl, -⟩ | ⟨rfl, -⟩ <;> decide
  have hI := IH a J L s0 n x2 (hT.up hth.1) h hx' hn
  cases hr : PR tx tp g (w + 1) o a with
  | inl f => rw [hr] at hI; exact hI
  | inr p =>
    obtain ⟨a1, c⟩ := p
    rw [hr] at hI
    obtain ⟨K2, n2, y2, L2, P2, i1, i2, i3, i4, i5, i6, i7, i8⟩ := hI
    rw [i1]
    exact lp_M hτ ho hw hT IH 160 a1 c K2 n2 y2 L2 P2 (by omega) i2 (by rw [i3]; simp) (fun x hx => ⟨(i4 x hx).1, by have := (i4 x hx).2; omega⟩) i5 i6 i7 i8
theorem rm_PR : ∀ (g w o k a τ : Nat) (J : Mem) (L s0 : List Nat) (n : Nat) (x2 : Int32), w ≤ 5 → o + k ≤ 5 → (w < 5 → k = 0) → 6 * (5 - (o + k)) + (5 - w) < g → τ < 6 → TopLt s0 (thr w) → SM tx tp J τ a L (s0 ++ List.replicate k 19) (o + k) → x2C tx tp w (o + k) a x2 → tp + 1 ≤ n + a → OutM tx tp τ w o k L s0 J (f_X7_eRead_b14 n x2 1 J) (PR tx tp g w (o + k) a) := by
  intro g
  induction g with
  | zero => intro w o k a τ J L s0 n x2 _ _ _ hg; omega
  | succ g ih =>
    intro w o k a τ J L s0 n x2 hw ho hk hg hτ hT h hx hn
    have ha := h.1.2.2.1
    obtain ⟨n, rfl⟩ : ∃ n', n = n' + 1 := ⟨n - 1, by omega⟩
    have IH0 : ∀ w', w' < 5 → ∀ o', o' ≤ 5 → 6 * (5 - o') + (5 - w') < g → ∀ a J L s0 n x2, TopLt s0 (thr w') → SM tx tp J τ a L s0 o' → x2C tx tp w' o' a x2 → tp + 1 ≤ n + a → OutM tx tp τ w' o' 0 L s0 J (f_X7_eRead_b14 n x2 1 J) (PR tx tp g w' o' a) := by
      intro w' hw' o' ho' hg' a J L s0 n x2 hT h hx hn
      exact ih w' o' 0 a τ J L s0 n x2 (by omega) ho' (fun _ => rfl) hg' hτ hT (by rw [show s0 ++ List.replicate 0 19 = s0 by simp]; exact h) hx hn
    have IH5 : ∀ o', o' ≤ 5 → 6 * (5 - o') < g → ∀ a J L s0 n x2, TopLt s0 (thr 5) → SM tx tp J τ a L s0 o' → x2C tx tp 5 o' a x2 → tp + 1 ≤ n + a → OutM tx tp τ 5 o' 0 L s0 J (f_X7_eRead_b14 n x2 1 J) (PR tx tp g 5 o' a) := by
      intro o' ho' hg' a J L s0 n x2 hT h hx hn
      exact ih 5 o' 0 a τ J L s0 n x2 (by omega) ho' (fun _ => rfl) (by omega) hτ hT (by rw [show s0 ++ List.replicate 0 19 = s0 by simp]; exact h) hx hn
    by_cases hw5 : w < 5
    · have hk0 := hk hw5
      subst hk0
      rw [show s0 ++ List.replicate 0 19 = s0 by simp, Nat.add_zero] at h
      rw [Nat.add_zero] at ho hx hg
      show OutM tx tp τ w o 0 L s0 J (f_X7_eRead_b14 (n + 1) x2 1 J) (PR tx tp (g + 1) w o a)
      rcases (show w = 0 ∨ w = 1 ∨ w = 2 ∨ w = 3 ∨ w = 4 by omega) with rfl | rfl | rfl | rfl | rfl
      · rw [PR, if_pos rfl]
        exact two_M hτ ho (by omega) hT (IH0 1 (by omega) o ho (by omega)) h hx hn
      · rw [PR, if_neg (by decide), if_pos rfl]
        exact two_M hτ ho (by omega) hT (IH0 2 (by omega) o ho (by omega)) h hx hn
      · rw [PR, if_neg (by decide), if_neg (by decide), if_pos rfl]
        have hx2 : x2 = 1 := by
          rcases hx with ⟨-, h2⟩ | ⟨h1, -⟩
          · exact h2
          · omega
        by_cases q : tkK (tkA tx tp a) = 3 ∧ o < 5
        · rw [if_pos q]
          have hp := nxA_p (tx := tx) ha (by rw [q.1]; omega)
          have hb := nxA_b (tx := tx) ha
          obtain ⟨K, e, s, f⟩ := so_open (n := n) (x2 := x2) (y2 := 1) (x := 13) h q.2 (Or.inl ⟨q.1, hx2, rfl, rfl⟩)
          rw [e]
          have hI := IH0 2 (by omega) (o + 1) (by omega) (by omega) (nxA tx tp a) K L (s0 ++ [13]) n 1 (TopLt.mk (Or.inr (by omega)) (by decide)) s (Or.inl ⟨by omega, rfl⟩) (by omega)
          cases hr : PR tx tp g 2 (o + 1) (nxA tx tp a) with
          | inl f' => rw [hr] at hI; exact FailM.tr f hI
          | inr p =>
            obtain ⟨a1, c⟩ := p
            rw [hr] at hI
            obtain ⟨K2, n2, y2, L2, P2, i1, i2, i3, i4, i5, i6, i7, i8⟩ := hI
            have hoS : o + opS (P2 ++ [13]) = o + 1 + opS P2 := by
              rw [opS_app]
              show o + (opS P2 + (1 + 0)) = _
              omega
            refine ⟨K2, n2, y2, L2, P2 ++ [13], i1, ?_, ?_, ?_, StpE_app i5, by rw [hoS]; exact i6, i7, f.tr i8⟩
            · have hrev : s0 ++ (P2 ++ [13]).reverse = s0 ++ [13] ++ P2.reverse := by simp
              rw [hoS, hrev]
              exact i2
            · rw [← List.append_assoc, i3]
              simp
            · intro x hx
              rw [List.mem_append, List.mem_singleton] at hx
              rcases hx with hx | rfl
              · exact i4 x hx
              · exact ⟨Or.inr (by omega), by decide⟩
        · rw [if_neg q]
          have hI := IH0 3 (by omega) o ho (by omega) a J L s0 (n + 1) x2 (hT.up (by decide)) h (Or.inr ⟨by omega, Or.inr ⟨hx2, q⟩⟩) hn
          cases hr : PR tx tp g 3 o a with
          | inl f' => rw [hr] at hI; exact hI
          | inr p =>
            obtain ⟨a1, c⟩ := p
            rw [hr] at hI
            obtain ⟨K2, n2, y2, L2, P2, i1, i2, i3, i4, i5, i6, i7, i8⟩ := hI
            show OutM tx tp τ 2 o 0 L s0 J _ (if tkK (tkA tx tp a1) = 4 then _ else _)
            have ha1 := i2.1.2.2.1
            by_cases q4 : tkK (tkA tx tp a1) = 4
            · rw [if_pos q4]
              obtain ⟨n2, rfl⟩ : ∃ n', n2 = n' + 1 := ⟨n2 - 1, by omega⟩
              have hp := nxA_p (tx := tx) ha1 (by rw [q4]; omega)
              have hb := nxA_b (tx := tx) ha1
              have hs : ∃ s, tkM (tkA tx tp a1) = s ∧ ru s = 5 ∧ rk s = 4 ∧ okS s ∧ opn s = 0 ∧ 12 < s := by
                rcases tk4.mp q4 with e | e
                · exact ⟨14, by rw [e]; rfl, rfl, rfl, Or.inr (by omega), rfl, by omega⟩
                · exact ⟨15, by rw [e]; rfl, rfl, rfl, Or.inr (by omega), rfl, by omega⟩
              obtain ⟨s, e0, e1, e2, e3, e4, e5⟩ := hs
              obtain ⟨K1, g1, g2, g3⟩ := so_sign (n := n2) (x2 := y2) hτ (by omega) (by rw [e0, e1]; exact i4) (by rw [e0, e1]; exact hT.up (by decide)) (by intro _; exact hT) i2 i6
              rw [e0] at g1 g2
              rw [if_pos e5] at g1
              have hI2 := IH0 3 (by omega) o ho (by omega) (nxA tx tp a1) K1 (L2 ++ P2) (s0 ++ [s]) n2 0 (TopLt.mk e3 (by rw [e2]; decide)) g2 (Or.inr ⟨by omega, Or.inl rfl⟩) (by omega)
              rw [i1, g1, e0]
              cases hr2 : PR tx tp g 3 o (nxA tx tp a1) with
              | inl f' => rw [hr2] at hI2; exact FailM.tr (i8.tr g3) hI2
              | inr p2 =>
                obtain ⟨a2, c2⟩ := p2
                rw [hr2] at hI2
                obtain ⟨K3, n3, z2, L3, P3, j1, j2, j3, j4, j5, j6, j7, j8⟩ := hI2
                have hoS : opS (P3 ++ [s]) = opS P3 := by
                  rw [opS_app]
                  show opS P3 + (opn s + 0) = _
                  omega
                refine ⟨K3, n3, z2, L3, P3 ++ [s], j1, ?_, ?_, ?_, ?_, by rw [hoS]; exact j6, j7, i8.tr (g3.tr j8)⟩
                · rw [hoS, show s0 ++ (P3 ++ [s]).reverse = s0 ++ [s] ++ P3.reverse by simp]
                  exact j2
                · rw [← List.append_assoc, j3, i3]
                  simp
                · intro x hx
                  rw [List.mem_append, List.mem_singleton] at hx
                  rcases hx with hx | rfl
                  · refine ⟨(j4 x hx).1, ?_⟩
                    have h1 : 5 ≤ rk x := (j4 x hx).2
                    show 3 ≤ rk x
                    omega
                  · refine ⟨e3, ?_⟩
                    show 3 ≤ rk x
                    omega
                · exact ⟨fun _ => j5.1 (by omega), fun _ => j5.2.1 (by omega), fun _ _ => ⟨P3, s, [], rfl, e3, e2, fun z hz => j4 z hz⟩, fun h => absurd h (by omega), fun h => absurd h (by omega)⟩
            · rw [if_neg q4]
              refine ⟨K2, n2, y2, L2, P2, i1, i2, i3, ?_, ⟨fun _ => i5.1 (by omega), fun _ => i5.2.1 (by omega), fun _ hh => absurd hh q4, fun h => absurd h (by omega), fun h => absurd h (by omega)⟩, i6, i7, i8⟩
              intro x hx
              refine ⟨(i4 x hx).1, ?_⟩
              have h1 : 5 ≤ rk x := (i4 x hx).2
              show 3 ≤ rk x
              omega
      · rw [PR, if_neg (by decide), if_neg (by decide), if_neg (by decide), if_pos rfl]
        exact two_M hτ ho (by omega) hT (IH0 4 (by omega) o ho (by omega)) h hx hn
      · rw [PR, if_neg (by decide), if_neg (by decide), if_neg (by decide), if_neg (by decide), if_pos rfl]
        exact two_M hτ ho (by omega) hT (IH5 o ho (by omega)) h hx hn
    · obtain rfl : w = 5 := by omega
      have hb := nxA_b (tx := tx) ha
      have hx' : (x2 = 0 ∨ x2 = 1) ∧ (tkK (tkA tx tp a) = 3 → x2 = 0 ∨ o + k = 5) := by
        rcases hx with ⟨h1, -⟩ | ⟨-, h2⟩
        · omega
        · rcases h2 with h2 | ⟨h2, h3⟩
          · exact ⟨Or.inl h2, fun _ => Or.inl h2⟩
          · refine ⟨Or.inr h2, fun hh => Or.inr ?_⟩
            by_cases q : o + k < 5
            · exact absurd ⟨hh, q⟩ h3
            · omega
      have vac : ∀ a P, StpE tx tp 5 a P := fun a P => ⟨fun h => absurd h (by omega), fun h => absurd h (by omega), fun h => absurd h (by omega), fun h => absurd h (by omega), fun h => absurd h (by omega)⟩
      have hT7 : TopLt s0 7 := hT
      rw [PR, if_neg (by decide), if_neg (by decide), if_neg (by decide), if_neg (by decide), if_neg (by decide)]
      by_cases q0 : tkK (tkA tx tp a) = 0
      · rw [if_pos q0]
        have hp := nxA_p (tx := tx) ha (by rw [q0]; omega)
        obtain ⟨K, e, s, f⟩ := so_num (n := n) (x2 := x2) hτ h hT7 q0 ho
        refine ⟨K, n, x2, L ++ [tkM (tkA tx tp a)] ++ List.replicate k 19, [], e, ?_, by simp, fun x hx => absurd hx (by simp), vac _ _, by show o + 0 ≤ 5; omega, by omega, f⟩
        rw [show s0 ++ ([] : List Nat).reverse = s0 by simp]
        exact s
      rw [if_neg q0]
      by_cases q19 : tkA tx tp a = -19 ∧ o + k < 5
      · rw [if_pos q19]
        have hp := nxA_p (tx := tx) ha (by rw [q19.1]; decide)
        obtain ⟨K, e, s, f⟩ := so_open (n := n) (x2 := x2) (y2 := 0) (x := 19) h q19.2 (Or.inr (Or.inl ⟨q19.1, rfl, rfl⟩))
        have hst : s0 ++ List.replicate k 19 ++ [19] = s0 ++ List.replicate (k + 1) 19 := by rw [List.replicate_succ', List.append_assoc]
        rw [hst] at s
        rw [e]
        have hI := ih 5 o (k + 1) (nxA tx tp a) τ K L s0 n 0 (by omega) (by omega) (fun h => absurd h (by omega)) (by omega) hτ hT s (Or.inr ⟨by omega, Or.inl rfl⟩) (by omega)
        have hI' : OutM tx tp τ 5 o (k + 1) L s0 K (f_X7_eRead_b14 n 0 1 K) (PR tx tp g 5 (o + k + 1) (nxA tx tp a)) := hI
        cases hr : PR tx tp g 5 (o + k + 1) (nxA tx tp a) with
        | inl f' => rw [hr] at hI'; exact FailM.tr f hI'
        | inr p =>
          obtain ⟨a1, c⟩ := p
          rw [hr] at hI'
          obtain ⟨K2, n2, y2, L2, P2, i1, i2, i3, i4, i5, i6, i7, i8⟩ := hI'
          refine ⟨K2, n2, y2, L2, P2, i1, i2, ?_, i4, i5, i6, i7, f.tr i8⟩
          rw [i3, List.replicate_succ]
          simp
      rw [if_neg q19]
      by_cases q7 : tkK (tkA tx tp a) = 7 ∧ o + k < 5
      · rw [if_pos q7]
        have hp := nxA_p (tx := tx) ha (by rw [q7.1]; omega)
        obtain ⟨K, e, s, f⟩ := so_open (n := n) (x2 := x2) (y2 := 1) (x := 0) h q7.2 (Or.inr (Or.inr ⟨q7.1, rfl, rfl⟩))
        have hI := IH0 0 (by omega) (o + k + 1) (by omega) (by omega) (nxA tx tp a) K L (s0 ++ List.replicate k 19 ++ [0]) n 1 (TopLt.mk (Or.inl rfl) (by decide)) s (Or.inl ⟨by omega, rfl⟩) (by omega)
        rw [e]
        cases hr : PR tx tp g 0 (o + k + 1) (nxA tx tp a) with
        | inl f' => rw [hr] at hI; exact FailM.tr f hI
        | inr p =>
          obtain ⟨a1, c⟩ := p
          rw [hr] at hI
          obtain ⟨K2, n2, y2, L2, P2, i1, i2, i3, i4, i5, i6, i7, i8⟩ := hI
          have ha1 := i2.1.2.2.1
          obtain ⟨n2, rfl⟩ : ∃ n', n2 = n' + 1 := ⟨n2 - 1, by omega⟩
          have i4' : ∀ x, x ∈ P2 → okS x ∧ 1 ≤ rk x := i4
          have i3' : L2 ++ P2 = L ++ c := by rw [i3]; simp
          show OutM tx tp τ 5 o k L s0 J _ (if tkK (tkA tx tp a1) = 8 then _ else _)
          rw [i1]
          by_cases q8 : tkK (tkA tx tp a1) = 8
          · rw [if_pos q8]
            have hp1 := nxA_p (tx := tx) ha1 (by rw [q8]; omega)
            obtain ⟨K3, e3, s3, f3⟩ := so_close (n := n2) (x2 := y2) hτ q8 i4' hT7 i2 i6
            rw [i3'] at s3
            refine ⟨K3, n2, y2, L ++ c ++ List.replicate k 19, [], e3, ?_, by simp, fun x hx => absurd hx (by simp), vac _ _, by show o + 0 ≤ 5; omega, by omega, f.tr (i8.tr f3)⟩
            rw [show s0 ++ ([] : List Nat).reverse = s0 by simp]
            exact s3
          · rw [if_neg q8]
            exact FailM.tr (f.tr i8) (so_end hτ i4' (TopLt.mk (Or.inl rfl) (by decide)) i5 (fun hh => absurd hh q8) (fun _ => by simp) i2 i6)
      rw [if_neg q7]
      refine so_no h hx'.1 q0 hx'.2 (fun hh => ?_) (fun hh => ?_)
      · by_cases q : o + k < 5
        · exact absurd ⟨hh, q⟩ q19
        · omega
      · by_cases q : o + k < 5
        · exact absurd ⟨hh, q⟩ q7
        · omega
end RdP
