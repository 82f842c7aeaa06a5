/-! PURE 3: what a text says -/
/-- a text: its codes (100000 and a number; 0 .. 5 names; 11 .. 19 signs), where its parts begin -/
abbrev Bk : Type := (Nat → Nat) × (Nat → Nat)
def ctk (a : Nat) : Int32 := if 100000 ≤ a then nI (a - 100000) else ([-9, -10, -11, -12, -13, -14, 0, 0, 0, 0, 0, -6, -7, -8, -21, -22, -18, -19, -20, -23] : List Int32).getD a 0
def wf (c : Nat → Nat) : Nat → Nat → Nat → Prop
  | 0, _, d => d = 1
  | k + 1, i, d => if 100000 ≤ c i then c i < 110000 ∧ d < 160 ∧ wf c k (i + 1) (d + 1) else if c i < 6 then d < 160 ∧ wf c k (i + 1) (d + 1) else if c i = 13 ∨ c i = 19 then 1 ≤ d ∧ wf c k (i + 1) d else (11 ≤ c i ∧ c i ≤ 18) ∧ 2 ≤ d ∧ wf c k (i + 1) (d - 1)
def twoS (a : Nat) (x y : Int32) : Int32 := if a = 11 then (if x = 0 then (if y = 0 then 0 else 1) else 1) else if a = 12 then (if x = 0 then 0 else if y = 0 then 0 else 1) else if a = 14 then (if y ≤ x then 0 else 1) else if a = 15 then (if x = y then 1 else 0) else if a = 16 then x + y else if a = 17 then x - y else x * y
def ev1 (a : Nat) (env : Nat → Int32) (st : List Int32) : List Int32 := if 100000 ≤ a then nI (a - 100000) :: st else if a < 6 then env a :: st else if a = 13 then (match st with | [] => [] | x :: r => (if x = 0 then 1 else 0) :: r) else if a = 19 then (match st with | [] => [] | x :: r => -x :: r) else (match st with | y :: x :: r => twoS a x y :: r | s => s)
def evl (c : Nat → Nat) (env : Nat → Int32) : Nat → Nat → List Int32 → List Int32
  | 0, _, st => st
  | k + 1, i, st => evl c env k (i + 1) (ev1 (c i) env st)
def SK (M : Nat → Int32) : List Int32 → Prop
  | [] => True
  | x :: r => M r.length = x ∧ SK M r
theorem SK_upd {M : Nat → Int32} {v : Int32} : ∀ (st : List Int32) (k : Nat), st.length ≤ k → SK M st → SK (upd M k v) st
  | [], _, _, _ => trivial
  | x :: r, k, h, hs => by
    have h' : r.length < k := h
    refine ⟨?_, SK_upd r k (by omega) hs.2⟩
    show (if r.length = k then v else M r.length) = x
    rw [if_neg (by omega)]
    exact hs.1
theorem SK_push {M : Nat → Int32} {v : Int32} {st : List Int32} (h : SK M st) : SK (upd M st.length v) (v :: st) := ⟨by show (if st.length = st.length then v else _) = v; rw [if_pos rfl], SK_upd st _ (Nat.le_refl _) h⟩
def BC (I : Mem) (τ : Nat) (B : Bk) : Prop := (∀ k, k < B.2 3 → I (30 + 3 * τ + 1) k = ctk (B.1 k)) ∧ ∀ j, j < 3 → I (30 + 3 * τ + 2) j = nI (B.2 (j + 1))
def BM (I : Mem) (τ : Nat) (B : Bk) : Prop := (∀ k, k < B.2 3 → I 62 (200 * τ + k) = nI (B.1 k)) ∧ ∀ j, j ≤ 3 → I 63 (4 * τ + j) = nI (B.2 j)
def BOK (B : Bk) : Prop := B.2 0 = 0 ∧ B.2 3 ≤ 160 ∧ ∀ j, j < 3 → B.2 j ≤ B.2 (j + 1) ∧ wf B.1 (B.2 (j + 1) - B.2 j) (B.2 j) 0
def envS (S : RS) (p a : Nat) : Int32 := if a = 0 then S.1 3 p else if a = 1 then S.1 4 p else if a = 2 then S.2.2.1 else if a = 3 then upn S else if a = 4 then S.1 5 p else S.1 1 p
def clS (part : Nat) (x : Int32) : Int32 := if (if part = 2 then -99 else 0) < (if x < 99 then x else 99) then (if x < 99 then x else 99) else (if part = 2 then -99 else 0)
/-- what part of a text says of a hat -/
def sayS (B : Bk) (S : RS) (part p : Nat) : Int32 := clS part ((evl B.1 (envS S p) (B.2 (part + 1) - B.2 part) (B.2 part) []).headD 0)
theorem BC_off {I J : Mem} {τ : Nat} {B : Bk} (h : BC I τ B) (ho : ∀ c, c ≠ 29 → J c = I c) (hτ : τ < 6) : BC J τ B := ⟨fun k hk => by rw [ho _ (by omega)]; exact h.1 k hk, fun j hj => by rw [ho _ (by omega)]; exact h.2 j hj⟩
theorem CR_off {I J : Mem} {ρ : Nat} {S : RS} (h : CR I ρ S) (ho : ∀ c, c ≠ 29 → J c = I c) (hρ : ρ < 3) : CR J ρ S := by
  obtain ⟨h1, h2, h3, h4, h5⟩ := h
  refine ⟨by rw [ho _ (by omega)]; exact h1, by rw [ho _ (by omega)]; exact h2, by rw [ho _ (by omega)]; exact h3, fun p hp => ?_, fun p q hp hq => by rw [ho _ (by omega)]; exact h5 p q hp hq⟩
  rw [ho _ (by omega), ho _ (by omega), ho _ (by omega), ho _ (by omega), ho _ (by omega), ho _ (by omega)]
  exact h4 p hp
theorem wr_off {I : Mem} {j : Nat} {x : Int32} : ∀ c, c ≠ 29 → wr I 29 j x c = I c := fun c h => wr_k I j x h
theorem lt_of_nI {d : Nat} (h : d < 160) : ¬ (160 : Int32) ≤ nI d := by rw [show (160 : Int32) = nI 160 from rfl, nI_le' (by omega) (by omega)]; omega
theorem s4_fact {I : Mem} {ρ p a : Nat} {S : RS} (hc : CR I ρ S) (hg : GS S) (hp : p < S.2.1) (ha : a < 6) : f_X4_fact (ctk a) ρ (nI p) I = some (envS S p a, I) := by
  have hN := hg.1
  have h4 := hc.2.2.2.1 p hp
  rcases (show a = 0 ∨ a = 1 ∨ a = 2 ∨ a = 3 ∨ a = 4 ∨ a = 5 by omega) with rfl | rfl | rfl | rfl | rfl | rfl <;> unfold f_X4_fact
  · rw [show ctk 0 = -9 from rfl, if_neg (by decide), if_neg (by decide), if_neg (by decide), if_neg (by decide), if_pos rfl, if_pos (inb_t (by omega) (by omega)), cl_nI (by omega), h4.2.2.2.1]; rfl
  · rw [show ctk 1 = -10 from rfl, if_neg (by decide), if_neg (by decide), if_neg (by decide), if_pos rfl, if_pos (inb_t (by omega) (by omega)), cl_nI (by omega), h4.2.2.2.2.1]; rfl
  · rw [show ctk 2 = -11 from rfl, if_neg (by decide), if_neg (by decide), if_pos rfl, hc.2.1]; rfl
  · rw [show ctk 3 = -12 from rfl, if_neg (by decide), if_pos rfl, s2_upCount hc hg, bnd_some]; rfl
  · rw [show ctk 4 = -13 from rfl, if_pos rfl, if_pos (inb_t (by omega) (by omega)), cl_nI (by omega), h4.2.2.2.2.2]; rfl
  · rw [show ctk 5 = -14 from rfl, if_neg (by decide), if_neg (by decide), if_neg (by decide), if_neg (by decide), if_neg (by decide), if_pos (inb_t (by omega) (by omega)), cl_nI (by omega), h4.2.1]; rfl
theorem b51_num {τ ρ d : Nat} {A P X v : Int32} {K : Int32 → Int32 → Mem → Option (Int32 × Mem)} {I : Mem} (hd : d < 160) : f_X4_says_b51 τ A ρ P K v X (nI d) 1 I = K (X + 1) (nI (d + 1)) (wr I 29 d v) := by
  rw [f_X4_says_b51, if_neg (by decide), f_X4_says_b66, if_neg (lt_of_nI hd), if_neg (by decide), f_X4_says_b99, if_pos (inb_t hd (by omega)), lt1_eq, cl_nI (by omega), nI_1]
theorem b51_name {τ ρ d p a : Nat} {A X : Int32} {K : Int32 → Int32 → Mem → Option (Int32 × Mem)} {I : Mem} {S : RS} (hd : d < 160) (hc : CR I ρ S) (hg : GS S) (hp : p < S.2.1) (ha : a < 6) : f_X4_says_b51 τ A ρ (nI p) K (ctk a) X (nI d) 0 I = K (X + 1) (nI (d + 1)) (wr I 29 d (envS S p a)) := by
  have hn : f_X5_isName (ctk a) I = some (1, I) := by
    rcases (show a = 0 ∨ a = 1 ∨ a = 2 ∨ a = 3 ∨ a = 4 ∨ a = 5 by omega) with rfl | rfl | rfl | rfl | rfl | rfl <;> (unfold f_X5_isName; rw [if_neg (by decide), if_neg (by decide)])
  rw [f_X4_says_b51, if_pos rfl, hn, bnd_some, if_neg (by decide), f_X4_says_b66, if_neg (lt_of_nI hd), if_pos rfl, s4_fact hc hg hp ha, bnd_some, f_X4_says_b99, if_pos (inb_t hd (by omega)), lt1_eq, cl_nI (by omega), nI_1]
theorem ndn {d : Nat} (h : 1 ≤ d) : nI d - 1 = nI (d - 1) := by rw [show (1 : Int32) = nI 1 from rfl, pk_sub h]
theorem ndm {d : Nat} (h : 1 ≤ d) : nI d + -1 = nI (d - 1) := by
  obtain ⟨e, rfl⟩ : ∃ e, d = e + 1 := ⟨d - 1, by omega⟩
  exact pk_m1 e
theorem notName {a : Nat} {I : Mem} (ha : 11 ≤ a ∧ a ≤ 19) : f_X5_isName (ctk a) I = some (0, I) := by
  rcases (show a = 11 ∨ a = 12 ∨ a = 13 ∨ a = 14 ∨ a = 15 ∨ a = 16 ∨ a = 17 ∨ a = 18 ∨ a = 19 by omega) with rfl | rfl | rfl | rfl | rfl | rfl | rfl | rfl | rfl <;> first | (unfold f_X5_isName; rw [if_pos (by decide)]; done) | (unfold f_X5_isName; rw [if_neg (by decide), if_pos (by decide)])
theorem b51_not {τ ρ d : Nat} {A P X : Int32} {K : Int32 → Int32 → Mem → Option (Int32 × Mem)} {I : Mem} (h1 : 1 ≤ d) (hd : d ≤ 160) : f_X4_says_b51 τ A ρ P K (ctk 13) X (nI d) 0 I = K (X + 1) (nI d) (wr I 29 (d - 1) (if I 29 (d - 1) = 0 then 1 else 0)) := by
  rw [f_X4_says_b51, if_pos rfl, notName (by omega), bnd_some, if_pos rfl, f_X4_says_b106, if_pos (show ctk 13 = -8 from rfl), if_neg (nI_nle (by omega) (by omega)), ndn h1, if_pos (inb_t (by omega) (by omega)), cl_nI (by omega)]
  by_cases hz : I 29 (d - 1) = 0
  · rw [if_pos hz, if_pos hz, f_X4_says_b143, if_pos (inb_t (by omega) (by omega)), lt1_eq, cl_nI (by omega)]
  · rw [if_neg hz, if_neg hz, f_X4_says_b143, if_pos (inb_t (by omega) (by omega)), lt1_eq, cl_nI (by omega)]
theorem b51_neg {τ ρ d : Nat} {A P X : Int32} {K : Int32 → Int32 → Mem → Option (Int32 × Mem)} {I : Mem} (h1 : 1 ≤ d) (hd : d ≤ 160) : f_X4_says_b51 τ A ρ P K (ctk 19) X (nI d) 0 I = K (X + 1) (nI d) (wr I 29 (d - 1) (-(I 29 (d - 1)))) := by
  rw [f_X4_says_b51, if_pos rfl, notName (by omega), bnd_some, if_pos rfl, f_X4_says_b106, if_neg (by decide), f_X4_says_b147, if_pos (show ctk 19 = -23 from rfl), if_neg (nI_nle (by omega) (by omega)), ndn h1, if_pos (inb_t (by omega) (by omega)), if_pos (inb_t (by omega) (by omega)), lt1_eq, cl_nI (by omega)]
theorem s4_joined {a : Nat} {x y : Int32} {I : Mem} (ha : 11 ≤ a ∧ a ≤ 18) (h13 : a ≠ 13) : f_X4_joined (ctk a) x y I = some (twoS a x y, I) := by
  rcases (show a = 11 ∨ a = 12 ∨ a = 14 ∨ a = 15 ∨ a = 16 ∨ a = 17 ∨ a = 18 by omega) with rfl | rfl | rfl | rfl | rfl | rfl | rfl <;> (unfold f_X4_joined twoS f_X4_joined_b92; simp (config := {decide := true}) only [ctk, List.getD_cons_zero, List.getD_cons_succ, if_true, if_false]) <;> (repeat' split) <;> rfl
theorem b51_two {τ ρ d a : Nat} {A P X : Int32} {K : Int32 → Int32 → Mem → Option (Int32 × Mem)} {I : Mem} (ha : 11 ≤ a ∧ a ≤ 18) (h13 : a ≠ 13) (h1 : 2 ≤ d) (hd : d ≤ 160) : f_X4_says_b51 τ A ρ P K (ctk a) X (nI d) 0 I = K (X + 1) (nI (d - 1)) (wr I 29 (d - 2) (twoS a (I 29 (d - 2)) (I 29 (d - 1)))) := by
  have e8 : ¬ ctk a = -8 := by rcases (show a = 11 ∨ a = 12 ∨ a = 14 ∨ a = 15 ∨ a = 16 ∨ a = 17 ∨ a = 18 by omega) with rfl | rfl | rfl | rfl | rfl | rfl | rfl <;> decide
  have e23 : ¬ ctk a = -23 := by rcases (show a = 11 ∨ a = 12 ∨ a = 14 ∨ a = 15 ∨ a = 16 ∨ a = 17 ∨ a = 18 by omega) with rfl | rfl | rfl | rfl | rfl | rfl | rfl <;> decide
  have hle : ¬ nI d ≤ 1 := by rw [show (1 : Int32) = nI 1 from rfl, nI_le' (by omega) (by omega)]; omega
  rw [f_X4_says_b51, if_pos rfl, notName (by omega), bnd_some, if_pos rfl, f_X4_says_b106, if_neg e8, f_X4_says_b147, if_neg e23, f_X4_says_b181, if_neg hle, ndm (by omega), ndn (by omega), lt1_eq, if_pos (inb_t (by omega) (by omega)), if_pos (inb_t (by omega) (by omega)), cl_nI (by omega), cl_nI (by omega), s4_joined ha h13, bnd_some, if_pos (inb_t (by omega) (by omega)), lt1_eq, show d - 1 - 1 = d - 2 by omega]
theorem ctk_neg {a : Nat} (h : ¬ 100000 ≤ a) (h2 : a < 6 ∨ (11 ≤ a ∧ a ≤ 19)) : ctk a < 0 := by
  rcases (show a = 0 ∨ a = 1 ∨ a = 2 ∨ a = 3 ∨ a = 4 ∨ a = 5 ∨ a = 11 ∨ a = 12 ∨ a = 13 ∨ a = 14 ∨ a = 15 ∨ a = 16 ∨ a = 17 ∨ a = 18 ∨ a = 19 by omega) with rfl | rfl | rfl | rfl | rfl | rfl | rfl | rfl | rfl | rfl | rfl | rfl | rfl | rfl | rfl <;> decide
theorem s4_loop {τ ρ p part : Nat} {B : Bk} {S : RS} (hτ : τ < 6) (hρ : ρ < 3) (hg : GS S) (hp : p < S.2.1) (hpart : part < 3) (hB3 : B.2 3 ≤ 160) (hhi : B.2 (part + 1) ≤ B.2 3) : ∀ (k n i : Nat) (st : List Int32) (I : Mem), i + k = B.2 (part + 1) → k < n → SK (I 29) st → wf B.1 k i st.length → st.length ≤ 160 → BC I τ B → CR I ρ S → ∃ J, f_X4_says_b21 τ (nI part) ρ (nI p) n (nI i) (nI st.length) I = some (clS part ((evl B.1 (envS S p) k i st).headD 0), J) ∧ ∀ c, c ≠ 29 → J c = I c := by
  intro k
  induction k with
  | zero =>
    intro n i st I hi hn hs hw hl hB hC
    obtain ⟨n, rfl⟩ : ∃ m, n = m + 1 := ⟨n - 1, by omega⟩
    have hw : st.length = 1 := hw
    obtain ⟨x, rfl⟩ := List.length_eq_one_iff.mp hw
    have hx : I 29 0 = x := hs.1
    refine ⟨I, ?_, fun _ _ => rfl⟩
    rw [f_X4_says_b21, if_pos (inb_t hpart (by omega)), cl_nI (by omega), hB.2 part hpart, if_pos ((nI_le' (by omega) (by omega)).mpr (by omega))]
    by_cases h2 : part = 2
    · subst h2
      rw [if_pos (show nI 2 = (2 : Int32) from rfl), f_X4_says_b237, if_pos (by decide), show ((0 : Int32)).toNatClampNeg = 0 from rfl, hx]
      rfl
    · have h2' : ¬ nI part = (2 : Int32) := by rw [show (2 : Int32) = nI 2 from rfl, nI_eq' (by omega) (by omega)]; exact h2
      rw [if_neg h2', f_X4_says_b237, if_pos (by decide), show ((0 : Int32)).toNatClampNeg = 0 from rfl, hx]
      show _ = some (clS part x, I)
      rw [clS, if_neg h2]
  | succ k ih =>
    intro n i st I hi hn hs hw hl hB hC
    obtain ⟨n, rfl⟩ : ∃ m, n = m + 1 := ⟨n - 1, by omega⟩
    have go : ∀ (st' : List Int32) (j : Nat) (v : Int32), SK (wr I 29 j v 29) st' → wf B.1 k (i + 1) st'.length → st'.length ≤ 160 → ev1 (B.1 i) (envS S p) st = st' → ∃ J, f_X4_says_b21 τ (nI part) ρ (nI p) n (nI i + 1) (nI st'.length) (wr I 29 j v) = some (clS part ((evl B.1 (envS S p) (k + 1) i st).headD 0), J) ∧ ∀ c, c ≠ 29 → J c = I c := by
      intro st' j v q1 q2 q3 q4
      obtain ⟨J, e, ho⟩ := ih n (i + 1) st' (wr I 29 j v) (by omega) (by omega) q1 q2 q3 (BC_off hB wr_off hτ) (CR_off hC wr_off hρ)
      refine ⟨J, ?_, fun c hc => (ho c hc).trans (wr_off c hc)⟩
      rw [nI_1, e, evl, q4]
    have hk3 : i < B.2 3 := by omega
    have hN := hg.1
    rw [f_X4_says_b21, if_pos (inb_t hpart (by omega)), cl_nI (by omega), hB.2 part hpart, if_neg (by rw [nI_le' (by omega) (by omega)]; omega), if_pos (inb_t (by omega) (by omega)), lt1_eq, cl_nI (by omega), hB.1 i hk3]
    have hw := hw
    rw [wf] at hw
    have wrv : ∀ (j : Nat) (v : Int32), wr I 29 j v 29 = upd (I 29) j v := fun j v => by simp [wr]
    by_cases c1 : 100000 ≤ B.1 i
    · rw [if_pos c1] at hw
      obtain ⟨w1, w2, w3⟩ := hw
      have e : ctk (B.1 i) = nI (B.1 i - 100000) := by rw [ctk, if_pos c1]
      rw [e, if_neg (nI_pos (by omega)), b51_num w2]
      refine go (nI (B.1 i - 100000) :: st) _ _ (by rw [wrv]; exact SK_push hs) w3 w2 (by unfold ev1; rw [if_pos c1])
    · rw [if_neg c1] at hw
      by_cases c2 : B.1 i < 6
      · rw [if_pos c2] at hw
        obtain ⟨w2, w3⟩ := hw
        rw [if_pos (ctk_neg c1 (Or.inl c2)), b51_name w2 hC hg hp c2]
        exact go (envS S p (B.1 i) :: st) _ _ (by rw [wrv]; exact SK_push hs) w3 w2 (by unfold ev1; rw [if_neg c1, if_pos c2])
      · rw [if_neg c2] at hw
        by_cases c3 : B.1 i = 13
        · rw [if_pos (Or.inl c3)] at hw
          obtain ⟨w1, w3⟩ := hw
          obtain ⟨x, r, rfl⟩ : ∃ x r, st = x :: r := by cases st with | nil => exact absurd w1 (by decide) | cons x r => exact ⟨x, r, rfl⟩
          have hx : I 29 r.length = x := hs.1
          rw [c3, if_pos (ctk_neg (by omega) (Or.inr (by omega))), b51_not w1 hl]
          rw [show (x :: r).length - 1 = r.length from rfl, hx]
          exact go ((if x = 0 then 1 else 0) :: r) _ _ (by rw [wrv]; exact SK_push hs.2) w3 hl (by rw [c3]; rfl)
        · by_cases c4 : B.1 i = 19
          · rw [if_pos (Or.inr c4)] at hw
            obtain ⟨w1, w3⟩ := hw
            obtain ⟨x, r, rfl⟩ : ∃ x r, st = x :: r := by cases st with | nil => exact absurd w1 (by decide) | cons x r => exact ⟨x, r, rfl⟩
            have hx : I 29 r.length = x := hs.1
            rw [c4, if_pos (ctk_neg (by omega) (Or.inr (by omega))), b51_neg w1 hl]
            rw [show (x :: r).length - 1 = r.length from rfl, hx]
            exact go (-x :: r) _ _ (by rw [wrv]; exact SK_push hs.2) w3 hl (by rw [c4]; rfl)
          · rw [if_neg (by omega)] at hw
            obtain ⟨w0, w1, w3⟩ := hw
            obtain ⟨y, x, r, rfl⟩ : ∃ y x r, st = y :: x :: r := by
              cases st with
              | nil => exact absurd w1 (by decide)
              | cons y r => cases r with
                | nil => exact absurd w1 (by simp)
                | cons x r => exact ⟨y, x, r, rfl⟩
            have hy : I 29 (r.length + 1) = y := hs.1
            have hx : I 29 r.length = x := hs.2.1
            rw [if_pos (ctk_neg c1 (Or.inr (by omega))), b51_two w0 c3 w1 hl]
            rw [show (y :: x :: r).length - 1 = r.length + 1 from rfl, show (y :: x :: r).length - 2 = r.length from rfl, hx, hy]
            refine go (twoS (B.1 i) x y :: r) _ _ (by rw [wrv]; exact SK_push hs.2.2) w3 (by simp at hl ⊢; omega) (by unfold ev1; rw [if_neg c1, if_neg c2, if_neg c3, if_neg c4])
theorem s4_says {τ ρ p part : Nat} {B : Bk} {S : RS} {I : Mem} (hτ : τ < 6) (hρ : ρ < 3) (hg : GS S) (hp : p < S.2.1) (hpart : part < 3) (hO : BOK B) (hB : BC I τ B) (hC : CR I ρ S) : ∃ J, f_X4_says τ (nI part) ρ (nI p) I = some (sayS B S part p, J) ∧ ∀ c, c ≠ 29 → J c = I c := by
  obtain ⟨h0, h3, hj⟩ := hO
  have a0 := (hj 0 (by omega)).1
  have a1 := (hj 1 (by omega)).1
  have a2 := (hj 2 (by omega)).1
  have hhi : B.2 (part + 1) ≤ B.2 3 := by rcases (show part = 0 ∨ part = 1 ∨ part = 2 by omega) with rfl | rfl | rfl <;> simp only [Nat.zero_add, Nat.reduceAdd] at * <;> omega
  have hL := s4_loop (τ := τ) (ρ := ρ) (p := p) (part := part) (B := B) (S := S) hτ hρ hg hp hpart h3 hhi (B.2 (part + 1) - B.2 part) FU (B.2 part) [] I (by have := (hj part hpart).1; omega) (by show _ < 4096; omega) trivial (hj part hpart).2 (by simp) hB hC
  by_cases hz : part = 0
  · subst hz
    rw [f_X4_says, if_pos (show nI 0 = (0 : Int32) from rfl), f_X4_says_b19]
    rw [h0] at hL
    obtain ⟨J, e, ho⟩ := hL
    refine ⟨J, ?_, ho⟩
    rw [show (0 : Int32) = nI 0 from rfl]
    rw [show ([] : List Int32).length = 0 from rfl] at e
    rw [e, sayS, h0]
  · have hz' : ¬ nI part = (0 : Int32) := nI_ne0 (by omega) (by omega)
    obtain ⟨J, e, ho⟩ := hL
    refine ⟨J, ?_, ho⟩
    rw [f_X4_says, if_neg hz', ndn (by omega), if_pos (inb_t (by omega) (by omega)), cl_nI (by omega), hB.2 (part - 1) (by omega), f_X4_says_b19, show part - 1 + 1 = part by omega, show (0 : Int32) = nI 0 from rfl]
    rw [show ([] : List Int32).length = 0 from rfl] at e
    rw [e, sayS]
