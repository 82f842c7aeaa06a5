/-! PURE 50: the model's reader: its stack of signs -/
def rk (x : Nat) : Nat := if x = 0 then 0 else if x = 11 then 1 else if x = 12 then 2 else if x = 13 then 3 else if x ≤ 15 then 4 else if x ≤ 17 then 5 else if x = 18 then 6 else 7
def okS (x : Nat) : Prop := x = 0 ∨ (11 ≤ x ∧ x ≤ 19)
def opn (x : Nat) : Nat := if x = 13 then 1 else if x = 19 then 1 else 0
def opS : List Nat → Nat
  | [] => 0
  | x :: P => opn x + opS P
/-- nothing, or a sign below r, is on the top -/
def TopLt (st : List Nat) (r : Nat) : Prop := st = [] ∨ ∃ q x, st = q ++ [x] ∧ okS x ∧ rk x < r
section StackP
theorem opS_app : ∀ (P Q : List Nat), opS (P ++ Q) = opS P + opS Q
  | [], Q => by show opS Q = 0 + opS Q; omega
  | x :: P, Q => by
    show opn x + opS (P ++ Q) = opn x + opS P + opS Q
    rw [opS_app P Q]; omega
theorem opS_rep : ∀ k, opS (List.replicate k 19) = k
  | 0 => rfl
  | k + 1 => by
    rw [List.replicate_succ]
    show opn 19 + opS (List.replicate k 19) = k + 1
    rw [opS_rep k, show opn 19 = 1 from rfl]; omega
theorem TopLt.up {st : List Nat} {r r' : Nat} (h : TopLt st r) (hr : r ≤ r') : TopLt st r' := by
  rcases h with h | ⟨q, x, h1, h2, h3⟩
  · exact Or.inl h
  · exact Or.inr ⟨q, x, h1, h2, by omega⟩
theorem TopLt.mk {q : List Nat} {x r : Nat} (h : okS x) (hr : rk x < r) : TopLt (q ++ [x]) r := Or.inr ⟨q, x, rfl, h, hr⟩
theorem gd_eq (L : List Nat) (x : Nat) : (L ++ [x]).getD L.length 0 = x := by simp [List.getD_eq_getElem?_getD]
theorem gd_lt {L : List Nat} {x k : Nat} (h : k < L.length) : (L ++ [x]).getD k 0 = L.getD k 0 := by rw [List.getD_eq_getElem?_getD, List.getElem?_append_left h, ← List.getD_eq_getElem?_getD]
theorem ln_sn (L : List Nat) (x : Nat) : (L ++ [x]).length = L.length + 1 := by simp
theorem s7_rank {x : Nat} (h : okS x) (J : Mem) : f_X7_rank (nI x) J = some (nI (rk x), J) := by
  rcases (show x = 0 ∨ x = 11 ∨ x = 12 ∨ x = 13 ∨ x = 14 ∨ x = 15 ∨ x = 16 ∨ x = 17 ∨ x = 18 ∨ x = 19 by unfold okS at h; omega) with rfl | rfl | rfl | rfl | rfl | rfl | rfl | rfl | rfl | rfl <;> rfl
theorem rk_lt (x : Nat) : rk x ≤ 7 := by
  unfold rk
  repeat' split
  all_goals omega
end StackP
section RdS
variable {tx : Nat → Nat} {tp : Nat}
/-- the model's reader at a, having put L, with st on its stack, o open -/
def SM (tx : Nat → Nat) (tp : Nat) (J : Mem) (τ a : Nat) (L st : List Nat) (o : Nat) : Prop := RdM tx tp J a ∧ J 56 10 = nI τ ∧ J 56 27 = nI L.length ∧ (∀ k, k < L.length → J 62 (200 * τ + k) = nI (L.getD k 0)) ∧ J 56 25 = nI st.length ∧ (∀ k, k < st.length → J 71 k = nI (st.getD k 0)) ∧ J 56 26 = nI o ∧ L.length + st.length ≤ a
def FrU (τ : Nat) (J K : Mem) : Prop := (∀ c, c ≠ 56 → c ≠ 62 → c ≠ 71 → K c = J c) ∧ (∀ k, k < 200 * τ → K 62 k = J 62 k) ∧ ∀ j, (j < 25 ∨ 27 < j) → K 56 j = J 56 j
def FrT (τ : Nat) (J K : Mem) : Prop := (∀ c, c ≠ 56 → c ≠ 62 → c ≠ 71 → K c = J c) ∧ (∀ k, k < 200 * τ → K 62 k = J 62 k) ∧ ∀ j, (j < 19 ∨ 27 < j) → K 56 j = J 56 j
theorem FrU.rf {τ : Nat} {I : Mem} : FrU τ I I := ⟨fun _ _ _ _ => rfl, fun _ _ => rfl, fun _ _ => rfl⟩
theorem FrU.tr {τ : Nat} {I J K : Mem} (h : FrU τ I J) (h2 : FrU τ J K) : FrU τ I K := ⟨fun c a b d => (h2.1 c a b d).trans (h.1 c a b d), fun k hk => (h2.2.1 k hk).trans (h.2.1 k hk), fun j hj => (h2.2.2 j hj).trans (h.2.2 j hj)⟩
theorem FrT.rf {τ : Nat} {I : Mem} : FrT τ I I := ⟨fun _ _ _ _ => rfl, fun _ _ => rfl, fun _ _ => rfl⟩
theorem FrT.tr {τ : Nat} {I J K : Mem} (h : FrT τ I J) (h2 : FrT τ J K) : FrT τ I K := ⟨fun c a b d => (h2.1 c a b d).trans (h.1 c a b d), fun k hk => (h2.2.1 k hk).trans (h.2.1 k hk), fun j hj => (h2.2.2 j hj).trans (h.2.2 j hj)⟩
theorem FrU.T {τ : Nat} {I J : Mem} (h : FrU τ I J) : FrT τ I J := ⟨h.1, h.2.1, fun j hj => h.2.2 j (by omega)⟩
theorem FrX.T {τ : Nat} {I J : Mem} (h : FrX I J) : FrT τ I J := ⟨fun c a _ _ => h.1 c a, fun k _ => by rw [h.1 62 (by omega)], fun j hj => h.2 j (by omega)⟩
theorem RdM_U {J K : Mem} {a τ : Nat} (hf : FrU τ J K) (h : RdM tx tp J a) : RdM tx tp K a := ⟨by rw [hf.2.2 7 (by omega)]; exact h.1, by rw [hf.2.2 19 (by omega)]; exact h.2.1, h.2.2.1, h.2.2.2.1, fun k hk => by rw [hf.1 61 (by omega) (by omega) (by omega)]; exact h.2.2.2.2.1 k hk, WT_of (hf.1 70 (by omega) (by omega) (by omega)) h.2.2.2.2.2⟩
theorem sm_next {J : Mem} {τ a o : Nat} {L st : List Nat} (h : SM tx tp J τ a L st o) : ∃ K, f_X7_next J = some ((), K) ∧ SM tx tp K τ (nxA tx tp a) L st o ∧ K 56 20 = nI (LXs tx tp a) ∧ tkR (tkA tx tp a) (K 56 21) (K 56 22) ∧ FrT τ J K := by
  obtain ⟨h1, h2, h3, h4, h5, h6, h7, h8⟩ := h
  obtain ⟨K, e, ⟨t1, t2, t3⟩, f⟩ := s7_next h1
  have hb := nxA_b (tx := tx) h1.2.2.1
  exact ⟨K, e, ⟨t2, by rw [f.2 10 (by omega)]; exact h2, by rw [f.2 27 (by omega)]; exact h3, fun k hk => by rw [f.1 62 (by omega)]; exact h4 k hk, by rw [f.2 25 (by omega)]; exact h5, fun k hk => by rw [f.1 71 (by omega)]; exact h6 k hk, by rw [f.2 26 (by omega)]; exact h7, by omega⟩, t1, t3, f.T⟩
theorem sm_holds {J : Mem} {τ a o x : Nat} {L st : List Nat} (h : SM tx tp J τ a L st o) (hx : L.length + st.length + 1 ≤ a) : ∃ K, f_X7_holds (nI x) J = some ((), K) ∧ SM tx tp K τ a L (st ++ [x]) o ∧ FrU τ J K := by
  obtain ⟨h1, h2, h3, h4, h5, h6, h7, h8⟩ := h
  have ht := h1.2.2.1
  have ht2 := h1.2.2.2.1
  rw [f_X7_holds, h5, if_pos (inb_t (by omega) (by omega)), lt1_eq, lt1_eq, cl_nI (by omega)]
  have e71 : ∀ j v, wr (wr J 71 st.length (nI x)) 56 j v 71 = wr J 71 st.length (nI x) 71 := fun j v => wr_k _ _ _ (by omega)
  have k71 : wr J 71 st.length (nI x) 56 = J 56 := wr_k _ _ _ (by omega)
  have hf : FrU τ J (wr (wr J 71 st.length (nI x)) 56 25 (wr J 71 st.length (nI x) 56 25 + 1)) := ⟨fun c a b d => by rw [wr_k _ _ _ a, wr_k _ _ _ d], fun k hk => by rw [wr_k _ _ _ (by omega), wr_k _ _ _ (by omega)], fun j hj => by rw [wr_j _ _ _ (by omega), k71]⟩
  refine ⟨_, rfl, ⟨RdM_U hf h1, by rw [hf.2.2 10 (by omega)]; exact h2, by rw [wr_j _ _ _ (by omega), k71]; exact h3, fun k hk => by rw [wr_k _ _ _ (by omega), wr_k _ _ _ (by omega)]; exact h4 k hk, by rw [wr_s, k71, h5, nI_1, ln_sn], fun k hk => ?_, by rw [wr_j _ _ _ (by omega), k71]; exact h7, by rw [ln_sn]; omega⟩, hf⟩
  rw [ln_sn] at hk
  rw [e71]
  by_cases q : k = st.length
  · rw [q, wr_s, gd_eq]
  · rw [wr_j _ _ _ q, gd_lt (by omega)]
    exact h6 k (by omega)
theorem sm_puts {J : Mem} {τ a o x : Nat} {L st : List Nat} (hτ : τ < 6) (h : SM tx tp J τ a L st o) (hx : L.length + st.length + 1 ≤ a) : ∃ K, f_X7_puts (nI x) J = some ((), K) ∧ SM tx tp K τ a (L ++ [x]) st o ∧ FrU τ J K := by
  obtain ⟨h1, h2, h3, h4, h5, h6, h7, h8⟩ := h
  have ht := h1.2.2.1
  have ht2 := h1.2.2.2.1
  have k2 : (200 : Int32) * nI τ + nI L.length = nI (200 * τ + L.length) := by rw [show (200 : Int32) = nI 200 from rfl, pk_mul, nI_add]
  rw [f_X7_puts, h2, h3, k2, if_pos (inb_t (by omega) (by omega)), lt1_eq, lt1_eq, cl_nI (by omega)]
  have k62 : wr J 62 (200 * τ + L.length) (nI x) 56 = J 56 := wr_k _ _ _ (by omega)
  have hf : FrU τ J (wr (wr J 62 (200 * τ + L.length) (nI x)) 56 27 (wr J 62 (200 * τ + L.length) (nI x) 56 27 + 1)) := ⟨fun c a b d => by rw [wr_k _ _ _ a, wr_k _ _ _ b], fun k hk => by rw [wr_k _ _ _ (by omega), wr_j _ _ _ (by omega)], fun j hj => by rw [wr_j _ _ _ (by omega), k62]⟩
  refine ⟨_, rfl, ⟨RdM_U hf h1, by rw [hf.2.2 10 (by omega)]; exact h2, by rw [wr_s, k62, h3, nI_1, ln_sn], fun k hk => ?_, by rw [wr_j _ _ _ (by omega), k62]; exact h5, fun k hk => by rw [wr_k _ _ _ (by omega), wr_k _ _ _ (by omega)]; exact h6 k hk, by rw [wr_j _ _ _ (by omega), k62]; exact h7, by rw [ln_sn]; omega⟩, hf⟩
  rw [ln_sn] at hk
  rw [wr_k _ _ _ (by omega)]
  by_cases q : k = L.length
  · rw [q, wr_s, gd_eq]
  · rw [wr_j _ _ _ (by omega), gd_lt (by omega)]
    exact h4 k (by omega)
/-- what is written into 56 25, 56 26 -/
theorem sm_set {J : Mem} {τ a o o' : Nat} {L st st' : List Nat} (h : SM tx tp J τ a L st o) (v25 v26 : Int32) (e25 : v25 = nI st'.length) (e26 : v26 = nI o') (hs : ∀ k, k < st'.length → st'.getD k 0 = st.getD k 0) (hl : st'.length ≤ st.length) : SM tx tp (wr (wr J 56 25 v25) 56 26 v26) τ a L st' o' ∧ FrU τ J (wr (wr J 56 25 v25) 56 26 v26) := by
  obtain ⟨h1, h2, h3, h4, h5, h6, h7, h8⟩ := h
  have hf : FrU τ J (wr (wr J 56 25 v25) 56 26 v26) := ⟨fun c a b d => by rw [wr_k _ _ _ a, wr_k _ _ _ a], fun k hk => by rw [wr_k _ _ _ (by omega), wr_k _ _ _ (by omega)], fun j hj => by rw [wr_j _ _ _ (by omega), wr_j _ _ _ (by omega)]⟩
  exact ⟨⟨RdM_U hf h1, by rw [hf.2.2 10 (by omega)]; exact h2, by rw [wr_j _ _ _ (by omega), wr_j _ _ _ (by omega)]; exact h3, fun k hk => by rw [wr_k _ _ _ (by omega), wr_k _ _ _ (by omega)]; exact h4 k hk, by rw [wr_j _ _ _ (by omega), wr_s]; exact e25, fun k hk => by rw [wr_k _ _ _ (by omega), wr_k _ _ _ (by omega), hs k hk]; exact h6 k (by omega), by rw [wr_s]; exact e26, by omega⟩, hf⟩
theorem sm_unw {τ a r : Nat} {st : List Nat} (hτ : τ < 6) (hr : 1 ≤ r ∧ r ≤ 7) (hs : TopLt st r) : ∀ (P L : List Nat) (o n : Nat) (J : Mem), P.length < n → (∀ x, x ∈ P → okS x ∧ r ≤ rk x) → SM tx tp J τ a L (st ++ P.reverse) (o + opS P) → o + opS P < 1000 → ∃ K, f_X7_unwinds_b0 (nI r) n J = some ((), K) ∧ SM tx tp K τ a (L ++ P) st o ∧ FrU τ J K
  | [], L, o, n, J, hn, hP, h, hoo => by
    obtain ⟨n, rfl⟩ : ∃ m, n = m + 1 := ⟨n - 1, by omega⟩
    have h' : SM tx tp J τ a L st o := by
      have : st ++ ([] : List Nat).reverse = st := by simp
      rw [this] at h
      exact h
    have hL : L ++ [] = L := by simp
    rw [hL]
    refine ⟨J, ?_, h', FrU.rf⟩
    obtain ⟨h1, h2, h3, h4, h5, h6, h7, h8⟩ := h'
    have ht := h1.2.2.1
    have ht2 := h1.2.2.2.1
    rw [f_X7_unwinds_b0, h5]
    rcases hs with rfl | ⟨q, x, rfl, hx, hlt⟩
    · rw [if_pos (by decide)]
    · rw [ln_sn] at h5 h8 ⊢
      rw [if_neg (nI_nle (by omega) (by omega)), nI_sub1 (by omega), if_pos (inb_t (by omega) (by omega)), cl_nI (by omega), h6 q.length (by rw [ln_sn]; omega), gd_eq, s7_rank hx, bnd_some, if_pos ((nI_lt' (by omega) (by omega)).mpr hlt)]
  | x :: P, L, o, n, J, hn, hP, h, hoo => by
    obtain ⟨n, rfl⟩ : ∃ m, n = m + 1 := ⟨n - 1, by omega⟩
    have hst : st ++ (x :: P).reverse = (st ++ P.reverse) ++ [x] := by rw [List.reverse_cons, List.append_assoc]
    rw [hst] at h
    obtain ⟨h1, h2, h3, h4, h5, h6, h7, h8⟩ := id h
    have ht := h1.2.2.1
    have ht2 := h1.2.2.2.1
    obtain ⟨hx, hrx⟩ := hP x (List.mem_cons_self ..)
    have hr7 := rk_lt x
    have hn' : P.length < n := by have : (x :: P).length = P.length + 1 := rfl; omega
    have hoP : opS (x :: P) = opn x + opS P := rfl
    rw [hoP] at hoo h h7
    generalize hS : st ++ P.reverse = S at *
    rw [ln_sn] at h5 h8
    have hfin : ∀ o1 v26, o1 = o + opS P → v26 = nI o1 → ∃ K, f_X7_unwinds_b67 (nI r) (f_X7_unwinds_b0 (nI r) n) (nI x) (nI (opn x)) (nI (o + (opn x + opS P))) (wr J 56 25 (nI S.length)) = some ((), K) ∧ SM tx tp K τ a (L ++ x :: P) st o ∧ FrU τ J K := by
      intro o1 v26 e1 e2
      have eo : nI (o + (opn x + opS P)) - nI (opn x) = nI (o + opS P) := by rw [pk_sub (by omega)]; congr 1; omega
      obtain ⟨s1, f1⟩ := sm_set (st' := S) (o' := o + opS P) h (nI S.length) (nI (o + opS P)) rfl rfl (fun k hk => (gd_lt hk).symm) (by rw [ln_sn]; omega)
      rw [f_X7_unwinds_b67, lt1_eq, eo]
      obtain ⟨K2, e2, s2, f2⟩ := sm_puts (x := x) hτ s1 (by omega)
      rw [e2, bnd_some]
      rw [← hS] at s2
      obtain ⟨K3, e3, s3, f3⟩ := sm_unw hτ hr hs P (L ++ [x]) o n K2 hn' (fun y hy => hP y (List.mem_cons_of_mem _ hy)) s2 (by omega)
      have hL : L ++ [x] ++ P = L ++ x :: P := by simp
      rw [hL] at s3
      exact ⟨K3, e3, s3, f1.tr (f2.tr f3)⟩
    have w25 : wr J 56 25 (nI S.length) 56 25 = nI S.length := wr_s _ _ _ _
    have w71 : wr J 56 25 (nI S.length) 71 = J 71 := wr_k _ _ _ (by omega)
    have w26 : wr J 56 25 (nI S.length) 56 26 = J 56 26 := wr_j _ _ _ (by omega)
    rw [f_X7_unwinds_b0, h5, if_neg (nI_nle (by omega) (by omega)), nI_sub1 (by omega), if_pos (inb_t (by omega) (by omega)), cl_nI (by omega), h6 S.length (by rw [ln_sn]; omega), gd_eq, s7_rank hx, bnd_some, h5, nI_sub1 (by omega), if_neg (by rw [nI_lt' (by omega) (by omega)]; omega), lt1_eq, w25, if_pos (inb_t (by omega) (by omega)), lt1_eq, cl_nI (by omega), w71, h6 S.length (by rw [ln_sn]; omega), gd_eq, w26, h7]
    have hx19 : x < 20 := by unfold okS at hx; omega
    by_cases q13 : x = 13
    · rw [if_pos (show nI x = (13 : Int32) by rw [q13]; rfl), f_X7_unwinds_b62]
      have := hfin _ _ rfl rfl
      rw [show nI (opn x) = (1 : Int32) by rw [q13]; rfl] at this
      exact this
    · rw [if_neg (show ¬ nI x = (13 : Int32) from fun hh => q13 ((nI_eq' (b := 13) (by omega) (by omega)).mp hh))]
      by_cases q19 : x = 19
      · rw [if_pos (show nI x = (19 : Int32) by rw [q19]; rfl), f_X7_unwinds_b62]
        have := hfin _ _ rfl rfl
        rw [show nI (opn x) = (1 : Int32) by rw [q19]; rfl] at this
        exact this
      · rw [if_neg (show ¬ nI x = (19 : Int32) from fun hh => q19 ((nI_eq' (b := 19) (by omega) (by omega)).mp hh))]
        have := hfin _ _ rfl rfl
        rw [show nI (opn x) = (0 : Int32) by rw [opn, if_neg q13, if_neg q19]; rfl] at this
        exact this
end RdS
