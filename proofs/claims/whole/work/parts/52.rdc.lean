/-! PURE 43: the class's reader: its steps -/
section RdC2
variable {tx : Nat → Nat} {tp : Nat}
/-- the class's reader at a, having written L into text τ -/
def SC (tx : Nat → Nat) (tp : Nat) (J : Mem) (τ a : Nat) (L : List Nat) : Prop := TkC tx tp J (LXs tx tp a) ∧ J 26 5 = -1 ∧ J 26 6 = nI (τ + 1) ∧ J (30 + 3 * τ) 3 = nI L.length ∧ (∀ k, k < L.length → J (30 + 3 * τ + 1) k = ctk (L.getD k 0)) ∧ L.length ≤ a ∧ a ≤ tp
/-- it has refused at f -/
def SB (J : Mem) (τ f : Nat) : Prop := J 26 4 = -2 ∧ J 26 5 = nI f ∧ f ≤ 160 ∧ J 26 6 = nI (τ + 1) ∧ ∃ z, z ≤ 160 ∧ J (30 + 3 * τ) 3 = nI z
def FrR (τ : Nat) (J K : Mem) : Prop := ∀ c, c ≠ 26 → c ≠ 30 + 3 * τ → c ≠ 30 + 3 * τ + 1 → K c = J c
theorem FrR.tr {τ : Nat} {I J K : Mem} (h : FrR τ I J) (h2 : FrR τ J K) : FrR τ I K := fun c a b d => (h2 c a b d).trans (h c a b d)
theorem FrR.rf {τ : Nat} {I : Mem} : FrR τ I I := fun _ _ _ _ => rfl
theorem sc_next {J : Mem} {τ a : Nat} {L : List Nat} (hτ : τ < 6) (h : SC tx tp J τ a L) : ∃ K, f_X1_next J = some ((), K) ∧ SC tx tp K τ (nxA tx tp a) L ∧ FrR τ J K := by
  obtain ⟨⟨k1, k2, k3⟩, h5, h6, h3, hc, hl, ha⟩ := h
  obtain ⟨K, e, t, f1, f2⟩ := s1_next k3
  have hn := nxA_b (tx := tx) ha
  exact ⟨K, e, ⟨t, by rw [f1 5 (by omega) (by omega) (by omega)]; exact h5, by rw [f1 6 (by omega) (by omega) (by omega)]; exact h6, by rw [f2 _ (by omega)]; exact h3, fun k hk => by rw [f2 _ (by omega)]; exact hc k hk, by omega, hn.2.1⟩, fun c c1 _ _ => f2 c c1⟩
theorem sc_write {J : Mem} {τ a x : Nat} {L : List Nat} (hτ : τ < 6) (h : SC tx tp J τ a L) (hx : L.length + 1 ≤ a) : ∃ K, f_X4_write τ (ctk x) J = some ((), K) ∧ SC tx tp K τ a (L ++ [x]) ∧ FrR τ J K := by
  obtain ⟨⟨k1, k2, k3⟩, h5, h6, h3, hc, hl, ha⟩ := h
  have ht := k3.2.2.2.2.1
  have hlen : (L ++ [x]).length = L.length + 1 := by simp
  have hne : ∀ c, c ≠ 30 + 3 * τ → c ≠ 30 + 3 * τ + 1 → wr (wr J (30 + 3 * τ + 1) L.length (ctk x)) (30 + 3 * τ) 3 (nI (L.length + 1)) c = J c := fun c c1 c2 => by rw [wr_k _ _ _ c1, wr_k _ _ _ c2]
  have e26 : wr (wr J (30 + 3 * τ + 1) L.length (ctk x)) (30 + 3 * τ) 3 (nI (L.length + 1)) 26 = J 26 := hne 26 (by omega) (by omega)
  have e27 : wr (wr J (30 + 3 * τ + 1) L.length (ctk x)) (30 + 3 * τ) 3 (nI (L.length + 1)) 27 = J 27 := hne 27 (by omega) (by omega)
  rw [f_X4_write, h3, if_neg (show ¬ (160 : Int32) ≤ nI L.length from fun hh => by have := (nI_le' (a := 160) (by omega) (by omega)).mp hh; omega), if_pos (inb_t (by omega) (by omega)), lt1_eq, lt1_eq, cl_nI (by omega), wr_k _ _ _ (by omega), h3, nI_1]
  refine ⟨_, rfl, ⟨⟨by rw [e26]; exact k1, by rw [e26]; exact k2, by rw [e26]; exact k3.1, by rw [e26]; exact k3.2.1, by rw [e26]; exact k3.2.2.1, k3.2.2.2.1, ht, fun k hk => by rw [e27]; exact k3.2.2.2.2.2 k hk⟩, by rw [e26]; exact h5, by rw [e26]; exact h6, by rw [hlen]; exact wr_s _ _ _ _, fun k hk => ?_, by rw [hlen]; exact hx, ha⟩, fun c _ c2 c3 => hne c c2 c3⟩
  rw [hlen] at hk
  rw [wr_k _ _ _ (by omega)]
  by_cases q : k = L.length
  · have e : (L ++ [x]).getD L.length 0 = x := by simp [List.getD_eq_getElem?_getD]
    rw [q, wr_s, e]
  · have e : (L ++ [x]).getD k 0 = L.getD k 0 := by rw [List.getD_eq_getElem?_getD, List.getElem?_append_left (by omega), ← List.getD_eq_getElem?_getD]
    rw [wr_j _ _ _ q, e]
    exact hc k (by omega)
theorem sb_write {J : Mem} {τ f : Nat} {v : Int32} (hτ : τ < 6) (h : SB J τ f) : ∃ K, f_X4_write τ v J = some ((), K) ∧ SB K τ f ∧ FrR τ J K := by
  obtain ⟨h4, h5, hf, h6, z, hz, h3⟩ := h
  rw [f_X4_write, h3]
  by_cases q : 160 ≤ z
  · rw [if_pos (show (160 : Int32) ≤ nI z from (nI_le' (a := 160) (by omega) (by omega)).mpr q)]
    exact ⟨J, rfl, ⟨h4, h5, hf, h6, z, hz, h3⟩, FrR.rf⟩
  · rw [if_neg (show ¬ (160 : Int32) ≤ nI z from fun hh => q ((nI_le' (a := 160) (by omega) (by omega)).mp hh)), if_pos (inb_t (by omega) (by omega)), lt1_eq, lt1_eq, cl_nI (by omega), wr_k _ _ _ (by omega), h3, nI_1]
    exact ⟨_, rfl, ⟨by rw [wr_k _ _ _ (by omega), wr_k _ _ _ (by omega)]; exact h4, by rw [wr_k _ _ _ (by omega), wr_k _ _ _ (by omega)]; exact h5, hf, by rw [wr_k _ _ _ (by omega), wr_k _ _ _ (by omega)]; exact h6, z + 1, by omega, wr_s _ _ _ _⟩, fun c _ c2 c3 => by rw [wr_k _ _ _ c2, wr_k _ _ _ c3]⟩
theorem sc_refuse {J : Mem} {τ a : Nat} {L : List Nat} (hτ : τ < 6) (h : SC tx tp J τ a L) : ∃ K, f_X1_refuse J = some ((), K) ∧ SB K τ (LXs tx tp a) ∧ FrR τ J K := by
  obtain ⟨⟨k1, k2, k3⟩, h5, h6, h3, hc, hl, ha⟩ := h
  have ht := k3.2.2.2.2.1
  have hs := (LXs_b (tx := tx) ha).2
  rw [f_X1_refuse, if_pos h5, lt1_eq, k1, f_X1_refuse_b16, lt1_eq]
  exact ⟨_, rfl, ⟨wr_s _ _ _ _, by rw [wr_j _ _ _ (by omega), wr_s], by omega, by rw [wr_j _ _ _ (by omega), wr_j _ _ _ (by omega)]; exact h6, L.length, by omega, by rw [wr_k _ _ _ (by omega), wr_k _ _ _ (by omega)]; exact h3⟩, fun c c1 _ _ => by rw [wr_k _ _ _ c1, wr_k _ _ _ c1]⟩
theorem in_text {J : Mem} {τ : Nat} (hτ : τ < 6) (h6 : J 26 6 = nI (τ + 1)) : inb (J 26 6 - 1) 6 = true ∧ (J 26 6 - 1).toNatClampNeg = τ := by
  rw [h6, nI_sub1 (by omega)]
  exact ⟨inb_t hτ (by omega), cl_nI (by omega)⟩
/-- what a reading comes to -/
def Out (tx : Nat → Nat) (tp : Nat) (K : Mem) (τ : Nat) (L : List Nat) (r : Res) : Prop := match r with
  | .inl f => SB K τ f
  | .inr (a, c) => SC tx tp K τ a (L ++ c)
end RdC2
