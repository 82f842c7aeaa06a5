/-! PURE 46: the class's reader is the parser, by the levels with a loop -/
section RdPR2
variable {tx : Nat → Nat} {tp : Nat}
theorem loopE {g o : Nat} {R : Nat → Res} {τ a : Nat} {J : Mem} {L : List Nat} (hτ : τ < 6) (hR : ∀ b, b ≤ tp → GoR tp b (R b)) (IH : ∀ b J L, SC tx tp J τ b L → ∃ K, f_rd g 1 (nI o) J = some ((), K) ∧ Out tx tp K τ L (R b) ∧ FrR τ J K) (h : SC tx tp J τ a L) : ∃ K, B_X1_readE (f_rd g) (nI o) J = some ((), K) ∧ Out tx tp K τ L (thenR (R a) fun a1 c => lpR tx tp 1 R 160 a1 c) ∧ FrR τ J K := by
  rw [B_X1_readE]
  refine two_PR (w' := 1) (F := f_X1_readE_b7 (f_rd g) (nI o)) hτ (by omega) (fun n x J hx hk => ?_) (fun n x J hx => ?_) hR IH h
  · have e := tk1.mp hk
    rw [f_X1_readE_b7, if_neg (le160 hx), if_pos e, nI_1, e]
  · rcases hx with ⟨q1, q2⟩ | ⟨q1, q2⟩
    · rw [f_X1_readE_b7, if_pos (ge160 q1 q2)]
    · rw [f_X1_readE_b7, if_neg (le160 q1), if_neg (fun e => q2 (tk1.mpr e))]
theorem loopAnd {g o : Nat} {R : Nat → Res} {τ a : Nat} {J : Mem} {L : List Nat} (hτ : τ < 6) (hR : ∀ b, b ≤ tp → GoR tp b (R b)) (IH : ∀ b J L, SC tx tp J τ b L → ∃ K, f_rd g 2 (nI o) J = some ((), K) ∧ Out tx tp K τ L (R b) ∧ FrR τ J K) (h : SC tx tp J τ a L) : ∃ K, B_X1_readAnd (f_rd g) (nI o) J = some ((), K) ∧ Out tx tp K τ L (thenR (R a) fun a1 c => lpR tx tp 2 R 160 a1 c) ∧ FrR τ J K := by
  rw [B_X1_readAnd]
  refine two_PR (w' := 2) (F := f_X1_readAnd_b7 (f_rd g) (nI o)) hτ (by omega) (fun n x J hx hk => ?_) (fun n x J hx => ?_) hR IH h
  · have e := tk2.mp hk
    rw [f_X1_readAnd_b7, if_neg (le160 hx), if_pos e, nI_1, e]
  · rcases hx with ⟨q1, q2⟩ | ⟨q1, q2⟩
    · rw [f_X1_readAnd_b7, if_pos (ge160 q1 q2)]
    · rw [f_X1_readAnd_b7, if_neg (le160 q1), if_neg (fun e => q2 (tk2.mpr e))]
theorem loopTerm {g o : Nat} {R : Nat → Res} {τ a : Nat} {J : Mem} {L : List Nat} (hτ : τ < 6) (hR : ∀ b, b ≤ tp → GoR tp b (R b)) (IH : ∀ b J L, SC tx tp J τ b L → ∃ K, f_rd g 5 (nI o) J = some ((), K) ∧ Out tx tp K τ L (R b) ∧ FrR τ J K) (h : SC tx tp J τ a L) : ∃ K, B_X1_readTerm (f_rd g) (nI o) J = some ((), K) ∧ Out tx tp K τ L (thenR (R a) fun a1 c => lpR tx tp 6 R 160 a1 c) ∧ FrR τ J K := by
  rw [B_X1_readTerm]
  refine two_PR (w' := 5) (F := f_X1_readTerm_b7 (f_rd g) (nI o)) hτ (by omega) (fun n x J hx hk => ?_) (fun n x J hx => ?_) hR IH h
  · have e := tk6.mp hk
    rw [f_X1_readTerm_b7, if_neg (le160 hx), if_pos e, nI_1, e]
  · rcases hx with ⟨q1, q2⟩ | ⟨q1, q2⟩
    · rw [f_X1_readTerm_b7, if_pos (ge160 q1 q2)]
    · rw [f_X1_readTerm_b7, if_neg (le160 q1), if_neg (fun e => q2 (tk6.mpr e))]
theorem loopSum {g o : Nat} {R : Nat → Res} {τ a : Nat} {J : Mem} {L : List Nat} (hτ : τ < 6) (hR : ∀ b, b ≤ tp → GoR tp b (R b)) (IH : ∀ b J L, SC tx tp J τ b L → ∃ K, f_rd g 4 (nI o) J = some ((), K) ∧ Out tx tp K τ L (R b) ∧ FrR τ J K) (h : SC tx tp J τ a L) : ∃ K, B_X1_readSum (f_rd g) (nI o) J = some ((), K) ∧ Out tx tp K τ L (thenR (R a) fun a1 c => lpR tx tp 5 R 160 a1 c) ∧ FrR τ J K := by
  rw [B_X1_readSum]
  refine two_PR (w' := 4) (F := f_X1_readSum_b7 (f_rd g) (nI o)) hτ (by omega) (fun n x J hx hk => ?_) (fun n x J hx => ?_) hR IH h
  · rcases tk5.mp hk with e | e
    · rw [f_X1_readSum_b7, if_neg (le160 hx), if_pos e, f_X1_readSum_b32, nI_1, lt1_eq]
    · rw [f_X1_readSum_b7, if_neg (le160 hx), if_neg (by rw [e]; decide), if_pos e, f_X1_readSum_b32, nI_1, lt1_eq]
  · rcases hx with ⟨q1, q2⟩ | ⟨q1, q2⟩
    · rw [f_X1_readSum_b7, if_pos (ge160 q1 q2)]
    · rw [f_X1_readSum_b7, if_neg (le160 q1), if_neg (fun e => q2 (tk5.mpr (Or.inl e))), if_neg (fun e => q2 (tk5.mpr (Or.inr e)))]
end RdPR2
