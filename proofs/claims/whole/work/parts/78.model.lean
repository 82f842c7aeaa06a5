/-! THE MODEL'S CONSTRUCTOR (written by program, wip/gen/ctor3.py) -/
section ConvM
theorem rfo_to {ω : Om} {u v : Nat → Nat} {n m : Nat} {x : Int32} {f : Nat → Nat} (h : v (f (x.toNatClampNeg - 1)) = u (f (x.toNatClampNeg - 1))) : rfo (oW ω v m) x f = rfo (oW ω u n) x f := by
  unfold rfo
  by_cases hx : x = 0
  · rw [if_pos hx, if_pos hx]
  · rw [if_neg hx, if_neg hx]
    show Value.ref (v _) = Value.ref (u _)
    rw [h]
/-- a cell of the class's stands where more places are -/
theorem at_cell {ω : Om} {u w : Nat → Nat} {H : Heap} {k : Nat} (hk : k < 56) {f : Nat → Int32} (h26 : k = 26 → f 6 = 1) (q : va_at (oD ω) vwCl (u k, cellK (oW ω u 56) k f) H) : va_at (oD ω) vwCl (u k, cellK (oW ω (fun k => if k < 56 then u k else w k) 75) k f) H := by
  rcases (show k = 0 ∨ k = 1 ∨ k = 2 ∨ k = 3 ∨ k = 4 ∨ k = 5 ∨ k = 6 ∨ k = 7 ∨ k = 8 ∨ k = 9 ∨ k = 10 ∨ k = 11 ∨ k = 12 ∨ k = 13 ∨ k = 14 ∨ k = 15 ∨ k = 16 ∨ k = 17 ∨ k = 18 ∨ k = 19 ∨ k = 20 ∨ k = 21 ∨ k = 22 ∨ k = 23 ∨ k = 24 ∨ k = 25 ∨ k = 26 ∨ k = 27 ∨ k = 28 ∨ k = 29 ∨ k = 30 ∨ k = 31 ∨ k = 32 ∨ k = 33 ∨ k = 34 ∨ k = 35 ∨ k = 36 ∨ k = 37 ∨ k = 38 ∨ k = 39 ∨ k = 40 ∨ k = 41 ∨ k = 42 ∨ k = 43 ∨ k = 44 ∨ k = 45 ∨ k = 46 ∨ k = 47 ∨ k = 48 ∨ k = 49 ∨ k = 50 ∨ k = 51 ∨ k = 52 ∨ k = 53 ∨ k = 54 ∨ k = 55 by omega) with rfl | rfl | rfl | rfl | rfl | rfl | rfl | rfl | rfl | rfl | rfl | rfl | rfl | rfl | rfl | rfl | rfl | rfl | rfl | rfl | rfl | rfl | rfl | rfl | rfl | rfl | rfl | rfl | rfl | rfl | rfl | rfl | rfl | rfl | rfl | rfl | rfl | rfl | rfl | rfl | rfl | rfl | rfl | rfl | rfl | rfl | rfl | rfl | rfl | rfl | rfl | rfl | rfl | rfl | rfl | rfl
  · exact q
  · exact at_q (f := fun i => some (u (30 + 3 * i))) (fun j hj => (by have hj : j < 6 := hj; show some (u (30 + 3 * j)) = some (if 30 + 3 * j < 56 then u (30 + 3 * j) else w (30 + 3 * j)); rw [if_pos (by omega)])) q
  · exact q
  · exact q
  · exact q
  · exact q
  · exact q
  · exact q
  · exact q
  · exact q
  · exact q
  · exact q
  · exact q
  · exact q
  · exact q
  · exact q
  · exact q
  · exact q
  · exact q
  · exact q
  · exact q
  · exact q
  · exact q
  · exact q
  · exact q
  · exact q
  · have e : F_Rd (oW ω (fun k => if k < 56 then u k else w k) 75) f = F_Rd (oW ω u 56) f := by
      unfold F_Rd
      rw [rfo_to (u := u) (n := 56) (show (if 27 < 56 then u 27 else w 27) = u 27 from rfl), rfo_to (u := u) (n := 56) (x := f 6) (by rw [h26 rfl]; rfl)]
    show va_at (oD ω) vwCl (u 26, .inr (0, F_Rd (oW ω (fun k => if k < 56 then u k else w k) 75) f)) H
    rw [e]
    exact q
  · exact q
  · exact at_q (f := fun i => some (u (48 + 2 * i))) (fun j hj => (by have hj : j < 4 := hj; show some (u (48 + 2 * j)) = some (if 48 + 2 * j < 56 then u (48 + 2 * j) else w (48 + 2 * j)); rw [if_pos (by omega)])) q
  · exact q
  · exact q
  · exact q
  · exact q
  · exact q
  · exact q
  · exact q
  · exact q
  · exact q
  · exact q
  · exact q
  · exact q
  · exact q
  · exact q
  · exact q
  · exact q
  · exact q
  · exact q
  · exact q
  · exact q
  · exact q
  · exact q
  · exact q
  · exact q
  · exact q
  · exact q
  · exact q
end ConvM
set_option maxHeartbeats 4000000 in
set_option maxRecDepth 100000 in
theorem sg7_0 {κ : Kx} {ω : Om} {Q : State → Prop} {pre : va_W} (C : CN κ ω cX7_init 2 6 yX7_init.cls 18 2276) (hini : κ.2.2.2.2.2.2.2.2.1.name = "<init>") {a : Nat} (kk : ∀ b1 b2 b3 b4 b5 b6 b7 b8 b9 b10 b11 b12 : Nat, EN κ ω 2 Q pre [oO a 5 [.int 0, .ref b1, .ref b2, .ref b3, .ref b4, .int 0, .ref b5, .int 0, .ref b6, .ref b7, .int 0, .int 0, .int 0, .ref b8, .ref b9, .ref b10, .ref b11, .ref b12, .null, .int 0, .int 0, .int 0, .int 0, .null, .null, .int 0, .int 0, .int 0, .null, .null, .null, .int 0], zI ω b1 6, zI ω b2 6, zI ω b3 24, zI ω b4 36, zI ω b5 160, zI ω b6 1200, zI ω b7 24, zI ω b8 60, zI ω b9 3, fI ω b10 4 mSort 4, zI ω b11 4, zI ω b12 160] 12 1687 116 [(0, .ref a)] []) : EN κ ω 2 Q pre [oO a 5 [.int 0, .null, .null, .null, .null, .int 0, .null, .int 0, .null, .null, .int 0, .int 0, .int 0, .null, .null, .null, .null, .null, .null, .int 0, .int 0, .int 0, .int 0, .null, .null, .int 0, .int 0, .int 0, .null, .null, .null, .int 0]] 0 0 0 [(0, .ref a)] [] := by
  refine n_aload_n C dX7_init_0 rfl 0 rfl (q := 1) rfl ?_
  refine n_obj C dX7_init_1 wc_714_a29a wc_78_adab wc_79_2a4a (Nat.le_of_ble_eq_true rfl) (Nat.le_of_ble_eq_true rfl) (q := 4) rfl ?_
  refine n_aload_n C dX7_init_4 rfl 0 rfl (q := 5) rfl ?_
  refine n_bipush C dX7_init_5 b8_6 (q := 7) rfl ?_
  refine n_newI C (N := 6) dX7_init_7 wc_137_faec (by decide) (by decide) (Nat.le_of_ble_eq_true rfl) (Nat.le_of_ble_eq_true rfl) (Nat.le_of_ble_eq_true rfl) (q := 9) rfl (fun b1 => ?_)
  show EN κ ω 2 _ _ [oO a 5 [.int 0, .null, .null, .null, .null, .int 0, .null, .int 0, .null, .null, .int 0, .int 0, .int 0, .null, .null, .null, .null, .null, .null, .int 0, .int 0, .int 0, .int 0, .null, .null, .int 0, .int 0, .int 0, .null, .null, .null, .int 0], zI ω b1 6] 1 6 9 [(0, .ref a)] [.ref b1, .ref a]
  refine n_putF C (k := 0) (j := 1) (ci := 5) (T := TX7) (N := 32) (ms' := [oO a 5 [.int 0, .ref b1, .null, .null, .null, .int 0, .null, .int 0, .null, .null, .int 0, .int 0, .int 0, .null, .null, .null, .null, .null, .null, .int 0, .int 0, .int 0, .int 0, .null, .null, .int 0, .int 0, .int 0, .null, .null, .null, .int 0], zI ω b1 6]) hini dX7_init_9 rfl rfl (by decide) in_X7 wc_763_56f9 tyX7_ok nmX7 rfl rfl rfl rfl rfl (Nat.le_of_ble_eq_true rfl) rfl (q := 12) rfl ?_
  refine n_aload_n C dX7_init_12 rfl 0 rfl (q := 13) rfl ?_
  refine n_bipush C dX7_init_13 b8_6 (q := 15) rfl ?_
  refine n_newI C (N := 6) dX7_init_15 wc_137_faec (by decide) (by decide) (Nat.le_of_ble_eq_true rfl) (Nat.le_of_ble_eq_true rfl) (Nat.le_of_ble_eq_true rfl) (q := 17) rfl (fun b2 => ?_)
  show EN κ ω 2 _ _ [oO a 5 [.int 0, .ref b1, .null, .null, .null, .int 0, .null, .int 0, .null, .null, .int 0, .int 0, .int 0, .null, .null, .null, .null, .null, .null, .int 0, .int 0, .int 0, .int 0, .null, .null, .int 0, .int 0, .int 0, .null, .null, .null, .int 0], zI ω b1 6, zI ω b2 6] 2 12 17 [(0, .ref a)] [.ref b2, .ref a]
  refine n_putF C (k := 0) (j := 2) (ci := 5) (T := TX7) (N := 32) (ms' := [oO a 5 [.int 0, .ref b1, .ref b2, .null, .null, .int 0, .null, .int 0, .null, .null, .int 0, .int 0, .int 0, .null, .null, .null, .null, .null, .null, .int 0, .int 0, .int 0, .int 0, .null, .null, .int 0, .int 0, .int 0, .null, .null, .null, .int 0], zI ω b1 6, zI ω b2 6]) hini dX7_init_17 rfl rfl (by decide) in_X7 wc_764_3f3f tyX7_ok nmX7 rfl rfl rfl rfl rfl (Nat.le_of_ble_eq_true rfl) rfl (q := 20) rfl ?_
  refine n_aload_n C dX7_init_20 rfl 0 rfl (q := 21) rfl ?_
  refine n_bipush C dX7_init_21 b8_24 (q := 23) rfl ?_
  refine n_newI C (N := 24) dX7_init_23 wc_137_faec (by decide) (by decide) (Nat.le_of_ble_eq_true rfl) (Nat.le_of_ble_eq_true rfl) (Nat.le_of_ble_eq_true rfl) (q := 25) rfl (fun b3 => ?_)
  show EN κ ω 2 _ _ [oO a 5 [.int 0, .ref b1, .ref b2, .null, .null, .int 0, .null, .int 0, .null, .null, .int 0, .int 0, .int 0, .null, .null, .null, .null, .null, .null, .int 0, .int 0, .int 0, .int 0, .null, .null, .int 0, .int 0, .int 0, .null, .null, .null, .int 0], zI ω b1 6, zI ω b2 6, zI ω b3 24] 3 36 25 [(0, .ref a)] [.ref b3, .ref a]
  refine n_putF C (k := 0) (j := 3) (ci := 5) (T := TX7) (N := 32) (ms' := [oO a 5 [.int 0, .ref b1, .ref b2, .ref b3, .null, .int 0, .null, .int 0, .null, .null, .int 0, .int 0, .int 0, .null, .null, .null, .null, .null, .null, .int 0, .int 0, .int 0, .int 0, .null, .null, .int 0, .int 0, .int 0, .null, .null, .null, .int 0], zI ω b1 6, zI ω b2 6, zI ω b3 24]) hini dX7_init_25 rfl rfl (by decide) in_X7 wc_765_60f9 tyX7_ok nmX7 rfl rfl rfl rfl rfl (Nat.le_of_ble_eq_true rfl) rfl (q := 28) rfl ?_
  refine n_aload_n C dX7_init_28 rfl 0 rfl (q := 29) rfl ?_
  refine n_bipush C dX7_init_29 b8_36 (q := 31) rfl ?_
  refine n_newI C (N := 36) dX7_init_31 wc_137_faec (by decide) (by decide) (Nat.le_of_ble_eq_true rfl) (Nat.le_of_ble_eq_true rfl) (Nat.le_of_ble_eq_true rfl) (q := 33) rfl (fun b4 => ?_)
  show EN κ ω 2 _ _ [oO a 5 [.int 0, .ref b1, .ref b2, .ref b3, .null, .int 0, .null, .int 0, .null, .null, .int 0, .int 0, .int 0, .null, .null, .null, .null, .null, .null, .int 0, .int 0, .int 0, .int 0, .null, .null, .int 0, .int 0, .int 0, .null, .null, .null, .int 0], zI ω b1 6, zI ω b2 6, zI ω b3 24, zI ω b4 36] 4 72 33 [(0, .ref a)] [.ref b4, .ref a]
  refine n_putF C (k := 0) (j := 4) (ci := 5) (T := TX7) (N := 32) (ms' := [oO a 5 [.int 0, .ref b1, .ref b2, .ref b3, .ref b4, .int 0, .null, .int 0, .null, .null, .int 0, .int 0, .int 0, .null, .null, .null, .null, .null, .null, .int 0, .int 0, .int 0, .int 0, .null, .null, .int 0, .int 0, .int 0, .null, .null, .null, .int 0], zI ω b1 6, zI ω b2 6, zI ω b3 24, zI ω b4 36]) hini dX7_init_33 rfl rfl (by decide) in_X7 wc_766_7657 tyX7_ok nmX7 rfl rfl rfl rfl rfl (Nat.le_of_ble_eq_true rfl) rfl (q := 36) rfl ?_
  refine n_aload_n C dX7_init_36 rfl 0 rfl (q := 37) rfl ?_
  refine n_sipush C dX7_init_37 b16_160 (q := 40) rfl ?_
  refine n_newI C (N := 160) dX7_init_40 wc_137_faec (by decide) (by decide) (Nat.le_of_ble_eq_true rfl) (Nat.le_of_ble_eq_true rfl) (Nat.le_of_ble_eq_true rfl) (q := 42) rfl (fun b5 => ?_)
  show EN κ ω 2 _ _ [oO a 5 [.int 0, .ref b1, .ref b2, .ref b3, .ref b4, .int 0, .null, .int 0, .null, .null, .int 0, .int 0, .int 0, .null, .null, .null, .null, .null, .null, .int 0, .int 0, .int 0, .int 0, .null, .null, .int 0, .int 0, .int 0, .null, .null, .null, .int 0], zI ω b1 6, zI ω b2 6, zI ω b3 24, zI ω b4 36, zI ω b5 160] 5 232 42 [(0, .ref a)] [.ref b5, .ref a]
  refine n_putF C (k := 0) (j := 6) (ci := 5) (T := TX7) (N := 32) (ms' := [oO a 5 [.int 0, .ref b1, .ref b2, .ref b3, .ref b4, .int 0, .ref b5, .int 0, .null, .null, .int 0, .int 0, .int 0, .null, .null, .null, .null, .null, .null, .int 0, .int 0, .int 0, .int 0, .null, .null, .int 0, .int 0, .int 0, .null, .null, .null, .int 0], zI ω b1 6, zI ω b2 6, zI ω b3 24, zI ω b4 36, zI ω b5 160]) hini dX7_init_42 rfl rfl (by decide) in_X7 wc_768_063b tyX7_ok nmX7 rfl rfl rfl rfl rfl (Nat.le_of_ble_eq_true rfl) rfl (q := 45) rfl ?_
  refine n_aload_n C dX7_init_45 rfl 0 rfl (q := 46) rfl ?_
  refine n_sipush C dX7_init_46 b16_1200 (q := 49) rfl ?_
  refine n_newI C (N := 1200) dX7_init_49 wc_137_faec (by decide) (by decide) (Nat.le_of_ble_eq_true rfl) (Nat.le_of_ble_eq_true rfl) (Nat.le_of_ble_eq_true rfl) (q := 51) rfl (fun b6 => ?_)
  show EN κ ω 2 _ _ [oO a 5 [.int 0, .ref b1, .ref b2, .ref b3, .ref b4, .int 0, .ref b5, .int 0, .null, .null, .int 0, .int 0, .int 0, .null, .null, .null, .null, .null, .null, .int 0, .int 0, .int 0, .int 0, .null, .null, .int 0, .int 0, .int 0, .null, .null, .null, .int 0], zI ω b1 6, zI ω b2 6, zI ω b3 24, zI ω b4 36, zI ω b5 160, zI ω b6 1200] 6 1432 51 [(0, .ref a)] [.ref b6, .ref a]
  refine n_putF C (k := 0) (j := 8) (ci := 5) (T := TX7) (N := 32) (ms' := [oO a 5 [.int 0, .ref b1, .ref b2, .ref b3, .ref b4, .int 0, .ref b5, .int 0, .ref b6, .null, .int 0, .int 0, .int 0, .null, .null, .null, .null, .null, .null, .int 0, .int 0, .int 0, .int 0, .null, .null, .int 0, .int 0, .int 0, .null, .null, .null, .int 0], zI ω b1 6, zI ω b2 6, zI ω b3 24, zI ω b4 36, zI ω b5 160, zI ω b6 1200]) hini dX7_init_51 rfl rfl (by decide) in_X7 wc_770_29c5 tyX7_ok nmX7 rfl rfl rfl rfl rfl (Nat.le_of_ble_eq_true rfl) rfl (q := 54) rfl ?_
  refine n_aload_n C dX7_init_54 rfl 0 rfl (q := 55) rfl ?_
  refine n_bipush C dX7_init_55 b8_24 (q := 57) rfl ?_
  refine n_newI C (N := 24) dX7_init_57 wc_137_faec (by decide) (by decide) (Nat.le_of_ble_eq_true rfl) (Nat.le_of_ble_eq_true rfl) (Nat.le_of_ble_eq_true rfl) (q := 59) rfl (fun b7 => ?_)
  show EN κ ω 2 _ _ [oO a 5 [.int 0, .ref b1, .ref b2, .ref b3, .ref b4, .int 0, .ref b5, .int 0, .ref b6, .null, .int 0, .int 0, .int 0, .null, .null, .null, .null, .null, .null, .int 0, .int 0, .int 0, .int 0, .null, .null, .int 0, .int 0, .int 0, .null, .null, .null, .int 0], zI ω b1 6, zI ω b2 6, zI ω b3 24, zI ω b4 36, zI ω b5 160, zI ω b6 1200, zI ω b7 24] 7 1456 59 [(0, .ref a)] [.ref b7, .ref a]
  refine n_putF C (k := 0) (j := 9) (ci := 5) (T := TX7) (N := 32) (ms' := [oO a 5 [.int 0, .ref b1, .ref b2, .ref b3, .ref b4, .int 0, .ref b5, .int 0, .ref b6, .ref b7, .int 0, .int 0, .int 0, .null, .null, .null, .null, .null, .null, .int 0, .int 0, .int 0, .int 0, .null, .null, .int 0, .int 0, .int 0, .null, .null, .null, .int 0], zI ω b1 6, zI ω b2 6, zI ω b3 24, zI ω b4 36, zI ω b5 160, zI ω b6 1200, zI ω b7 24]) hini dX7_init_59 rfl rfl (by decide) in_X7 wc_771_ae96 tyX7_ok nmX7 rfl rfl rfl rfl rfl (Nat.le_of_ble_eq_true rfl) rfl (q := 62) rfl ?_
  refine n_aload_n C dX7_init_62 rfl 0 rfl (q := 63) rfl ?_
  refine n_bipush C dX7_init_63 b8_60 (q := 65) rfl ?_
  refine n_newI C (N := 60) dX7_init_65 wc_137_faec (by decide) (by decide) (Nat.le_of_ble_eq_true rfl) (Nat.le_of_ble_eq_true rfl) (Nat.le_of_ble_eq_true rfl) (q := 67) rfl (fun b8 => ?_)
  show EN κ ω 2 _ _ [oO a 5 [.int 0, .ref b1, .ref b2, .ref b3, .ref b4, .int 0, .ref b5, .int 0, .ref b6, .ref b7, .int 0, .int 0, .int 0, .null, .null, .null, .null, .null, .null, .int 0, .int 0, .int 0, .int 0, .null, .null, .int 0, .int 0, .int 0, .null, .null, .null, .int 0], zI ω b1 6, zI ω b2 6, zI ω b3 24, zI ω b4 36, zI ω b5 160, zI ω b6 1200, zI ω b7 24, zI ω b8 60] 8 1516 67 [(0, .ref a)] [.ref b8, .ref a]
  refine n_putF C (k := 0) (j := 13) (ci := 5) (T := TX7) (N := 32) (ms' := [oO a 5 [.int 0, .ref b1, .ref b2, .ref b3, .ref b4, .int 0, .ref b5, .int 0, .ref b6, .ref b7, .int 0, .int 0, .int 0, .ref b8, .null, .null, .null, .null, .null, .int 0, .int 0, .int 0, .int 0, .null, .null, .int 0, .int 0, .int 0, .null, .null, .null, .int 0], zI ω b1 6, zI ω b2 6, zI ω b3 24, zI ω b4 36, zI ω b5 160, zI ω b6 1200, zI ω b7 24, zI ω b8 60]) hini dX7_init_67 rfl rfl (by decide) in_X7 wc_775_1c09 tyX7_ok nmX7 rfl rfl rfl rfl rfl (Nat.le_of_ble_eq_true rfl) rfl (q := 70) rfl ?_
  refine n_aload_n C dX7_init_70 rfl 0 rfl (q := 71) rfl ?_
  refine n_iconst C dX7_init_71 ic_3 (q := 72) rfl ?_
  refine n_newI C (N := 3) dX7_init_72 wc_137_faec (by decide) (by decide) (Nat.le_of_ble_eq_true rfl) (Nat.le_of_ble_eq_true rfl) (Nat.le_of_ble_eq_true rfl) (q := 74) rfl (fun b9 => ?_)
  show EN κ ω 2 _ _ [oO a 5 [.int 0, .ref b1, .ref b2, .ref b3, .ref b4, .int 0, .ref b5, .int 0, .ref b6, .ref b7, .int 0, .int 0, .int 0, .ref b8, .null, .null, .null, .null, .null, .int 0, .int 0, .int 0, .int 0, .null, .null, .int 0, .int 0, .int 0, .null, .null, .null, .int 0], zI ω b1 6, zI ω b2 6, zI ω b3 24, zI ω b4 36, zI ω b5 160, zI ω b6 1200, zI ω b7 24, zI ω b8 60, zI ω b9 3] 9 1519 74 [(0, .ref a)] [.ref b9, .ref a]
  refine n_putF C (k := 0) (j := 14) (ci := 5) (T := TX7) (N := 32) (ms' := [oO a 5 [.int 0, .ref b1, .ref b2, .ref b3, .ref b4, .int 0, .ref b5, .int 0, .ref b6, .ref b7, .int 0, .int 0, .int 0, .ref b8, .ref b9, .null, .null, .null, .null, .int 0, .int 0, .int 0, .int 0, .null, .null, .int 0, .int 0, .int 0, .null, .null, .null, .int 0], zI ω b1 6, zI ω b2 6, zI ω b3 24, zI ω b4 36, zI ω b5 160, zI ω b6 1200, zI ω b7 24, zI ω b8 60, zI ω b9 3]) hini dX7_init_74 rfl rfl (by decide) in_X7 wc_776_11b7 tyX7_ok nmX7 rfl rfl rfl rfl rfl (Nat.le_of_ble_eq_true rfl) rfl (q := 77) rfl ?_
  refine n_aload_n C dX7_init_77 rfl 0 rfl (q := 78) rfl ?_
  refine n_iconst C dX7_init_78 ic_4 (q := 79) rfl ?_
  refine n_newF C (N := 4) (Ls := mSort) dX7_init_79 wc_137_faec (by decide) (by decide) (Nat.le_of_ble_eq_true rfl) (Nat.le_of_ble_eq_true rfl) (Nat.le_of_ble_eq_true rfl) (q := 81) rfl (fun b10 => ?_)
  show EN κ ω 2 _ _ [oO a 5 [.int 0, .ref b1, .ref b2, .ref b3, .ref b4, .int 0, .ref b5, .int 0, .ref b6, .ref b7, .int 0, .int 0, .int 0, .ref b8, .ref b9, .null, .null, .null, .null, .int 0, .int 0, .int 0, .int 0, .null, .null, .int 0, .int 0, .int 0, .null, .null, .null, .int 0], zI ω b1 6, zI ω b2 6, zI ω b3 24, zI ω b4 36, zI ω b5 160, zI ω b6 1200, zI ω b7 24, zI ω b8 60, zI ω b9 3, fI ω b10 4 mSort 0] 10 1523 81 [(0, .ref a)] [.ref b10, .ref a]
  refine n_dup C dX7_init_81 rfl (q := 82) rfl ?_
  refine n_iconst C dX7_init_82 ic_0 (q := 83) rfl ?_
  refine n_iconst C dX7_init_83 ic_m1 (q := 84) rfl ?_
  refine n_fill C (k := 10) (n := 4) (j := 0) (Ls := mSort) (ms' := [oO a 5 [.int 0, .ref b1, .ref b2, .ref b3, .ref b4, .int 0, .ref b5, .int 0, .ref b6, .ref b7, .int 0, .int 0, .int 0, .ref b8, .ref b9, .null, .null, .null, .null, .int 0, .int 0, .int 0, .int 0, .null, .null, .int 0, .int 0, .int 0, .null, .null, .null, .int 0], zI ω b1 6, zI ω b2 6, zI ω b3 24, zI ω b4 36, zI ω b5 160, zI ω b6 1200, zI ω b7 24, zI ω b8 60, zI ω b9 3, fI ω b10 4 mSort 1]) dX7_init_84 rfl rfl rfl (Nat.le_of_ble_eq_true rfl) (Nat.le_of_ble_eq_true rfl) rfl (q := 85) rfl ?_
  refine n_dup C dX7_init_85 rfl (q := 86) rfl ?_
  refine n_iconst C dX7_init_86 ic_1 (q := 87) rfl ?_
  refine n_iconst C dX7_init_87 ic_m1 (q := 88) rfl ?_
  refine n_fill C (k := 10) (n := 4) (j := 1) (Ls := mSort) (ms' := [oO a 5 [.int 0, .ref b1, .ref b2, .ref b3, .ref b4, .int 0, .ref b5, .int 0, .ref b6, .ref b7, .int 0, .int 0, .int 0, .ref b8, .ref b9, .null, .null, .null, .null, .int 0, .int 0, .int 0, .int 0, .null, .null, .int 0, .int 0, .int 0, .null, .null, .null, .int 0], zI ω b1 6, zI ω b2 6, zI ω b3 24, zI ω b4 36, zI ω b5 160, zI ω b6 1200, zI ω b7 24, zI ω b8 60, zI ω b9 3, fI ω b10 4 mSort 2]) dX7_init_88 rfl rfl rfl (Nat.le_of_ble_eq_true rfl) (Nat.le_of_ble_eq_true rfl) rfl (q := 89) rfl ?_
  refine n_dup C dX7_init_89 rfl (q := 90) rfl ?_
  refine n_iconst C dX7_init_90 ic_2 (q := 91) rfl ?_
  refine n_iconst C dX7_init_91 ic_m1 (q := 92) rfl ?_
  refine n_fill C (k := 10) (n := 4) (j := 2) (Ls := mSort) (ms' := [oO a 5 [.int 0, .ref b1, .ref b2, .ref b3, .ref b4, .int 0, .ref b5, .int 0, .ref b6, .ref b7, .int 0, .int 0, .int 0, .ref b8, .ref b9, .null, .null, .null, .null, .int 0, .int 0, .int 0, .int 0, .null, .null, .int 0, .int 0, .int 0, .null, .null, .null, .int 0], zI ω b1 6, zI ω b2 6, zI ω b3 24, zI ω b4 36, zI ω b5 160, zI ω b6 1200, zI ω b7 24, zI ω b8 60, zI ω b9 3, fI ω b10 4 mSort 3]) dX7_init_92 rfl rfl rfl (Nat.le_of_ble_eq_true rfl) (Nat.le_of_ble_eq_true rfl) rfl (q := 93) rfl ?_
  refine n_dup C dX7_init_93 rfl (q := 94) rfl ?_
  refine n_iconst C dX7_init_94 ic_3 (q := 95) rfl ?_
  refine n_iconst C dX7_init_95 ic_m1 (q := 96) rfl ?_
  refine n_fill C (k := 10) (n := 4) (j := 3) (Ls := mSort) (ms' := [oO a 5 [.int 0, .ref b1, .ref b2, .ref b3, .ref b4, .int 0, .ref b5, .int 0, .ref b6, .ref b7, .int 0, .int 0, .int 0, .ref b8, .ref b9, .null, .null, .null, .null, .int 0, .int 0, .int 0, .int 0, .null, .null, .int 0, .int 0, .int 0, .null, .null, .null, .int 0], zI ω b1 6, zI ω b2 6, zI ω b3 24, zI ω b4 36, zI ω b5 160, zI ω b6 1200, zI ω b7 24, zI ω b8 60, zI ω b9 3, fI ω b10 4 mSort 4]) dX7_init_96 rfl rfl rfl (Nat.le_of_ble_eq_true rfl) (Nat.le_of_ble_eq_true rfl) rfl (q := 97) rfl ?_
  refine n_putF C (k := 0) (j := 15) (ci := 5) (T := TX7) (N := 32) (ms' := [oO a 5 [.int 0, .ref b1, .ref b2, .ref b3, .ref b4, .int 0, .ref b5, .int 0, .ref b6, .ref b7, .int 0, .int 0, .int 0, .ref b8, .ref b9, .ref b10, .null, .null, .null, .int 0, .int 0, .int 0, .int 0, .null, .null, .int 0, .int 0, .int 0, .null, .null, .null, .int 0], zI ω b1 6, zI ω b2 6, zI ω b3 24, zI ω b4 36, zI ω b5 160, zI ω b6 1200, zI ω b7 24, zI ω b8 60, zI ω b9 3, fI ω b10 4 mSort 4]) hini dX7_init_97 rfl rfl (by decide) in_X7 wc_777_8632 tyX7_ok nmX7 rfl rfl rfl rfl rfl (Nat.le_of_ble_eq_true rfl) rfl (q := 100) rfl ?_
  refine n_aload_n C dX7_init_100 rfl 0 rfl (q := 101) rfl ?_
  refine n_iconst C dX7_init_101 ic_4 (q := 102) rfl ?_
  refine n_newI C (N := 4) dX7_init_102 wc_137_faec (by decide) (by decide) (Nat.le_of_ble_eq_true rfl) (Nat.le_of_ble_eq_true rfl) (Nat.le_of_ble_eq_true rfl) (q := 104) rfl (fun b11 => ?_)
  show EN κ ω 2 _ _ [oO a 5 [.int 0, .ref b1, .ref b2, .ref b3, .ref b4, .int 0, .ref b5, .int 0, .ref b6, .ref b7, .int 0, .int 0, .int 0, .ref b8, .ref b9, .ref b10, .null, .null, .null, .int 0, .int 0, .int 0, .int 0, .null, .null, .int 0, .int 0, .int 0, .null, .null, .null, .int 0], zI ω b1 6, zI ω b2 6, zI ω b3 24, zI ω b4 36, zI ω b5 160, zI ω b6 1200, zI ω b7 24, zI ω b8 60, zI ω b9 3, fI ω b10 4 mSort 4, zI ω b11 4] 11 1527 104 [(0, .ref a)] [.ref b11, .ref a]
  refine n_putF C (k := 0) (j := 16) (ci := 5) (T := TX7) (N := 32) (ms' := [oO a 5 [.int 0, .ref b1, .ref b2, .ref b3, .ref b4, .int 0, .ref b5, .int 0, .ref b6, .ref b7, .int 0, .int 0, .int 0, .ref b8, .ref b9, .ref b10, .ref b11, .null, .null, .int 0, .int 0, .int 0, .int 0, .null, .null, .int 0, .int 0, .int 0, .null, .null, .null, .int 0], zI ω b1 6, zI ω b2 6, zI ω b3 24, zI ω b4 36, zI ω b5 160, zI ω b6 1200, zI ω b7 24, zI ω b8 60, zI ω b9 3, fI ω b10 4 mSort 4, zI ω b11 4]) hini dX7_init_104 rfl rfl (by decide) in_X7 wc_778_8f42 tyX7_ok nmX7 rfl rfl rfl rfl rfl (Nat.le_of_ble_eq_true rfl) rfl (q := 107) rfl ?_
  refine n_aload_n C dX7_init_107 rfl 0 rfl (q := 108) rfl ?_
  refine n_sipush C dX7_init_108 b16_160 (q := 111) rfl ?_
  refine n_newI C (N := 160) dX7_init_111 wc_137_faec (by decide) (by decide) (Nat.le_of_ble_eq_true rfl) (Nat.le_of_ble_eq_true rfl) (Nat.le_of_ble_eq_true rfl) (q := 113) rfl (fun b12 => ?_)
  show EN κ ω 2 _ _ [oO a 5 [.int 0, .ref b1, .ref b2, .ref b3, .ref b4, .int 0, .ref b5, .int 0, .ref b6, .ref b7, .int 0, .int 0, .int 0, .ref b8, .ref b9, .ref b10, .ref b11, .null, .null, .int 0, .int 0, .int 0, .int 0, .null, .null, .int 0, .int 0, .int 0, .null, .null, .null, .int 0], zI ω b1 6, zI ω b2 6, zI ω b3 24, zI ω b4 36, zI ω b5 160, zI ω b6 1200, zI ω b7 24, zI ω b8 60, zI ω b9 3, fI ω b10 4 mSort 4, zI ω b11 4, zI ω b12 160] 12 1687 113 [(0, .ref a)] [.ref b12, .ref a]
  refine n_putF C (k := 0) (j := 17) (ci := 5) (T := TX7) (N := 32) (ms' := [oO a 5 [.int 0, .ref b1, .ref b2, .ref b3, .ref b4, .int 0, .ref b5, .int 0, .ref b6, .ref b7, .int 0, .int 0, .int 0, .ref b8, .ref b9, .ref b10, .ref b11, .ref b12, .null, .int 0, .int 0, .int 0, .int 0, .null, .null, .int 0, .int 0, .int 0, .null, .null, .null, .int 0], zI ω b1 6, zI ω b2 6, zI ω b3 24, zI ω b4 36, zI ω b5 160, zI ω b6 1200, zI ω b7 24, zI ω b8 60, zI ω b9 3, fI ω b10 4 mSort 4, zI ω b11 4, zI ω b12 160]) hini dX7_init_113 rfl rfl (by decide) in_X7 wc_779_fa18 tyX7_ok nmX7 rfl rfl rfl rfl rfl (Nat.le_of_ble_eq_true rfl) rfl (q := 116) rfl ?_
  exact kk b1 b2 b3 b4 b5 b6 b7 b8 b9 b10 b11 b12

set_option maxHeartbeats 4000000 in
set_option maxRecDepth 100000 in
theorem sg7_1 {κ : Kx} {ω : Om} {Q : State → Prop} {pre : va_W} (C : CN κ ω cX7_init 2 6 yX7_init.cls 18 2276) (hini : κ.2.2.2.2.2.2.2.2.1.name = "<init>") {a b1 b2 b3 b4 b5 b6 b7 b8 b9 b10 b11 b12 : Nat} (kk : ∀ b13 : Nat, EN κ ω 2 Q pre [oO a 5 [.int 0, .ref b1, .ref b2, .ref b3, .ref b4, .int 0, .ref b5, .int 0, .ref b6, .ref b7, .int 0, .int 0, .int 0, .ref b8, .ref b9, .ref b10, .ref b11, .ref b12, .ref b13, .int 0, .int 0, .int 0, .int 0, .null, .null, .int 0, .int 0, .int 0, .null, .null, .null, .int 0], zI ω b1 6, zI ω b2 6, zI ω b3 24, zI ω b4 36, zI ω b5 160, zI ω b6 1200, zI ω b7 24, zI ω b8 60, zI ω b9 3, fI ω b10 4 mSort 4, zI ω b11 4, zI ω b12 160, fI ω b13 26 mLaw 26] 13 1713 274 [(0, .ref a)] []) : EN κ ω 2 Q pre [oO a 5 [.int 0, .ref b1, .ref b2, .ref b3, .ref b4, .int 0, .ref b5, .int 0, .ref b6, .ref b7, .int 0, .int 0, .int 0, .ref b8, .ref b9, .ref b10, .ref b11, .ref b12, .null, .int 0, .int 0, .int 0, .int 0, .null, .null, .int 0, .int 0, .int 0, .null, .null, .null, .int 0], zI ω b1 6, zI ω b2 6, zI ω b3 24, zI ω b4 36, zI ω b5 160, zI ω b6 1200, zI ω b7 24, zI ω b8 60, zI ω b9 3, fI ω b10 4 mSort 4, zI ω b11 4, zI ω b12 160] 12 1687 116 [(0, .ref a)] [] := by
  refine n_aload_n C dX7_init_116 rfl 0 rfl (q := 117) rfl ?_
  refine n_bipush C dX7_init_117 b8_26 (q := 119) rfl ?_
  refine n_newF C (N := 26) (Ls := mLaw) dX7_init_119 wc_137_faec (by decide) (by decide) (Nat.le_of_ble_eq_true rfl) (Nat.le_of_ble_eq_true rfl) (Nat.le_of_ble_eq_true rfl) (q := 121) rfl (fun b13 => ?_)
  show EN κ ω 2 _ _ [oO a 5 [.int 0, .ref b1, .ref b2, .ref b3, .ref b4, .int 0, .ref b5, .int 0, .ref b6, .ref b7, .int 0, .int 0, .int 0, .ref b8, .ref b9, .ref b10, .ref b11, .ref b12, .null, .int 0, .int 0, .int 0, .int 0, .null, .null, .int 0, .int 0, .int 0, .null, .null, .null, .int 0], zI ω b1 6, zI ω b2 6, zI ω b3 24, zI ω b4 36, zI ω b5 160, zI ω b6 1200, zI ω b7 24, zI ω b8 60, zI ω b9 3, fI ω b10 4 mSort 4, zI ω b11 4, zI ω b12 160, fI ω b13 26 mLaw 0] 13 1713 121 [(0, .ref a)] [.ref b13, .ref a]
  refine n_dup C dX7_init_121 rfl (q := 122) rfl ?_
  refine n_iconst C dX7_init_122 ic_0 (q := 123) rfl ?_
  refine n_bipush C dX7_init_123 b8_103 (q := 125) rfl ?_
  refine n_fill C (k := 13) (n := 26) (j := 0) (Ls := mLaw) (ms' := [oO a 5 [.int 0, .ref b1, .ref b2, .ref b3, .ref b4, .int 0, .ref b5, .int 0, .ref b6, .ref b7, .int 0, .int 0, .int 0, .ref b8, .ref b9, .ref b10, .ref b11, .ref b12, .null, .int 0, .int 0, .int 0, .int 0, .null, .null, .int 0, .int 0, .int 0, .null, .null, .null, .int 0], zI ω b1 6, zI ω b2 6, zI ω b3 24, zI ω b4 36, zI ω b5 160, zI ω b6 1200, zI ω b7 24, zI ω b8 60, zI ω b9 3, fI ω b10 4 mSort 4, zI ω b11 4, zI ω b12 160, fI ω b13 26 mLaw 1]) dX7_init_125 rfl rfl rfl (Nat.le_of_ble_eq_true rfl) (Nat.le_of_ble_eq_true rfl) rfl (q := 126) rfl ?_
  refine n_dup C dX7_init_126 rfl (q := 127) rfl ?_
  refine n_iconst C dX7_init_127 ic_1 (q := 128) rfl ?_
  refine n_bipush C dX7_init_128 b8_111 (q := 130) rfl ?_
  refine n_fill C (k := 13) (n := 26) (j := 1) (Ls := mLaw) (ms' := [oO a 5 [.int 0, .ref b1, .ref b2, .ref b3, .ref b4, .int 0, .ref b5, .int 0, .ref b6, .ref b7, .int 0, .int 0, .int 0, .ref b8, .ref b9, .ref b10, .ref b11, .ref b12, .null, .int 0, .int 0, .int 0, .int 0, .null, .null, .int 0, .int 0, .int 0, .null, .null, .null, .int 0], zI ω b1 6, zI ω b2 6, zI ω b3 24, zI ω b4 36, zI ω b5 160, zI ω b6 1200, zI ω b7 24, zI ω b8 60, zI ω b9 3, fI ω b10 4 mSort 4, zI ω b11 4, zI ω b12 160, fI ω b13 26 mLaw 2]) dX7_init_130 rfl rfl rfl (Nat.le_of_ble_eq_true rfl) (Nat.le_of_ble_eq_true rfl) rfl (q := 131) rfl ?_
  refine n_dup C dX7_init_131 rfl (q := 132) rfl ?_
  refine n_iconst C dX7_init_132 ic_2 (q := 133) rfl ?_
  refine n_bipush C dX7_init_133 b8_101 (q := 135) rfl ?_
  refine n_fill C (k := 13) (n := 26) (j := 2) (Ls := mLaw) (ms' := [oO a 5 [.int 0, .ref b1, .ref b2, .ref b3, .ref b4, .int 0, .ref b5, .int 0, .ref b6, .ref b7, .int 0, .int 0, .int 0, .ref b8, .ref b9, .ref b10, .ref b11, .ref b12, .null, .int 0, .int 0, .int 0, .int 0, .null, .null, .int 0, .int 0, .int 0, .null, .null, .null, .int 0], zI ω b1 6, zI ω b2 6, zI ω b3 24, zI ω b4 36, zI ω b5 160, zI ω b6 1200, zI ω b7 24, zI ω b8 60, zI ω b9 3, fI ω b10 4 mSort 4, zI ω b11 4, zI ω b12 160, fI ω b13 26 mLaw 3]) dX7_init_135 rfl rfl rfl (Nat.le_of_ble_eq_true rfl) (Nat.le_of_ble_eq_true rfl) rfl (q := 136) rfl ?_
  refine n_dup C dX7_init_136 rfl (q := 137) rfl ?_
  refine n_iconst C dX7_init_137 ic_3 (q := 138) rfl ?_
  refine n_bipush C dX7_init_138 b8_115 (q := 140) rfl ?_
  refine n_fill C (k := 13) (n := 26) (j := 3) (Ls := mLaw) (ms' := [oO a 5 [.int 0, .ref b1, .ref b2, .ref b3, .ref b4, .int 0, .ref b5, .int 0, .ref b6, .ref b7, .int 0, .int 0, .int 0, .ref b8, .ref b9, .ref b10, .ref b11, .ref b12, .null, .int 0, .int 0, .int 0, .int 0, .null, .null, .int 0, .int 0, .int 0, .null, .null, .null, .int 0], zI ω b1 6, zI ω b2 6, zI ω b3 24, zI ω b4 36, zI ω b5 160, zI ω b6 1200, zI ω b7 24, zI ω b8 60, zI ω b9 3, fI ω b10 4 mSort 4, zI ω b11 4, zI ω b12 160, fI ω b13 26 mLaw 4]) dX7_init_140 rfl rfl rfl (Nat.le_of_ble_eq_true rfl) (Nat.le_of_ble_eq_true rfl) rfl (q := 141) rfl ?_
  refine n_dup C dX7_init_141 rfl (q := 142) rfl ?_
  refine n_iconst C dX7_init_142 ic_4 (q := 143) rfl ?_
  refine n_bipush C dX7_init_143 b8_32 (q := 145) rfl ?_
  refine n_fill C (k := 13) (n := 26) (j := 4) (Ls := mLaw) (ms' := [oO a 5 [.int 0, .ref b1, .ref b2, .ref b3, .ref b4, .int 0, .ref b5, .int 0, .ref b6, .ref b7, .int 0, .int 0, .int 0, .ref b8, .ref b9, .ref b10, .ref b11, .ref b12, .null, .int 0, .int 0, .int 0, .int 0, .null, .null, .int 0, .int 0, .int 0, .null, .null, .null, .int 0], zI ω b1 6, zI ω b2 6, zI ω b3 24, zI ω b4 36, zI ω b5 160, zI ω b6 1200, zI ω b7 24, zI ω b8 60, zI ω b9 3, fI ω b10 4 mSort 4, zI ω b11 4, zI ω b12 160, fI ω b13 26 mLaw 5]) dX7_init_145 rfl rfl rfl (Nat.le_of_ble_eq_true rfl) (Nat.le_of_ble_eq_true rfl) rfl (q := 146) rfl ?_
  refine n_dup C dX7_init_146 rfl (q := 147) rfl ?_
  refine n_iconst C dX7_init_147 ic_5 (q := 148) rfl ?_
  refine n_bipush C dX7_init_148 b8_49 (q := 150) rfl ?_
  refine n_fill C (k := 13) (n := 26) (j := 5) (Ls := mLaw) (ms' := [oO a 5 [.int 0, .ref b1, .ref b2, .ref b3, .ref b4, .int 0, .ref b5, .int 0, .ref b6, .ref b7, .int 0, .int 0, .int 0, .ref b8, .ref b9, .ref b10, .ref b11, .ref b12, .null, .int 0, .int 0, .int 0, .int 0, .null, .null, .int 0, .int 0, .int 0, .null, .null, .null, .int 0], zI ω b1 6, zI ω b2 6, zI ω b3 24, zI ω b4 36, zI ω b5 160, zI ω b6 1200, zI ω b7 24, zI ω b8 60, zI ω b9 3, fI ω b10 4 mSort 4, zI ω b11 4, zI ω b12 160, fI ω b13 26 mLaw 6]) dX7_init_150 rfl rfl rfl (Nat.le_of_ble_eq_true rfl) (Nat.le_of_ble_eq_true rfl) rfl (q := 151) rfl ?_
  refine n_dup C dX7_init_151 rfl (q := 152) rfl ?_
  refine n_bipush C dX7_init_152 b8_6 (q := 154) rfl ?_
  refine n_bipush C dX7_init_154 b8_32 (q := 156) rfl ?_
  refine n_fill C (k := 13) (n := 26) (j := 6) (Ls := mLaw) (ms' := [oO a 5 [.int 0, .ref b1, .ref b2, .ref b3, .ref b4, .int 0, .ref b5, .int 0, .ref b6, .ref b7, .int 0, .int 0, .int 0, .ref b8, .ref b9, .ref b10, .ref b11, .ref b12, .null, .int 0, .int 0, .int 0, .int 0, .null, .null, .int 0, .int 0, .int 0, .null, .null, .null, .int 0], zI ω b1 6, zI ω b2 6, zI ω b3 24, zI ω b4 36, zI ω b5 160, zI ω b6 1200, zI ω b7 24, zI ω b8 60, zI ω b9 3, fI ω b10 4 mSort 4, zI ω b11 4, zI ω b12 160, fI ω b13 26 mLaw 7]) dX7_init_156 rfl rfl rfl (Nat.le_of_ble_eq_true rfl) (Nat.le_of_ble_eq_true rfl) rfl (q := 157) rfl ?_
  refine n_dup C dX7_init_157 rfl (q := 158) rfl ?_
  refine n_bipush C dX7_init_158 b8_7 (q := 160) rfl ?_
  refine n_bipush C dX7_init_160 b8_59 (q := 162) rfl ?_
  refine n_fill C (k := 13) (n := 26) (j := 7) (Ls := mLaw) (ms' := [oO a 5 [.int 0, .ref b1, .ref b2, .ref b3, .ref b4, .int 0, .ref b5, .int 0, .ref b6, .ref b7, .int 0, .int 0, .int 0, .ref b8, .ref b9, .ref b10, .ref b11, .ref b12, .null, .int 0, .int 0, .int 0, .int 0, .null, .null, .int 0, .int 0, .int 0, .null, .null, .null, .int 0], zI ω b1 6, zI ω b2 6, zI ω b3 24, zI ω b4 36, zI ω b5 160, zI ω b6 1200, zI ω b7 24, zI ω b8 60, zI ω b9 3, fI ω b10 4 mSort 4, zI ω b11 4, zI ω b12 160, fI ω b13 26 mLaw 8]) dX7_init_162 rfl rfl rfl (Nat.le_of_ble_eq_true rfl) (Nat.le_of_ble_eq_true rfl) rfl (q := 163) rfl ?_
  refine n_dup C dX7_init_163 rfl (q := 164) rfl ?_
  refine n_bipush C dX7_init_164 b8_8 (q := 166) rfl ?_
  refine n_bipush C dX7_init_166 b8_32 (q := 168) rfl ?_
  refine n_fill C (k := 13) (n := 26) (j := 8) (Ls := mLaw) (ms' := [oO a 5 [.int 0, .ref b1, .ref b2, .ref b3, .ref b4, .int 0, .ref b5, .int 0, .ref b6, .ref b7, .int 0, .int 0, .int 0, .ref b8, .ref b9, .ref b10, .ref b11, .ref b12, .null, .int 0, .int 0, .int 0, .int 0, .null, .null, .int 0, .int 0, .int 0, .null, .null, .null, .int 0], zI ω b1 6, zI ω b2 6, zI ω b3 24, zI ω b4 36, zI ω b5 160, zI ω b6 1200, zI ω b7 24, zI ω b8 60, zI ω b9 3, fI ω b10 4 mSort 4, zI ω b11 4, zI ω b12 160, fI ω b13 26 mLaw 9]) dX7_init_168 rfl rfl rfl (Nat.le_of_ble_eq_true rfl) (Nat.le_of_ble_eq_true rfl) rfl (q := 169) rfl ?_
  refine n_dup C dX7_init_169 rfl (q := 170) rfl ?_
  refine n_bipush C dX7_init_170 b8_9 (q := 172) rfl ?_
  refine n_bipush C dX7_init_172 b8_104 (q := 174) rfl ?_
  refine n_fill C (k := 13) (n := 26) (j := 9) (Ls := mLaw) (ms' := [oO a 5 [.int 0, .ref b1, .ref b2, .ref b3, .ref b4, .int 0, .ref b5, .int 0, .ref b6, .ref b7, .int 0, .int 0, .int 0, .ref b8, .ref b9, .ref b10, .ref b11, .ref b12, .null, .int 0, .int 0, .int 0, .int 0, .null, .null, .int 0, .int 0, .int 0, .null, .null, .null, .int 0], zI ω b1 6, zI ω b2 6, zI ω b3 24, zI ω b4 36, zI ω b5 160, zI ω b6 1200, zI ω b7 24, zI ω b8 60, zI ω b9 3, fI ω b10 4 mSort 4, zI ω b11 4, zI ω b12 160, fI ω b13 26 mLaw 10]) dX7_init_174 rfl rfl rfl (Nat.le_of_ble_eq_true rfl) (Nat.le_of_ble_eq_true rfl) rfl (q := 175) rfl ?_
  refine n_dup C dX7_init_175 rfl (q := 176) rfl ?_
  refine n_bipush C dX7_init_176 b8_10 (q := 178) rfl ?_
  refine n_bipush C dX7_init_178 b8_105 (q := 180) rfl ?_
  refine n_fill C (k := 13) (n := 26) (j := 10) (Ls := mLaw) (ms' := [oO a 5 [.int 0, .ref b1, .ref b2, .ref b3, .ref b4, .int 0, .ref b5, .int 0, .ref b6, .ref b7, .int 0, .int 0, .int 0, .ref b8, .ref b9, .ref b10, .ref b11, .ref b12, .null, .int 0, .int 0, .int 0, .int 0, .null, .null, .int 0, .int 0, .int 0, .null, .null, .null, .int 0], zI ω b1 6, zI ω b2 6, zI ω b3 24, zI ω b4 36, zI ω b5 160, zI ω b6 1200, zI ω b7 24, zI ω b8 60, zI ω b9 3, fI ω b10 4 mSort 4, zI ω b11 4, zI ω b12 160, fI ω b13 26 mLaw 11]) dX7_init_180 rfl rfl rfl (Nat.le_of_ble_eq_true rfl) (Nat.le_of_ble_eq_true rfl) rfl (q := 181) rfl ?_
  refine n_dup C dX7_init_181 rfl (q := 182) rfl ?_
  refine n_bipush C dX7_init_182 b8_11 (q := 184) rfl ?_
  refine n_bipush C dX7_init_184 b8_116 (q := 186) rfl ?_
  refine n_fill C (k := 13) (n := 26) (j := 11) (Ls := mLaw) (ms' := [oO a 5 [.int 0, .ref b1, .ref b2, .ref b3, .ref b4, .int 0, .ref b5, .int 0, .ref b6, .ref b7, .int 0, .int 0, .int 0, .ref b8, .ref b9, .ref b10, .ref b11, .ref b12, .null, .int 0, .int 0, .int 0, .int 0, .null, .null, .int 0, .int 0, .int 0, .null, .null, .null, .int 0], zI ω b1 6, zI ω b2 6, zI ω b3 24, zI ω b4 36, zI ω b5 160, zI ω b6 1200, zI ω b7 24, zI ω b8 60, zI ω b9 3, fI ω b10 4 mSort 4, zI ω b11 4, zI ω b12 160, fI ω b13 26 mLaw 12]) dX7_init_186 rfl rfl rfl (Nat.le_of_ble_eq_true rfl) (Nat.le_of_ble_eq_true rfl) rfl (q := 187) rfl ?_
  refine n_dup C dX7_init_187 rfl (q := 188) rfl ?_
  refine n_bipush C dX7_init_188 b8_12 (q := 190) rfl ?_
  refine n_bipush C dX7_init_190 b8_115 (q := 192) rfl ?_
  refine n_fill C (k := 13) (n := 26) (j := 12) (Ls := mLaw) (ms' := [oO a 5 [.int 0, .ref b1, .ref b2, .ref b3, .ref b4, .int 0, .ref b5, .int 0, .ref b6, .ref b7, .int 0, .int 0, .int 0, .ref b8, .ref b9, .ref b10, .ref b11, .ref b12, .null, .int 0, .int 0, .int 0, .int 0, .null, .null, .int 0, .int 0, .int 0, .null, .null, .null, .int 0], zI ω b1 6, zI ω b2 6, zI ω b3 24, zI ω b4 36, zI ω b5 160, zI ω b6 1200, zI ω b7 24, zI ω b8 60, zI ω b9 3, fI ω b10 4 mSort 4, zI ω b11 4, zI ω b12 160, fI ω b13 26 mLaw 13]) dX7_init_192 rfl rfl rfl (Nat.le_of_ble_eq_true rfl) (Nat.le_of_ble_eq_true rfl) rfl (q := 193) rfl ?_
  refine n_dup C dX7_init_193 rfl (q := 194) rfl ?_
  refine n_bipush C dX7_init_194 b8_13 (q := 196) rfl ?_
  refine n_bipush C dX7_init_196 b8_32 (q := 198) rfl ?_
  refine n_fill C (k := 13) (n := 26) (j := 13) (Ls := mLaw) (ms' := [oO a 5 [.int 0, .ref b1, .ref b2, .ref b3, .ref b4, .int 0, .ref b5, .int 0, .ref b6, .ref b7, .int 0, .int 0, .int 0, .ref b8, .ref b9, .ref b10, .ref b11, .ref b12, .null, .int 0, .int 0, .int 0, .int 0, .null, .null, .int 0, .int 0, .int 0, .null, .null, .null, .int 0], zI ω b1 6, zI ω b2 6, zI ω b3 24, zI ω b4 36, zI ω b5 160, zI ω b6 1200, zI ω b7 24, zI ω b8 60, zI ω b9 3, fI ω b10 4 mSort 4, zI ω b11 4, zI ω b12 160, fI ω b13 26 mLaw 14]) dX7_init_198 rfl rfl rfl (Nat.le_of_ble_eq_true rfl) (Nat.le_of_ble_eq_true rfl) rfl (q := 199) rfl ?_
  refine n_dup C dX7_init_199 rfl (q := 200) rfl ?_
  refine n_bipush C dX7_init_200 b8_14 (q := 202) rfl ?_
  refine n_bipush C dX7_init_202 b8_53 (q := 204) rfl ?_
  refine n_fill C (k := 13) (n := 26) (j := 14) (Ls := mLaw) (ms' := [oO a 5 [.int 0, .ref b1, .ref b2, .ref b3, .ref b4, .int 0, .ref b5, .int 0, .ref b6, .ref b7, .int 0, .int 0, .int 0, .ref b8, .ref b9, .ref b10, .ref b11, .ref b12, .null, .int 0, .int 0, .int 0, .int 0, .null, .null, .int 0, .int 0, .int 0, .null, .null, .null, .int 0], zI ω b1 6, zI ω b2 6, zI ω b3 24, zI ω b4 36, zI ω b5 160, zI ω b6 1200, zI ω b7 24, zI ω b8 60, zI ω b9 3, fI ω b10 4 mSort 4, zI ω b11 4, zI ω b12 160, fI ω b13 26 mLaw 15]) dX7_init_204 rfl rfl rfl (Nat.le_of_ble_eq_true rfl) (Nat.le_of_ble_eq_true rfl) rfl (q := 205) rfl ?_
  refine n_dup C dX7_init_205 rfl (q := 206) rfl ?_
  refine n_bipush C dX7_init_206 b8_15 (q := 208) rfl ?_
  refine n_bipush C dX7_init_208 b8_32 (q := 210) rfl ?_
  refine n_fill C (k := 13) (n := 26) (j := 15) (Ls := mLaw) (ms' := [oO a 5 [.int 0, .ref b1, .ref b2, .ref b3, .ref b4, .int 0, .ref b5, .int 0, .ref b6, .ref b7, .int 0, .int 0, .int 0, .ref b8, .ref b9, .ref b10, .ref b11, .ref b12, .null, .int 0, .int 0, .int 0, .int 0, .null, .null, .int 0, .int 0, .int 0, .null, .null, .null, .int 0], zI ω b1 6, zI ω b2 6, zI ω b3 24, zI ω b4 36, zI ω b5 160, zI ω b6 1200, zI ω b7 24, zI ω b8 60, zI ω b9 3, fI ω b10 4 mSort 4, zI ω b11 4, zI ω b12 160, fI ω b13 26 mLaw 16]) dX7_init_210 rfl rfl rfl (Nat.le_of_ble_eq_true rfl) (Nat.le_of_ble_eq_true rfl) rfl (q := 211) rfl ?_
  refine n_dup C dX7_init_211 rfl (q := 212) rfl ?_
  refine n_bipush C dX7_init_212 b8_16 (q := 214) rfl ?_
  refine n_bipush C dX7_init_214 b8_59 (q := 216) rfl ?_
  refine n_fill C (k := 13) (n := 26) (j := 16) (Ls := mLaw) (ms' := [oO a 5 [.int 0, .ref b1, .ref b2, .ref b3, .ref b4, .int 0, .ref b5, .int 0, .ref b6, .ref b7, .int 0, .int 0, .int 0, .ref b8, .ref b9, .ref b10, .ref b11, .ref b12, .null, .int 0, .int 0, .int 0, .int 0, .null, .null, .int 0, .int 0, .int 0, .null, .null, .null, .int 0], zI ω b1 6, zI ω b2 6, zI ω b3 24, zI ω b4 36, zI ω b5 160, zI ω b6 1200, zI ω b7 24, zI ω b8 60, zI ω b9 3, fI ω b10 4 mSort 4, zI ω b11 4, zI ω b12 160, fI ω b13 26 mLaw 17]) dX7_init_216 rfl rfl rfl (Nat.le_of_ble_eq_true rfl) (Nat.le_of_ble_eq_true rfl) rfl (q := 217) rfl ?_
  refine n_dup C dX7_init_217 rfl (q := 218) rfl ?_
  refine n_bipush C dX7_init_218 b8_17 (q := 220) rfl ?_
  refine n_bipush C dX7_init_220 b8_32 (q := 222) rfl ?_
  refine n_fill C (k := 13) (n := 26) (j := 17) (Ls := mLaw) (ms' := [oO a 5 [.int 0, .ref b1, .ref b2, .ref b3, .ref b4, .int 0, .ref b5, .int 0, .ref b6, .ref b7, .int 0, .int 0, .int 0, .ref b8, .ref b9, .ref b10, .ref b11, .ref b12, .null, .int 0, .int 0, .int 0, .int 0, .null, .null, .int 0, .int 0, .int 0, .null, .null, .null, .int 0], zI ω b1 6, zI ω b2 6, zI ω b3 24, zI ω b4 36, zI ω b5 160, zI ω b6 1200, zI ω b7 24, zI ω b8 60, zI ω b9 3, fI ω b10 4 mSort 4, zI ω b11 4, zI ω b12 160, fI ω b13 26 mLaw 18]) dX7_init_222 rfl rfl rfl (Nat.le_of_ble_eq_true rfl) (Nat.le_of_ble_eq_true rfl) rfl (q := 223) rfl ?_
  refine n_dup C dX7_init_223 rfl (q := 224) rfl ?_
  refine n_bipush C dX7_init_224 b8_18 (q := 226) rfl ?_
  refine n_bipush C dX7_init_226 b8_115 (q := 228) rfl ?_
  refine n_fill C (k := 13) (n := 26) (j := 18) (Ls := mLaw) (ms' := [oO a 5 [.int 0, .ref b1, .ref b2, .ref b3, .ref b4, .int 0, .ref b5, .int 0, .ref b6, .ref b7, .int 0, .int 0, .int 0, .ref b8, .ref b9, .ref b10, .ref b11, .ref b12, .null, .int 0, .int 0, .int 0, .int 0, .null, .null, .int 0, .int 0, .int 0, .null, .null, .null, .int 0], zI ω b1 6, zI ω b2 6, zI ω b3 24, zI ω b4 36, zI ω b5 160, zI ω b6 1200, zI ω b7 24, zI ω b8 60, zI ω b9 3, fI ω b10 4 mSort 4, zI ω b11 4, zI ω b12 160, fI ω b13 26 mLaw 19]) dX7_init_228 rfl rfl rfl (Nat.le_of_ble_eq_true rfl) (Nat.le_of_ble_eq_true rfl) rfl (q := 229) rfl ?_
  refine n_dup C dX7_init_229 rfl (q := 230) rfl ?_
  refine n_bipush C dX7_init_230 b8_19 (q := 232) rfl ?_
  refine n_bipush C dX7_init_232 b8_111 (q := 234) rfl ?_
  refine n_fill C (k := 13) (n := 26) (j := 19) (Ls := mLaw) (ms' := [oO a 5 [.int 0, .ref b1, .ref b2, .ref b3, .ref b4, .int 0, .ref b5, .int 0, .ref b6, .ref b7, .int 0, .int 0, .int 0, .ref b8, .ref b9, .ref b10, .ref b11, .ref b12, .null, .int 0, .int 0, .int 0, .int 0, .null, .null, .int 0, .int 0, .int 0, .null, .null, .null, .int 0], zI ω b1 6, zI ω b2 6, zI ω b3 24, zI ω b4 36, zI ω b5 160, zI ω b6 1200, zI ω b7 24, zI ω b8 60, zI ω b9 3, fI ω b10 4 mSort 4, zI ω b11 4, zI ω b12 160, fI ω b13 26 mLaw 20]) dX7_init_234 rfl rfl rfl (Nat.le_of_ble_eq_true rfl) (Nat.le_of_ble_eq_true rfl) rfl (q := 235) rfl ?_
  refine n_dup C dX7_init_235 rfl (q := 236) rfl ?_
  refine n_bipush C dX7_init_236 b8_20 (q := 238) rfl ?_
  refine n_bipush C dX7_init_238 b8_102 (q := 240) rfl ?_
  refine n_fill C (k := 13) (n := 26) (j := 20) (Ls := mLaw) (ms' := [oO a 5 [.int 0, .ref b1, .ref b2, .ref b3, .ref b4, .int 0, .ref b5, .int 0, .ref b6, .ref b7, .int 0, .int 0, .int 0, .ref b8, .ref b9, .ref b10, .ref b11, .ref b12, .null, .int 0, .int 0, .int 0, .int 0, .null, .null, .int 0, .int 0, .int 0, .null, .null, .null, .int 0], zI ω b1 6, zI ω b2 6, zI ω b3 24, zI ω b4 36, zI ω b5 160, zI ω b6 1200, zI ω b7 24, zI ω b8 60, zI ω b9 3, fI ω b10 4 mSort 4, zI ω b11 4, zI ω b12 160, fI ω b13 26 mLaw 21]) dX7_init_240 rfl rfl rfl (Nat.le_of_ble_eq_true rfl) (Nat.le_of_ble_eq_true rfl) rfl (q := 241) rfl ?_
  refine n_dup C dX7_init_241 rfl (q := 242) rfl ?_
  refine n_bipush C dX7_init_242 b8_21 (q := 244) rfl ?_
  refine n_bipush C dX7_init_244 b8_116 (q := 246) rfl ?_
  refine n_fill C (k := 13) (n := 26) (j := 21) (Ls := mLaw) (ms' := [oO a 5 [.int 0, .ref b1, .ref b2, .ref b3, .ref b4, .int 0, .ref b5, .int 0, .ref b6, .ref b7, .int 0, .int 0, .int 0, .ref b8, .ref b9, .ref b10, .ref b11, .ref b12, .null, .int 0, .int 0, .int 0, .int 0, .null, .null, .int 0, .int 0, .int 0, .null, .null, .null, .int 0], zI ω b1 6, zI ω b2 6, zI ω b3 24, zI ω b4 36, zI ω b5 160, zI ω b6 1200, zI ω b7 24, zI ω b8 60, zI ω b9 3, fI ω b10 4 mSort 4, zI ω b11 4, zI ω b12 160, fI ω b13 26 mLaw 22]) dX7_init_246 rfl rfl rfl (Nat.le_of_ble_eq_true rfl) (Nat.le_of_ble_eq_true rfl) rfl (q := 247) rfl ?_
  refine n_dup C dX7_init_247 rfl (q := 248) rfl ?_
  refine n_bipush C dX7_init_248 b8_22 (q := 250) rfl ?_
  refine n_bipush C dX7_init_250 b8_32 (q := 252) rfl ?_
  refine n_fill C (k := 13) (n := 26) (j := 22) (Ls := mLaw) (ms' := [oO a 5 [.int 0, .ref b1, .ref b2, .ref b3, .ref b4, .int 0, .ref b5, .int 0, .ref b6, .ref b7, .int 0, .int 0, .int 0, .ref b8, .ref b9, .ref b10, .ref b11, .ref b12, .null, .int 0, .int 0, .int 0, .int 0, .null, .null, .int 0, .int 0, .int 0, .null, .null, .null, .int 0], zI ω b1 6, zI ω b2 6, zI ω b3 24, zI ω b4 36, zI ω b5 160, zI ω b6 1200, zI ω b7 24, zI ω b8 60, zI ω b9 3, fI ω b10 4 mSort 4, zI ω b11 4, zI ω b12 160, fI ω b13 26 mLaw 23]) dX7_init_252 rfl rfl rfl (Nat.le_of_ble_eq_true rfl) (Nat.le_of_ble_eq_true rfl) rfl (q := 253) rfl ?_
  refine n_dup C dX7_init_253 rfl (q := 254) rfl ?_
  refine n_bipush C dX7_init_254 b8_23 (q := 256) rfl ?_
  refine n_bipush C dX7_init_256 b8_48 (q := 258) rfl ?_
  refine n_fill C (k := 13) (n := 26) (j := 23) (Ls := mLaw) (ms' := [oO a 5 [.int 0, .ref b1, .ref b2, .ref b3, .ref b4, .int 0, .ref b5, .int 0, .ref b6, .ref b7, .int 0, .int 0, .int 0, .ref b8, .ref b9, .ref b10, .ref b11, .ref b12, .null, .int 0, .int 0, .int 0, .int 0, .null, .null, .int 0, .int 0, .int 0, .null, .null, .null, .int 0], zI ω b1 6, zI ω b2 6, zI ω b3 24, zI ω b4 36, zI ω b5 160, zI ω b6 1200, zI ω b7 24, zI ω b8 60, zI ω b9 3, fI ω b10 4 mSort 4, zI ω b11 4, zI ω b12 160, fI ω b13 26 mLaw 24]) dX7_init_258 rfl rfl rfl (Nat.le_of_ble_eq_true rfl) (Nat.le_of_ble_eq_true rfl) rfl (q := 259) rfl ?_
  refine n_dup C dX7_init_259 rfl (q := 260) rfl ?_
  refine n_bipush C dX7_init_260 b8_24 (q := 262) rfl ?_
  refine n_bipush C dX7_init_262 b8_32 (q := 264) rfl ?_
  refine n_fill C (k := 13) (n := 26) (j := 24) (Ls := mLaw) (ms' := [oO a 5 [.int 0, .ref b1, .ref b2, .ref b3, .ref b4, .int 0, .ref b5, .int 0, .ref b6, .ref b7, .int 0, .int 0, .int 0, .ref b8, .ref b9, .ref b10, .ref b11, .ref b12, .null, .int 0, .int 0, .int 0, .int 0, .null, .null, .int 0, .int 0, .int 0, .null, .null, .null, .int 0], zI ω b1 6, zI ω b2 6, zI ω b3 24, zI ω b4 36, zI ω b5 160, zI ω b6 1200, zI ω b7 24, zI ω b8 60, zI ω b9 3, fI ω b10 4 mSort 4, zI ω b11 4, zI ω b12 160, fI ω b13 26 mLaw 25]) dX7_init_264 rfl rfl rfl (Nat.le_of_ble_eq_true rfl) (Nat.le_of_ble_eq_true rfl) rfl (q := 265) rfl ?_
  refine n_dup C dX7_init_265 rfl (q := 266) rfl ?_
  refine n_bipush C dX7_init_266 b8_25 (q := 268) rfl ?_
  refine n_bipush C dX7_init_268 b8_59 (q := 270) rfl ?_
  refine n_fill C (k := 13) (n := 26) (j := 25) (Ls := mLaw) (ms' := [oO a 5 [.int 0, .ref b1, .ref b2, .ref b3, .ref b4, .int 0, .ref b5, .int 0, .ref b6, .ref b7, .int 0, .int 0, .int 0, .ref b8, .ref b9, .ref b10, .ref b11, .ref b12, .null, .int 0, .int 0, .int 0, .int 0, .null, .null, .int 0, .int 0, .int 0, .null, .null, .null, .int 0], zI ω b1 6, zI ω b2 6, zI ω b3 24, zI ω b4 36, zI ω b5 160, zI ω b6 1200, zI ω b7 24, zI ω b8 60, zI ω b9 3, fI ω b10 4 mSort 4, zI ω b11 4, zI ω b12 160, fI ω b13 26 mLaw 26]) dX7_init_270 rfl rfl rfl (Nat.le_of_ble_eq_true rfl) (Nat.le_of_ble_eq_true rfl) rfl (q := 271) rfl ?_
  refine n_putF C (k := 0) (j := 18) (ci := 5) (T := TX7) (N := 32) (ms' := [oO a 5 [.int 0, .ref b1, .ref b2, .ref b3, .ref b4, .int 0, .ref b5, .int 0, .ref b6, .ref b7, .int 0, .int 0, .int 0, .ref b8, .ref b9, .ref b10, .ref b11, .ref b12, .ref b13, .int 0, .int 0, .int 0, .int 0, .null, .null, .int 0, .int 0, .int 0, .null, .null, .null, .int 0], zI ω b1 6, zI ω b2 6, zI ω b3 24, zI ω b4 36, zI ω b5 160, zI ω b6 1200, zI ω b7 24, zI ω b8 60, zI ω b9 3, fI ω b10 4 mSort 4, zI ω b11 4, zI ω b12 160, fI ω b13 26 mLaw 26]) hini dX7_init_271 rfl rfl (by decide) in_X7 w_780 tyX7_ok nmX7 rfl rfl rfl rfl rfl (Nat.le_of_ble_eq_true rfl) rfl (q := 274) rfl ?_
  exact kk b13

set_option maxHeartbeats 4000000 in
set_option maxRecDepth 100000 in
theorem sg7_2 {κ : Kx} {ω : Om} {Q : State → Prop} {pre : va_W} (C : CN κ ω cX7_init 2 6 yX7_init.cls 18 2276) (hini : κ.2.2.2.2.2.2.2.2.1.name = "<init>") {a b1 b2 b3 b4 b5 b6 b7 b8 b9 b10 b11 b12 b13 : Nat} (kk : ∀ b14 : Nat, EN κ ω 2 Q pre [oO a 5 [.int 0, .ref b1, .ref b2, .ref b3, .ref b4, .int 0, .ref b5, .int 0, .ref b6, .ref b7, .int 0, .int 0, .int 0, .ref b8, .ref b9, .ref b10, .ref b11, .ref b12, .ref b13, .int 0, .int 0, .int 0, .int 0, .null, .null, .int 0, .int 0, .int 0, .null, .null, .null, .int 0], zI ω b1 6, zI ω b2 6, zI ω b3 24, zI ω b4 36, zI ω b5 160, zI ω b6 1200, zI ω b7 24, zI ω b8 60, zI ω b9 3, fI ω b10 4 mSort 4, zI ω b11 4, zI ω b12 160, fI ω b13 26 mLaw 26, fI ω b14 96 mWords 25] 14 1809 423 [(0, .ref a)] [.ref b14, .ref a]) : EN κ ω 2 Q pre [oO a 5 [.int 0, .ref b1, .ref b2, .ref b3, .ref b4, .int 0, .ref b5, .int 0, .ref b6, .ref b7, .int 0, .int 0, .int 0, .ref b8, .ref b9, .ref b10, .ref b11, .ref b12, .ref b13, .int 0, .int 0, .int 0, .int 0, .null, .null, .int 0, .int 0, .int 0, .null, .null, .null, .int 0], zI ω b1 6, zI ω b2 6, zI ω b3 24, zI ω b4 36, zI ω b5 160, zI ω b6 1200, zI ω b7 24, zI ω b8 60, zI ω b9 3, fI ω b10 4 mSort 4, zI ω b11 4, zI ω b12 160, fI ω b13 26 mLaw 26] 13 1713 274 [(0, .ref a)] [] := by
  refine n_aload_n C dX7_init_274 rfl 0 rfl (q := 275) rfl ?_
  refine n_bipush C dX7_init_275 b8_96 (q := 277) rfl ?_
  refine n_newF C (N := 96) (Ls := mWords) dX7_init_277 wc_137_faec (by decide) (by decide) (Nat.le_of_ble_eq_true rfl) (Nat.le_of_ble_eq_true rfl) (Nat.le_of_ble_eq_true rfl) (q := 279) rfl (fun b14 => ?_)
  show EN κ ω 2 _ _ [oO a 5 [.int 0, .ref b1, .ref b2, .ref b3, .ref b4, .int 0, .ref b5, .int 0, .ref b6, .ref b7, .int 0, .int 0, .int 0, .ref b8, .ref b9, .ref b10, .ref b11, .ref b12, .ref b13, .int 0, .int 0, .int 0, .int 0, .null, .null, .int 0, .int 0, .int 0, .null, .null, .null, .int 0], zI ω b1 6, zI ω b2 6, zI ω b3 24, zI ω b4 36, zI ω b5 160, zI ω b6 1200, zI ω b7 24, zI ω b8 60, zI ω b9 3, fI ω b10 4 mSort 4, zI ω b11 4, zI ω b12 160, fI ω b13 26 mLaw 26, fI ω b14 96 mWords 0] 14 1809 279 [(0, .ref a)] [.ref b14, .ref a]
  refine n_dup C dX7_init_279 rfl (q := 280) rfl ?_
  refine n_iconst C dX7_init_280 ic_0 (q := 281) rfl ?_
  refine n_bipush C dX7_init_281 b8_103 (q := 283) rfl ?_
  refine n_fill C (k := 14) (n := 96) (j := 0) (Ls := mWords) (ms' := [oO a 5 [.int 0, .ref b1, .ref b2, .ref b3, .ref b4, .int 0, .ref b5, .int 0, .ref b6, .ref b7, .int 0, .int 0, .int 0, .ref b8, .ref b9, .ref b10, .ref b11, .ref b12, .ref b13, .int 0, .int 0, .int 0, .int 0, .null, .null, .int 0, .int 0, .int 0, .null, .null, .null, .int 0], zI ω b1 6, zI ω b2 6, zI ω b3 24, zI ω b4 36, zI ω b5 160, zI ω b6 1200, zI ω b7 24, zI ω b8 60, zI ω b9 3, fI ω b10 4 mSort 4, zI ω b11 4, zI ω b12 160, fI ω b13 26 mLaw 26, fI ω b14 96 mWords 1]) dX7_init_283 rfl rfl rfl (Nat.le_of_ble_eq_true rfl) (Nat.le_of_ble_eq_true rfl) rfl (q := 284) rfl ?_
  refine n_dup C dX7_init_284 rfl (q := 285) rfl ?_
  refine n_iconst C dX7_init_285 ic_1 (q := 286) rfl ?_
  refine n_bipush C dX7_init_286 b8_111 (q := 288) rfl ?_
  refine n_fill C (k := 14) (n := 96) (j := 1) (Ls := mWords) (ms' := [oO a 5 [.int 0, .ref b1, .ref b2, .ref b3, .ref b4, .int 0, .ref b5, .int 0, .ref b6, .ref b7, .int 0, .int 0, .int 0, .ref b8, .ref b9, .ref b10, .ref b11, .ref b12, .ref b13, .int 0, .int 0, .int 0, .int 0, .null, .null, .int 0, .int 0, .int 0, .null, .null, .null, .int 0], zI ω b1 6, zI ω b2 6, zI ω b3 24, zI ω b4 36, zI ω b5 160, zI ω b6 1200, zI ω b7 24, zI ω b8 60, zI ω b9 3, fI ω b10 4 mSort 4, zI ω b11 4, zI ω b12 160, fI ω b13 26 mLaw 26, fI ω b14 96 mWords 2]) dX7_init_288 rfl rfl rfl (Nat.le_of_ble_eq_true rfl) (Nat.le_of_ble_eq_true rfl) rfl (q := 289) rfl ?_
  refine n_dup C dX7_init_289 rfl (q := 290) rfl ?_
  refine n_iconst C dX7_init_290 ic_2 (q := 291) rfl ?_
  refine n_bipush C dX7_init_291 b8_101 (q := 293) rfl ?_
  refine n_fill C (k := 14) (n := 96) (j := 2) (Ls := mWords) (ms' := [oO a 5 [.int 0, .ref b1, .ref b2, .ref b3, .ref b4, .int 0, .ref b5, .int 0, .ref b6, .ref b7, .int 0, .int 0, .int 0, .ref b8, .ref b9, .ref b10, .ref b11, .ref b12, .ref b13, .int 0, .int 0, .int 0, .int 0, .null, .null, .int 0, .int 0, .int 0, .null, .null, .null, .int 0], zI ω b1 6, zI ω b2 6, zI ω b3 24, zI ω b4 36, zI ω b5 160, zI ω b6 1200, zI ω b7 24, zI ω b8 60, zI ω b9 3, fI ω b10 4 mSort 4, zI ω b11 4, zI ω b12 160, fI ω b13 26 mLaw 26, fI ω b14 96 mWords 3]) dX7_init_293 rfl rfl rfl (Nat.le_of_ble_eq_true rfl) (Nat.le_of_ble_eq_true rfl) rfl (q := 294) rfl ?_
  refine n_dup C dX7_init_294 rfl (q := 295) rfl ?_
  refine n_iconst C dX7_init_295 ic_3 (q := 296) rfl ?_
  refine n_bipush C dX7_init_296 b8_115 (q := 298) rfl ?_
  refine n_fill C (k := 14) (n := 96) (j := 3) (Ls := mWords) (ms' := [oO a 5 [.int 0, .ref b1, .ref b2, .ref b3, .ref b4, .int 0, .ref b5, .int 0, .ref b6, .ref b7, .int 0, .int 0, .int 0, .ref b8, .ref b9, .ref b10, .ref b11, .ref b12, .ref b13, .int 0, .int 0, .int 0, .int 0, .null, .null, .int 0, .int 0, .int 0, .null, .null, .null, .int 0], zI ω b1 6, zI ω b2 6, zI ω b3 24, zI ω b4 36, zI ω b5 160, zI ω b6 1200, zI ω b7 24, zI ω b8 60, zI ω b9 3, fI ω b10 4 mSort 4, zI ω b11 4, zI ω b12 160, fI ω b13 26 mLaw 26, fI ω b14 96 mWords 4]) dX7_init_298 rfl rfl rfl (Nat.le_of_ble_eq_true rfl) (Nat.le_of_ble_eq_true rfl) rfl (q := 299) rfl ?_
  refine n_dup C dX7_init_299 rfl (q := 300) rfl ?_
  refine n_iconst C dX7_init_300 ic_4 (q := 301) rfl ?_
  refine n_bipush C dX7_init_301 b8_32 (q := 303) rfl ?_
  refine n_fill C (k := 14) (n := 96) (j := 4) (Ls := mWords) (ms' := [oO a 5 [.int 0, .ref b1, .ref b2, .ref b3, .ref b4, .int 0, .ref b5, .int 0, .ref b6, .ref b7, .int 0, .int 0, .int 0, .ref b8, .ref b9, .ref b10, .ref b11, .ref b12, .ref b13, .int 0, .int 0, .int 0, .int 0, .null, .null, .int 0, .int 0, .int 0, .null, .null, .null, .int 0], zI ω b1 6, zI ω b2 6, zI ω b3 24, zI ω b4 36, zI ω b5 160, zI ω b6 1200, zI ω b7 24, zI ω b8 60, zI ω b9 3, fI ω b10 4 mSort 4, zI ω b11 4, zI ω b12 160, fI ω b13 26 mLaw 26, fI ω b14 96 mWords 5]) dX7_init_303 rfl rfl rfl (Nat.le_of_ble_eq_true rfl) (Nat.le_of_ble_eq_true rfl) rfl (q := 304) rfl ?_
  refine n_dup C dX7_init_304 rfl (q := 305) rfl ?_
  refine n_iconst C dX7_init_305 ic_5 (q := 306) rfl ?_
  refine n_bipush C dX7_init_306 b8_32 (q := 308) rfl ?_
  refine n_fill C (k := 14) (n := 96) (j := 5) (Ls := mWords) (ms' := [oO a 5 [.int 0, .ref b1, .ref b2, .ref b3, .ref b4, .int 0, .ref b5, .int 0, .ref b6, .ref b7, .int 0, .int 0, .int 0, .ref b8, .ref b9, .ref b10, .ref b11, .ref b12, .ref b13, .int 0, .int 0, .int 0, .int 0, .null, .null, .int 0, .int 0, .int 0, .null, .null, .null, .int 0], zI ω b1 6, zI ω b2 6, zI ω b3 24, zI ω b4 36, zI ω b5 160, zI ω b6 1200, zI ω b7 24, zI ω b8 60, zI ω b9 3, fI ω b10 4 mSort 4, zI ω b11 4, zI ω b12 160, fI ω b13 26 mLaw 26, fI ω b14 96 mWords 6]) dX7_init_308 rfl rfl rfl (Nat.le_of_ble_eq_true rfl) (Nat.le_of_ble_eq_true rfl) rfl (q := 309) rfl ?_
  refine n_dup C dX7_init_309 rfl (q := 310) rfl ?_
  refine n_bipush C dX7_init_310 b8_6 (q := 312) rfl ?_
  refine n_bipush C dX7_init_312 b8_32 (q := 314) rfl ?_
  refine n_fill C (k := 14) (n := 96) (j := 6) (Ls := mWords) (ms' := [oO a 5 [.int 0, .ref b1, .ref b2, .ref b3, .ref b4, .int 0, .ref b5, .int 0, .ref b6, .ref b7, .int 0, .int 0, .int 0, .ref b8, .ref b9, .ref b10, .ref b11, .ref b12, .ref b13, .int 0, .int 0, .int 0, .int 0, .null, .null, .int 0, .int 0, .int 0, .null, .null, .null, .int 0], zI ω b1 6, zI ω b2 6, zI ω b3 24, zI ω b4 36, zI ω b5 160, zI ω b6 1200, zI ω b7 24, zI ω b8 60, zI ω b9 3, fI ω b10 4 mSort 4, zI ω b11 4, zI ω b12 160, fI ω b13 26 mLaw 26, fI ω b14 96 mWords 7]) dX7_init_314 rfl rfl rfl (Nat.le_of_ble_eq_true rfl) (Nat.le_of_ble_eq_true rfl) rfl (q := 315) rfl ?_
  refine n_dup C dX7_init_315 rfl (q := 316) rfl ?_
  refine n_bipush C dX7_init_316 b8_7 (q := 318) rfl ?_
  refine n_bipush C dX7_init_318 b8_32 (q := 320) rfl ?_
  refine n_fill C (k := 14) (n := 96) (j := 7) (Ls := mWords) (ms' := [oO a 5 [.int 0, .ref b1, .ref b2, .ref b3, .ref b4, .int 0, .ref b5, .int 0, .ref b6, .ref b7, .int 0, .int 0, .int 0, .ref b8, .ref b9, .ref b10, .ref b11, .ref b12, .ref b13, .int 0, .int 0, .int 0, .int 0, .null, .null, .int 0, .int 0, .int 0, .null, .null, .null, .int 0], zI ω b1 6, zI ω b2 6, zI ω b3 24, zI ω b4 36, zI ω b5 160, zI ω b6 1200, zI ω b7 24, zI ω b8 60, zI ω b9 3, fI ω b10 4 mSort 4, zI ω b11 4, zI ω b12 160, fI ω b13 26 mLaw 26, fI ω b14 96 mWords 8]) dX7_init_320 rfl rfl rfl (Nat.le_of_ble_eq_true rfl) (Nat.le_of_ble_eq_true rfl) rfl (q := 321) rfl ?_
  refine n_dup C dX7_init_321 rfl (q := 322) rfl ?_
  refine n_bipush C dX7_init_322 b8_8 (q := 324) rfl ?_
  refine n_bipush C dX7_init_324 b8_104 (q := 326) rfl ?_
  refine n_fill C (k := 14) (n := 96) (j := 8) (Ls := mWords) (ms' := [oO a 5 [.int 0, .ref b1, .ref b2, .ref b3, .ref b4, .int 0, .ref b5, .int 0, .ref b6, .ref b7, .int 0, .int 0, .int 0, .ref b8, .ref b9, .ref b10, .ref b11, .ref b12, .ref b13, .int 0, .int 0, .int 0, .int 0, .null, .null, .int 0, .int 0, .int 0, .null, .null, .null, .int 0], zI ω b1 6, zI ω b2 6, zI ω b3 24, zI ω b4 36, zI ω b5 160, zI ω b6 1200, zI ω b7 24, zI ω b8 60, zI ω b9 3, fI ω b10 4 mSort 4, zI ω b11 4, zI ω b12 160, fI ω b13 26 mLaw 26, fI ω b14 96 mWords 9]) dX7_init_326 rfl rfl rfl (Nat.le_of_ble_eq_true rfl) (Nat.le_of_ble_eq_true rfl) rfl (q := 327) rfl ?_
  refine n_dup C dX7_init_327 rfl (q := 328) rfl ?_
  refine n_bipush C dX7_init_328 b8_9 (q := 330) rfl ?_
  refine n_bipush C dX7_init_330 b8_105 (q := 332) rfl ?_
  refine n_fill C (k := 14) (n := 96) (j := 9) (Ls := mWords) (ms' := [oO a 5 [.int 0, .ref b1, .ref b2, .ref b3, .ref b4, .int 0, .ref b5, .int 0, .ref b6, .ref b7, .int 0, .int 0, .int 0, .ref b8, .ref b9, .ref b10, .ref b11, .ref b12, .ref b13, .int 0, .int 0, .int 0, .int 0, .null, .null, .int 0, .int 0, .int 0, .null, .null, .null, .int 0], zI ω b1 6, zI ω b2 6, zI ω b3 24, zI ω b4 36, zI ω b5 160, zI ω b6 1200, zI ω b7 24, zI ω b8 60, zI ω b9 3, fI ω b10 4 mSort 4, zI ω b11 4, zI ω b12 160, fI ω b13 26 mLaw 26, fI ω b14 96 mWords 10]) dX7_init_332 rfl rfl rfl (Nat.le_of_ble_eq_true rfl) (Nat.le_of_ble_eq_true rfl) rfl (q := 333) rfl ?_
  refine n_dup C dX7_init_333 rfl (q := 334) rfl ?_
  refine n_bipush C dX7_init_334 b8_10 (q := 336) rfl ?_
  refine n_bipush C dX7_init_336 b8_116 (q := 338) rfl ?_
  refine n_fill C (k := 14) (n := 96) (j := 10) (Ls := mWords) (ms' := [oO a 5 [.int 0, .ref b1, .ref b2, .ref b3, .ref b4, .int 0, .ref b5, .int 0, .ref b6, .ref b7, .int 0, .int 0, .int 0, .ref b8, .ref b9, .ref b10, .ref b11, .ref b12, .ref b13, .int 0, .int 0, .int 0, .int 0, .null, .null, .int 0, .int 0, .int 0, .null, .null, .null, .int 0], zI ω b1 6, zI ω b2 6, zI ω b3 24, zI ω b4 36, zI ω b5 160, zI ω b6 1200, zI ω b7 24, zI ω b8 60, zI ω b9 3, fI ω b10 4 mSort 4, zI ω b11 4, zI ω b12 160, fI ω b13 26 mLaw 26, fI ω b14 96 mWords 11]) dX7_init_338 rfl rfl rfl (Nat.le_of_ble_eq_true rfl) (Nat.le_of_ble_eq_true rfl) rfl (q := 339) rfl ?_
  refine n_dup C dX7_init_339 rfl (q := 340) rfl ?_
  refine n_bipush C dX7_init_340 b8_11 (q := 342) rfl ?_
  refine n_bipush C dX7_init_342 b8_115 (q := 344) rfl ?_
  refine n_fill C (k := 14) (n := 96) (j := 11) (Ls := mWords) (ms' := [oO a 5 [.int 0, .ref b1, .ref b2, .ref b3, .ref b4, .int 0, .ref b5, .int 0, .ref b6, .ref b7, .int 0, .int 0, .int 0, .ref b8, .ref b9, .ref b10, .ref b11, .ref b12, .ref b13, .int 0, .int 0, .int 0, .int 0, .null, .null, .int 0, .int 0, .int 0, .null, .null, .null, .int 0], zI ω b1 6, zI ω b2 6, zI ω b3 24, zI ω b4 36, zI ω b5 160, zI ω b6 1200, zI ω b7 24, zI ω b8 60, zI ω b9 3, fI ω b10 4 mSort 4, zI ω b11 4, zI ω b12 160, fI ω b13 26 mLaw 26, fI ω b14 96 mWords 12]) dX7_init_344 rfl rfl rfl (Nat.le_of_ble_eq_true rfl) (Nat.le_of_ble_eq_true rfl) rfl (q := 345) rfl ?_
  refine n_dup C dX7_init_345 rfl (q := 346) rfl ?_
  refine n_bipush C dX7_init_346 b8_12 (q := 348) rfl ?_
  refine n_bipush C dX7_init_348 b8_32 (q := 350) rfl ?_
  refine n_fill C (k := 14) (n := 96) (j := 12) (Ls := mWords) (ms' := [oO a 5 [.int 0, .ref b1, .ref b2, .ref b3, .ref b4, .int 0, .ref b5, .int 0, .ref b6, .ref b7, .int 0, .int 0, .int 0, .ref b8, .ref b9, .ref b10, .ref b11, .ref b12, .ref b13, .int 0, .int 0, .int 0, .int 0, .null, .null, .int 0, .int 0, .int 0, .null, .null, .null, .int 0], zI ω b1 6, zI ω b2 6, zI ω b3 24, zI ω b4 36, zI ω b5 160, zI ω b6 1200, zI ω b7 24, zI ω b8 60, zI ω b9 3, fI ω b10 4 mSort 4, zI ω b11 4, zI ω b12 160, fI ω b13 26 mLaw 26, fI ω b14 96 mWords 13]) dX7_init_350 rfl rfl rfl (Nat.le_of_ble_eq_true rfl) (Nat.le_of_ble_eq_true rfl) rfl (q := 351) rfl ?_
  refine n_dup C dX7_init_351 rfl (q := 352) rfl ?_
  refine n_bipush C dX7_init_352 b8_13 (q := 354) rfl ?_
  refine n_bipush C dX7_init_354 b8_32 (q := 356) rfl ?_
  refine n_fill C (k := 14) (n := 96) (j := 13) (Ls := mWords) (ms' := [oO a 5 [.int 0, .ref b1, .ref b2, .ref b3, .ref b4, .int 0, .ref b5, .int 0, .ref b6, .ref b7, .int 0, .int 0, .int 0, .ref b8, .ref b9, .ref b10, .ref b11, .ref b12, .ref b13, .int 0, .int 0, .int 0, .int 0, .null, .null, .int 0, .int 0, .int 0, .null, .null, .null, .int 0], zI ω b1 6, zI ω b2 6, zI ω b3 24, zI ω b4 36, zI ω b5 160, zI ω b6 1200, zI ω b7 24, zI ω b8 60, zI ω b9 3, fI ω b10 4 mSort 4, zI ω b11 4, zI ω b12 160, fI ω b13 26 mLaw 26, fI ω b14 96 mWords 14]) dX7_init_356 rfl rfl rfl (Nat.le_of_ble_eq_true rfl) (Nat.le_of_ble_eq_true rfl) rfl (q := 357) rfl ?_
  refine n_dup C dX7_init_357 rfl (q := 358) rfl ?_
  refine n_bipush C dX7_init_358 b8_14 (q := 360) rfl ?_
  refine n_bipush C dX7_init_360 b8_32 (q := 362) rfl ?_
  refine n_fill C (k := 14) (n := 96) (j := 14) (Ls := mWords) (ms' := [oO a 5 [.int 0, .ref b1, .ref b2, .ref b3, .ref b4, .int 0, .ref b5, .int 0, .ref b6, .ref b7, .int 0, .int 0, .int 0, .ref b8, .ref b9, .ref b10, .ref b11, .ref b12, .ref b13, .int 0, .int 0, .int 0, .int 0, .null, .null, .int 0, .int 0, .int 0, .null, .null, .null, .int 0], zI ω b1 6, zI ω b2 6, zI ω b3 24, zI ω b4 36, zI ω b5 160, zI ω b6 1200, zI ω b7 24, zI ω b8 60, zI ω b9 3, fI ω b10 4 mSort 4, zI ω b11 4, zI ω b12 160, fI ω b13 26 mLaw 26, fI ω b14 96 mWords 15]) dX7_init_362 rfl rfl rfl (Nat.le_of_ble_eq_true rfl) (Nat.le_of_ble_eq_true rfl) rfl (q := 363) rfl ?_
  refine n_dup C dX7_init_363 rfl (q := 364) rfl ?_
  refine n_bipush C dX7_init_364 b8_15 (q := 366) rfl ?_
  refine n_bipush C dX7_init_366 b8_32 (q := 368) rfl ?_
  refine n_fill C (k := 14) (n := 96) (j := 15) (Ls := mWords) (ms' := [oO a 5 [.int 0, .ref b1, .ref b2, .ref b3, .ref b4, .int 0, .ref b5, .int 0, .ref b6, .ref b7, .int 0, .int 0, .int 0, .ref b8, .ref b9, .ref b10, .ref b11, .ref b12, .ref b13, .int 0, .int 0, .int 0, .int 0, .null, .null, .int 0, .int 0, .int 0, .null, .null, .null, .int 0], zI ω b1 6, zI ω b2 6, zI ω b3 24, zI ω b4 36, zI ω b5 160, zI ω b6 1200, zI ω b7 24, zI ω b8 60, zI ω b9 3, fI ω b10 4 mSort 4, zI ω b11 4, zI ω b12 160, fI ω b13 26 mLaw 26, fI ω b14 96 mWords 16]) dX7_init_368 rfl rfl rfl (Nat.le_of_ble_eq_true rfl) (Nat.le_of_ble_eq_true rfl) rfl (q := 369) rfl ?_
  refine n_dup C dX7_init_369 rfl (q := 370) rfl ?_
  refine n_bipush C dX7_init_370 b8_16 (q := 372) rfl ?_
  refine n_bipush C dX7_init_372 b8_115 (q := 374) rfl ?_
  refine n_fill C (k := 14) (n := 96) (j := 16) (Ls := mWords) (ms' := [oO a 5 [.int 0, .ref b1, .ref b2, .ref b3, .ref b4, .int 0, .ref b5, .int 0, .ref b6, .ref b7, .int 0, .int 0, .int 0, .ref b8, .ref b9, .ref b10, .ref b11, .ref b12, .ref b13, .int 0, .int 0, .int 0, .int 0, .null, .null, .int 0, .int 0, .int 0, .null, .null, .null, .int 0], zI ω b1 6, zI ω b2 6, zI ω b3 24, zI ω b4 36, zI ω b5 160, zI ω b6 1200, zI ω b7 24, zI ω b8 60, zI ω b9 3, fI ω b10 4 mSort 4, zI ω b11 4, zI ω b12 160, fI ω b13 26 mLaw 26, fI ω b14 96 mWords 17]) dX7_init_374 rfl rfl rfl (Nat.le_of_ble_eq_true rfl) (Nat.le_of_ble_eq_true rfl) rfl (q := 375) rfl ?_
  refine n_dup C dX7_init_375 rfl (q := 376) rfl ?_
  refine n_bipush C dX7_init_376 b8_17 (q := 378) rfl ?_
  refine n_bipush C dX7_init_378 b8_111 (q := 380) rfl ?_
  refine n_fill C (k := 14) (n := 96) (j := 17) (Ls := mWords) (ms' := [oO a 5 [.int 0, .ref b1, .ref b2, .ref b3, .ref b4, .int 0, .ref b5, .int 0, .ref b6, .ref b7, .int 0, .int 0, .int 0, .ref b8, .ref b9, .ref b10, .ref b11, .ref b12, .ref b13, .int 0, .int 0, .int 0, .int 0, .null, .null, .int 0, .int 0, .int 0, .null, .null, .null, .int 0], zI ω b1 6, zI ω b2 6, zI ω b3 24, zI ω b4 36, zI ω b5 160, zI ω b6 1200, zI ω b7 24, zI ω b8 60, zI ω b9 3, fI ω b10 4 mSort 4, zI ω b11 4, zI ω b12 160, fI ω b13 26 mLaw 26, fI ω b14 96 mWords 18]) dX7_init_380 rfl rfl rfl (Nat.le_of_ble_eq_true rfl) (Nat.le_of_ble_eq_true rfl) rfl (q := 381) rfl ?_
  refine n_dup C dX7_init_381 rfl (q := 382) rfl ?_
  refine n_bipush C dX7_init_382 b8_18 (q := 384) rfl ?_
  refine n_bipush C dX7_init_384 b8_102 (q := 386) rfl ?_
  refine n_fill C (k := 14) (n := 96) (j := 18) (Ls := mWords) (ms' := [oO a 5 [.int 0, .ref b1, .ref b2, .ref b3, .ref b4, .int 0, .ref b5, .int 0, .ref b6, .ref b7, .int 0, .int 0, .int 0, .ref b8, .ref b9, .ref b10, .ref b11, .ref b12, .ref b13, .int 0, .int 0, .int 0, .int 0, .null, .null, .int 0, .int 0, .int 0, .null, .null, .null, .int 0], zI ω b1 6, zI ω b2 6, zI ω b3 24, zI ω b4 36, zI ω b5 160, zI ω b6 1200, zI ω b7 24, zI ω b8 60, zI ω b9 3, fI ω b10 4 mSort 4, zI ω b11 4, zI ω b12 160, fI ω b13 26 mLaw 26, fI ω b14 96 mWords 19]) dX7_init_386 rfl rfl rfl (Nat.le_of_ble_eq_true rfl) (Nat.le_of_ble_eq_true rfl) rfl (q := 387) rfl ?_
  refine n_dup C dX7_init_387 rfl (q := 388) rfl ?_
  refine n_bipush C dX7_init_388 b8_19 (q := 390) rfl ?_
  refine n_bipush C dX7_init_390 b8_116 (q := 392) rfl ?_
  refine n_fill C (k := 14) (n := 96) (j := 19) (Ls := mWords) (ms' := [oO a 5 [.int 0, .ref b1, .ref b2, .ref b3, .ref b4, .int 0, .ref b5, .int 0, .ref b6, .ref b7, .int 0, .int 0, .int 0, .ref b8, .ref b9, .ref b10, .ref b11, .ref b12, .ref b13, .int 0, .int 0, .int 0, .int 0, .null, .null, .int 0, .int 0, .int 0, .null, .null, .null, .int 0], zI ω b1 6, zI ω b2 6, zI ω b3 24, zI ω b4 36, zI ω b5 160, zI ω b6 1200, zI ω b7 24, zI ω b8 60, zI ω b9 3, fI ω b10 4 mSort 4, zI ω b11 4, zI ω b12 160, fI ω b13 26 mLaw 26, fI ω b14 96 mWords 20]) dX7_init_392 rfl rfl rfl (Nat.le_of_ble_eq_true rfl) (Nat.le_of_ble_eq_true rfl) rfl (q := 393) rfl ?_
  refine n_dup C dX7_init_393 rfl (q := 394) rfl ?_
  refine n_bipush C dX7_init_394 b8_20 (q := 396) rfl ?_
  refine n_bipush C dX7_init_396 b8_32 (q := 398) rfl ?_
  refine n_fill C (k := 14) (n := 96) (j := 20) (Ls := mWords) (ms' := [oO a 5 [.int 0, .ref b1, .ref b2, .ref b3, .ref b4, .int 0, .ref b5, .int 0, .ref b6, .ref b7, .int 0, .int 0, .int 0, .ref b8, .ref b9, .ref b10, .ref b11, .ref b12, .ref b13, .int 0, .int 0, .int 0, .int 0, .null, .null, .int 0, .int 0, .int 0, .null, .null, .null, .int 0], zI ω b1 6, zI ω b2 6, zI ω b3 24, zI ω b4 36, zI ω b5 160, zI ω b6 1200, zI ω b7 24, zI ω b8 60, zI ω b9 3, fI ω b10 4 mSort 4, zI ω b11 4, zI ω b12 160, fI ω b13 26 mLaw 26, fI ω b14 96 mWords 21]) dX7_init_398 rfl rfl rfl (Nat.le_of_ble_eq_true rfl) (Nat.le_of_ble_eq_true rfl) rfl (q := 399) rfl ?_
  refine n_dup C dX7_init_399 rfl (q := 400) rfl ?_
  refine n_bipush C dX7_init_400 b8_21 (q := 402) rfl ?_
  refine n_bipush C dX7_init_402 b8_32 (q := 404) rfl ?_
  refine n_fill C (k := 14) (n := 96) (j := 21) (Ls := mWords) (ms' := [oO a 5 [.int 0, .ref b1, .ref b2, .ref b3, .ref b4, .int 0, .ref b5, .int 0, .ref b6, .ref b7, .int 0, .int 0, .int 0, .ref b8, .ref b9, .ref b10, .ref b11, .ref b12, .ref b13, .int 0, .int 0, .int 0, .int 0, .null, .null, .int 0, .int 0, .int 0, .null, .null, .null, .int 0], zI ω b1 6, zI ω b2 6, zI ω b3 24, zI ω b4 36, zI ω b5 160, zI ω b6 1200, zI ω b7 24, zI ω b8 60, zI ω b9 3, fI ω b10 4 mSort 4, zI ω b11 4, zI ω b12 160, fI ω b13 26 mLaw 26, fI ω b14 96 mWords 22]) dX7_init_404 rfl rfl rfl (Nat.le_of_ble_eq_true rfl) (Nat.le_of_ble_eq_true rfl) rfl (q := 405) rfl ?_
  refine n_dup C dX7_init_405 rfl (q := 406) rfl ?_
  refine n_bipush C dX7_init_406 b8_22 (q := 408) rfl ?_
  refine n_bipush C dX7_init_408 b8_32 (q := 410) rfl ?_
  refine n_fill C (k := 14) (n := 96) (j := 22) (Ls := mWords) (ms' := [oO a 5 [.int 0, .ref b1, .ref b2, .ref b3, .ref b4, .int 0, .ref b5, .int 0, .ref b6, .ref b7, .int 0, .int 0, .int 0, .ref b8, .ref b9, .ref b10, .ref b11, .ref b12, .ref b13, .int 0, .int 0, .int 0, .int 0, .null, .null, .int 0, .int 0, .int 0, .null, .null, .null, .int 0], zI ω b1 6, zI ω b2 6, zI ω b3 24, zI ω b4 36, zI ω b5 160, zI ω b6 1200, zI ω b7 24, zI ω b8 60, zI ω b9 3, fI ω b10 4 mSort 4, zI ω b11 4, zI ω b12 160, fI ω b13 26 mLaw 26, fI ω b14 96 mWords 23]) dX7_init_410 rfl rfl rfl (Nat.le_of_ble_eq_true rfl) (Nat.le_of_ble_eq_true rfl) rfl (q := 411) rfl ?_
  refine n_dup C dX7_init_411 rfl (q := 412) rfl ?_
  refine n_bipush C dX7_init_412 b8_23 (q := 414) rfl ?_
  refine n_bipush C dX7_init_414 b8_32 (q := 416) rfl ?_
  refine n_fill C (k := 14) (n := 96) (j := 23) (Ls := mWords) (ms' := [oO a 5 [.int 0, .ref b1, .ref b2, .ref b3, .ref b4, .int 0, .ref b5, .int 0, .ref b6, .ref b7, .int 0, .int 0, .int 0, .ref b8, .ref b9, .ref b10, .ref b11, .ref b12, .ref b13, .int 0, .int 0, .int 0, .int 0, .null, .null, .int 0, .int 0, .int 0, .null, .null, .null, .int 0], zI ω b1 6, zI ω b2 6, zI ω b3 24, zI ω b4 36, zI ω b5 160, zI ω b6 1200, zI ω b7 24, zI ω b8 60, zI ω b9 3, fI ω b10 4 mSort 4, zI ω b11 4, zI ω b12 160, fI ω b13 26 mLaw 26, fI ω b14 96 mWords 24]) dX7_init_416 rfl rfl rfl (Nat.le_of_ble_eq_true rfl) (Nat.le_of_ble_eq_true rfl) rfl (q := 417) rfl ?_
  refine n_dup C dX7_init_417 rfl (q := 418) rfl ?_
  refine n_bipush C dX7_init_418 b8_24 (q := 420) rfl ?_
  refine n_bipush C dX7_init_420 b8_102 (q := 422) rfl ?_
  refine n_fill C (k := 14) (n := 96) (j := 24) (Ls := mWords) (ms' := [oO a 5 [.int 0, .ref b1, .ref b2, .ref b3, .ref b4, .int 0, .ref b5, .int 0, .ref b6, .ref b7, .int 0, .int 0, .int 0, .ref b8, .ref b9, .ref b10, .ref b11, .ref b12, .ref b13, .int 0, .int 0, .int 0, .int 0, .null, .null, .int 0, .int 0, .int 0, .null, .null, .null, .int 0], zI ω b1 6, zI ω b2 6, zI ω b3 24, zI ω b4 36, zI ω b5 160, zI ω b6 1200, zI ω b7 24, zI ω b8 60, zI ω b9 3, fI ω b10 4 mSort 4, zI ω b11 4, zI ω b12 160, fI ω b13 26 mLaw 26, fI ω b14 96 mWords 25]) dX7_init_422 rfl rfl rfl (Nat.le_of_ble_eq_true rfl) (Nat.le_of_ble_eq_true rfl) rfl (q := 423) rfl ?_
  exact kk b14

set_option maxHeartbeats 4000000 in
set_option maxRecDepth 100000 in
theorem sg7_3 {κ : Kx} {ω : Om} {Q : State → Prop} {pre : va_W} (C : CN κ ω cX7_init 2 6 yX7_init.cls 18 2276) (hini : κ.2.2.2.2.2.2.2.2.1.name = "<init>") {a b1 b2 b3 b4 b5 b6 b7 b8 b9 b10 b11 b12 b13 b14 : Nat} (kk : EN κ ω 2 Q pre [oO a 5 [.int 0, .ref b1, .ref b2, .ref b3, .ref b4, .int 0, .ref b5, .int 0, .ref b6, .ref b7, .int 0, .int 0, .int 0, .ref b8, .ref b9, .ref b10, .ref b11, .ref b12, .ref b13, .int 0, .int 0, .int 0, .int 0, .null, .null, .int 0, .int 0, .int 0, .null, .null, .null, .int 0], zI ω b1 6, zI ω b2 6, zI ω b3 24, zI ω b4 36, zI ω b5 160, zI ω b6 1200, zI ω b7 24, zI ω b8 60, zI ω b9 3, fI ω b10 4 mSort 4, zI ω b11 4, zI ω b12 160, fI ω b13 26 mLaw 26, fI ω b14 96 mWords 50] 14 1809 573 [(0, .ref a)] [.ref b14, .ref a]) : EN κ ω 2 Q pre [oO a 5 [.int 0, .ref b1, .ref b2, .ref b3, .ref b4, .int 0, .ref b5, .int 0, .ref b6, .ref b7, .int 0, .int 0, .int 0, .ref b8, .ref b9, .ref b10, .ref b11, .ref b12, .ref b13, .int 0, .int 0, .int 0, .int 0, .null, .null, .int 0, .int 0, .int 0, .null, .null, .null, .int 0], zI ω b1 6, zI ω b2 6, zI ω b3 24, zI ω b4 36, zI ω b5 160, zI ω b6 1200, zI ω b7 24, zI ω b8 60, zI ω b9 3, fI ω b10 4 mSort 4, zI ω b11 4, zI ω b12 160, fI ω b13 26 mLaw 26, fI ω b14 96 mWords 25] 14 1809 423 [(0, .ref a)] [.ref b14, .ref a] := by
  refine n_dup C dX7_init_423 rfl (q := 424) rfl ?_
  refine n_bipush C dX7_init_424 b8_25 (q := 426) rfl ?_
  refine n_bipush C dX7_init_426 b8_101 (q := 428) rfl ?_
  refine n_fill C (k := 14) (n := 96) (j := 25) (Ls := mWords) (ms' := [oO a 5 [.int 0, .ref b1, .ref b2, .ref b3, .ref b4, .int 0, .ref b5, .int 0, .ref b6, .ref b7, .int 0, .int 0, .int 0, .ref b8, .ref b9, .ref b10, .ref b11, .ref b12, .ref b13, .int 0, .int 0, .int 0, .int 0, .null, .null, .int 0, .int 0, .int 0, .null, .null, .null, .int 0], zI ω b1 6, zI ω b2 6, zI ω b3 24, zI ω b4 36, zI ω b5 160, zI ω b6 1200, zI ω b7 24, zI ω b8 60, zI ω b9 3, fI ω b10 4 mSort 4, zI ω b11 4, zI ω b12 160, fI ω b13 26 mLaw 26, fI ω b14 96 mWords 26]) dX7_init_428 rfl rfl rfl (Nat.le_of_ble_eq_true rfl) (Nat.le_of_ble_eq_true rfl) rfl (q := 429) rfl ?_
  refine n_dup C dX7_init_429 rfl (q := 430) rfl ?_
  refine n_bipush C dX7_init_430 b8_26 (q := 432) rfl ?_
  refine n_bipush C dX7_init_432 b8_108 (q := 434) rfl ?_
  refine n_fill C (k := 14) (n := 96) (j := 26) (Ls := mWords) (ms' := [oO a 5 [.int 0, .ref b1, .ref b2, .ref b3, .ref b4, .int 0, .ref b5, .int 0, .ref b6, .ref b7, .int 0, .int 0, .int 0, .ref b8, .ref b9, .ref b10, .ref b11, .ref b12, .ref b13, .int 0, .int 0, .int 0, .int 0, .null, .null, .int 0, .int 0, .int 0, .null, .null, .null, .int 0], zI ω b1 6, zI ω b2 6, zI ω b3 24, zI ω b4 36, zI ω b5 160, zI ω b6 1200, zI ω b7 24, zI ω b8 60, zI ω b9 3, fI ω b10 4 mSort 4, zI ω b11 4, zI ω b12 160, fI ω b13 26 mLaw 26, fI ω b14 96 mWords 27]) dX7_init_434 rfl rfl rfl (Nat.le_of_ble_eq_true rfl) (Nat.le_of_ble_eq_true rfl) rfl (q := 435) rfl ?_
  refine n_dup C dX7_init_435 rfl (q := 436) rfl ?_
  refine n_bipush C dX7_init_436 b8_27 (q := 438) rfl ?_
  refine n_bipush C dX7_init_438 b8_116 (q := 440) rfl ?_
  refine n_fill C (k := 14) (n := 96) (j := 27) (Ls := mWords) (ms' := [oO a 5 [.int 0, .ref b1, .ref b2, .ref b3, .ref b4, .int 0, .ref b5, .int 0, .ref b6, .ref b7, .int 0, .int 0, .int 0, .ref b8, .ref b9, .ref b10, .ref b11, .ref b12, .ref b13, .int 0, .int 0, .int 0, .int 0, .null, .null, .int 0, .int 0, .int 0, .null, .null, .null, .int 0], zI ω b1 6, zI ω b2 6, zI ω b3 24, zI ω b4 36, zI ω b5 160, zI ω b6 1200, zI ω b7 24, zI ω b8 60, zI ω b9 3, fI ω b10 4 mSort 4, zI ω b11 4, zI ω b12 160, fI ω b13 26 mLaw 26, fI ω b14 96 mWords 28]) dX7_init_440 rfl rfl rfl (Nat.le_of_ble_eq_true rfl) (Nat.le_of_ble_eq_true rfl) rfl (q := 441) rfl ?_
  refine n_dup C dX7_init_441 rfl (q := 442) rfl ?_
  refine n_bipush C dX7_init_442 b8_28 (q := 444) rfl ?_
  refine n_bipush C dX7_init_444 b8_32 (q := 446) rfl ?_
  refine n_fill C (k := 14) (n := 96) (j := 28) (Ls := mWords) (ms' := [oO a 5 [.int 0, .ref b1, .ref b2, .ref b3, .ref b4, .int 0, .ref b5, .int 0, .ref b6, .ref b7, .int 0, .int 0, .int 0, .ref b8, .ref b9, .ref b10, .ref b11, .ref b12, .ref b13, .int 0, .int 0, .int 0, .int 0, .null, .null, .int 0, .int 0, .int 0, .null, .null, .null, .int 0], zI ω b1 6, zI ω b2 6, zI ω b3 24, zI ω b4 36, zI ω b5 160, zI ω b6 1200, zI ω b7 24, zI ω b8 60, zI ω b9 3, fI ω b10 4 mSort 4, zI ω b11 4, zI ω b12 160, fI ω b13 26 mLaw 26, fI ω b14 96 mWords 29]) dX7_init_446 rfl rfl rfl (Nat.le_of_ble_eq_true rfl) (Nat.le_of_ble_eq_true rfl) rfl (q := 447) rfl ?_
  refine n_dup C dX7_init_447 rfl (q := 448) rfl ?_
  refine n_bipush C dX7_init_448 b8_29 (q := 450) rfl ?_
  refine n_bipush C dX7_init_450 b8_32 (q := 452) rfl ?_
  refine n_fill C (k := 14) (n := 96) (j := 29) (Ls := mWords) (ms' := [oO a 5 [.int 0, .ref b1, .ref b2, .ref b3, .ref b4, .int 0, .ref b5, .int 0, .ref b6, .ref b7, .int 0, .int 0, .int 0, .ref b8, .ref b9, .ref b10, .ref b11, .ref b12, .ref b13, .int 0, .int 0, .int 0, .int 0, .null, .null, .int 0, .int 0, .int 0, .null, .null, .null, .int 0], zI ω b1 6, zI ω b2 6, zI ω b3 24, zI ω b4 36, zI ω b5 160, zI ω b6 1200, zI ω b7 24, zI ω b8 60, zI ω b9 3, fI ω b10 4 mSort 4, zI ω b11 4, zI ω b12 160, fI ω b13 26 mLaw 26, fI ω b14 96 mWords 30]) dX7_init_452 rfl rfl rfl (Nat.le_of_ble_eq_true rfl) (Nat.le_of_ble_eq_true rfl) rfl (q := 453) rfl ?_
  refine n_dup C dX7_init_453 rfl (q := 454) rfl ?_
  refine n_bipush C dX7_init_454 b8_30 (q := 456) rfl ?_
  refine n_bipush C dX7_init_456 b8_32 (q := 458) rfl ?_
  refine n_fill C (k := 14) (n := 96) (j := 30) (Ls := mWords) (ms' := [oO a 5 [.int 0, .ref b1, .ref b2, .ref b3, .ref b4, .int 0, .ref b5, .int 0, .ref b6, .ref b7, .int 0, .int 0, .int 0, .ref b8, .ref b9, .ref b10, .ref b11, .ref b12, .ref b13, .int 0, .int 0, .int 0, .int 0, .null, .null, .int 0, .int 0, .int 0, .null, .null, .null, .int 0], zI ω b1 6, zI ω b2 6, zI ω b3 24, zI ω b4 36, zI ω b5 160, zI ω b6 1200, zI ω b7 24, zI ω b8 60, zI ω b9 3, fI ω b10 4 mSort 4, zI ω b11 4, zI ω b12 160, fI ω b13 26 mLaw 26, fI ω b14 96 mWords 31]) dX7_init_458 rfl rfl rfl (Nat.le_of_ble_eq_true rfl) (Nat.le_of_ble_eq_true rfl) rfl (q := 459) rfl ?_
  refine n_dup C dX7_init_459 rfl (q := 460) rfl ?_
  refine n_bipush C dX7_init_460 b8_31 (q := 462) rfl ?_
  refine n_bipush C dX7_init_462 b8_32 (q := 464) rfl ?_
  refine n_fill C (k := 14) (n := 96) (j := 31) (Ls := mWords) (ms' := [oO a 5 [.int 0, .ref b1, .ref b2, .ref b3, .ref b4, .int 0, .ref b5, .int 0, .ref b6, .ref b7, .int 0, .int 0, .int 0, .ref b8, .ref b9, .ref b10, .ref b11, .ref b12, .ref b13, .int 0, .int 0, .int 0, .int 0, .null, .null, .int 0, .int 0, .int 0, .null, .null, .null, .int 0], zI ω b1 6, zI ω b2 6, zI ω b3 24, zI ω b4 36, zI ω b5 160, zI ω b6 1200, zI ω b7 24, zI ω b8 60, zI ω b9 3, fI ω b10 4 mSort 4, zI ω b11 4, zI ω b12 160, fI ω b13 26 mLaw 26, fI ω b14 96 mWords 32]) dX7_init_464 rfl rfl rfl (Nat.le_of_ble_eq_true rfl) (Nat.le_of_ble_eq_true rfl) rfl (q := 465) rfl ?_
  refine n_dup C dX7_init_465 rfl (q := 466) rfl ?_
  refine n_bipush C dX7_init_466 b8_32 (q := 468) rfl ?_
  refine n_bipush C dX7_init_468 b8_112 (q := 470) rfl ?_
  refine n_fill C (k := 14) (n := 96) (j := 32) (Ls := mWords) (ms' := [oO a 5 [.int 0, .ref b1, .ref b2, .ref b3, .ref b4, .int 0, .ref b5, .int 0, .ref b6, .ref b7, .int 0, .int 0, .int 0, .ref b8, .ref b9, .ref b10, .ref b11, .ref b12, .ref b13, .int 0, .int 0, .int 0, .int 0, .null, .null, .int 0, .int 0, .int 0, .null, .null, .null, .int 0], zI ω b1 6, zI ω b2 6, zI ω b3 24, zI ω b4 36, zI ω b5 160, zI ω b6 1200, zI ω b7 24, zI ω b8 60, zI ω b9 3, fI ω b10 4 mSort 4, zI ω b11 4, zI ω b12 160, fI ω b13 26 mLaw 26, fI ω b14 96 mWords 33]) dX7_init_470 rfl rfl rfl (Nat.le_of_ble_eq_true rfl) (Nat.le_of_ble_eq_true rfl) rfl (q := 471) rfl ?_
  refine n_dup C dX7_init_471 rfl (q := 472) rfl ?_
  refine n_bipush C dX7_init_472 b8_33 (q := 474) rfl ?_
  refine n_bipush C dX7_init_474 b8_114 (q := 476) rfl ?_
  refine n_fill C (k := 14) (n := 96) (j := 33) (Ls := mWords) (ms' := [oO a 5 [.int 0, .ref b1, .ref b2, .ref b3, .ref b4, .int 0, .ref b5, .int 0, .ref b6, .ref b7, .int 0, .int 0, .int 0, .ref b8, .ref b9, .ref b10, .ref b11, .ref b12, .ref b13, .int 0, .int 0, .int 0, .int 0, .null, .null, .int 0, .int 0, .int 0, .null, .null, .null, .int 0], zI ω b1 6, zI ω b2 6, zI ω b3 24, zI ω b4 36, zI ω b5 160, zI ω b6 1200, zI ω b7 24, zI ω b8 60, zI ω b9 3, fI ω b10 4 mSort 4, zI ω b11 4, zI ω b12 160, fI ω b13 26 mLaw 26, fI ω b14 96 mWords 34]) dX7_init_476 rfl rfl rfl (Nat.le_of_ble_eq_true rfl) (Nat.le_of_ble_eq_true rfl) rfl (q := 477) rfl ?_
  refine n_dup C dX7_init_477 rfl (q := 478) rfl ?_
  refine n_bipush C dX7_init_478 b8_34 (q := 480) rfl ?_
  refine n_bipush C dX7_init_480 b8_105 (q := 482) rfl ?_
  refine n_fill C (k := 14) (n := 96) (j := 34) (Ls := mWords) (ms' := [oO a 5 [.int 0, .ref b1, .ref b2, .ref b3, .ref b4, .int 0, .ref b5, .int 0, .ref b6, .ref b7, .int 0, .int 0, .int 0, .ref b8, .ref b9, .ref b10, .ref b11, .ref b12, .ref b13, .int 0, .int 0, .int 0, .int 0, .null, .null, .int 0, .int 0, .int 0, .null, .null, .null, .int 0], zI ω b1 6, zI ω b2 6, zI ω b3 24, zI ω b4 36, zI ω b5 160, zI ω b6 1200, zI ω b7 24, zI ω b8 60, zI ω b9 3, fI ω b10 4 mSort 4, zI ω b11 4, zI ω b12 160, fI ω b13 26 mLaw 26, fI ω b14 96 mWords 35]) dX7_init_482 rfl rfl rfl (Nat.le_of_ble_eq_true rfl) (Nat.le_of_ble_eq_true rfl) rfl (q := 483) rfl ?_
  refine n_dup C dX7_init_483 rfl (q := 484) rfl ?_
  refine n_bipush C dX7_init_484 b8_35 (q := 486) rfl ?_
  refine n_bipush C dX7_init_486 b8_100 (q := 488) rfl ?_
  refine n_fill C (k := 14) (n := 96) (j := 35) (Ls := mWords) (ms' := [oO a 5 [.int 0, .ref b1, .ref b2, .ref b3, .ref b4, .int 0, .ref b5, .int 0, .ref b6, .ref b7, .int 0, .int 0, .int 0, .ref b8, .ref b9, .ref b10, .ref b11, .ref b12, .ref b13, .int 0, .int 0, .int 0, .int 0, .null, .null, .int 0, .int 0, .int 0, .null, .null, .null, .int 0], zI ω b1 6, zI ω b2 6, zI ω b3 24, zI ω b4 36, zI ω b5 160, zI ω b6 1200, zI ω b7 24, zI ω b8 60, zI ω b9 3, fI ω b10 4 mSort 4, zI ω b11 4, zI ω b12 160, fI ω b13 26 mLaw 26, fI ω b14 96 mWords 36]) dX7_init_488 rfl rfl rfl (Nat.le_of_ble_eq_true rfl) (Nat.le_of_ble_eq_true rfl) rfl (q := 489) rfl ?_
  refine n_dup C dX7_init_489 rfl (q := 490) rfl ?_
  refine n_bipush C dX7_init_490 b8_36 (q := 492) rfl ?_
  refine n_bipush C dX7_init_492 b8_101 (q := 494) rfl ?_
  refine n_fill C (k := 14) (n := 96) (j := 36) (Ls := mWords) (ms' := [oO a 5 [.int 0, .ref b1, .ref b2, .ref b3, .ref b4, .int 0, .ref b5, .int 0, .ref b6, .ref b7, .int 0, .int 0, .int 0, .ref b8, .ref b9, .ref b10, .ref b11, .ref b12, .ref b13, .int 0, .int 0, .int 0, .int 0, .null, .null, .int 0, .int 0, .int 0, .null, .null, .null, .int 0], zI ω b1 6, zI ω b2 6, zI ω b3 24, zI ω b4 36, zI ω b5 160, zI ω b6 1200, zI ω b7 24, zI ω b8 60, zI ω b9 3, fI ω b10 4 mSort 4, zI ω b11 4, zI ω b12 160, fI ω b13 26 mLaw 26, fI ω b14 96 mWords 37]) dX7_init_494 rfl rfl rfl (Nat.le_of_ble_eq_true rfl) (Nat.le_of_ble_eq_true rfl) rfl (q := 495) rfl ?_
  refine n_dup C dX7_init_495 rfl (q := 496) rfl ?_
  refine n_bipush C dX7_init_496 b8_37 (q := 498) rfl ?_
  refine n_bipush C dX7_init_498 b8_32 (q := 500) rfl ?_
  refine n_fill C (k := 14) (n := 96) (j := 37) (Ls := mWords) (ms' := [oO a 5 [.int 0, .ref b1, .ref b2, .ref b3, .ref b4, .int 0, .ref b5, .int 0, .ref b6, .ref b7, .int 0, .int 0, .int 0, .ref b8, .ref b9, .ref b10, .ref b11, .ref b12, .ref b13, .int 0, .int 0, .int 0, .int 0, .null, .null, .int 0, .int 0, .int 0, .null, .null, .null, .int 0], zI ω b1 6, zI ω b2 6, zI ω b3 24, zI ω b4 36, zI ω b5 160, zI ω b6 1200, zI ω b7 24, zI ω b8 60, zI ω b9 3, fI ω b10 4 mSort 4, zI ω b11 4, zI ω b12 160, fI ω b13 26 mLaw 26, fI ω b14 96 mWords 38]) dX7_init_500 rfl rfl rfl (Nat.le_of_ble_eq_true rfl) (Nat.le_of_ble_eq_true rfl) rfl (q := 501) rfl ?_
  refine n_dup C dX7_init_501 rfl (q := 502) rfl ?_
  refine n_bipush C dX7_init_502 b8_38 (q := 504) rfl ?_
  refine n_bipush C dX7_init_504 b8_32 (q := 506) rfl ?_
  refine n_fill C (k := 14) (n := 96) (j := 38) (Ls := mWords) (ms' := [oO a 5 [.int 0, .ref b1, .ref b2, .ref b3, .ref b4, .int 0, .ref b5, .int 0, .ref b6, .ref b7, .int 0, .int 0, .int 0, .ref b8, .ref b9, .ref b10, .ref b11, .ref b12, .ref b13, .int 0, .int 0, .int 0, .int 0, .null, .null, .int 0, .int 0, .int 0, .null, .null, .null, .int 0], zI ω b1 6, zI ω b2 6, zI ω b3 24, zI ω b4 36, zI ω b5 160, zI ω b6 1200, zI ω b7 24, zI ω b8 60, zI ω b9 3, fI ω b10 4 mSort 4, zI ω b11 4, zI ω b12 160, fI ω b13 26 mLaw 26, fI ω b14 96 mWords 39]) dX7_init_506 rfl rfl rfl (Nat.le_of_ble_eq_true rfl) (Nat.le_of_ble_eq_true rfl) rfl (q := 507) rfl ?_
  refine n_dup C dX7_init_507 rfl (q := 508) rfl ?_
  refine n_bipush C dX7_init_508 b8_39 (q := 510) rfl ?_
  refine n_bipush C dX7_init_510 b8_32 (q := 512) rfl ?_
  refine n_fill C (k := 14) (n := 96) (j := 39) (Ls := mWords) (ms' := [oO a 5 [.int 0, .ref b1, .ref b2, .ref b3, .ref b4, .int 0, .ref b5, .int 0, .ref b6, .ref b7, .int 0, .int 0, .int 0, .ref b8, .ref b9, .ref b10, .ref b11, .ref b12, .ref b13, .int 0, .int 0, .int 0, .int 0, .null, .null, .int 0, .int 0, .int 0, .null, .null, .null, .int 0], zI ω b1 6, zI ω b2 6, zI ω b3 24, zI ω b4 36, zI ω b5 160, zI ω b6 1200, zI ω b7 24, zI ω b8 60, zI ω b9 3, fI ω b10 4 mSort 4, zI ω b11 4, zI ω b12 160, fI ω b13 26 mLaw 26, fI ω b14 96 mWords 40]) dX7_init_512 rfl rfl rfl (Nat.le_of_ble_eq_true rfl) (Nat.le_of_ble_eq_true rfl) rfl (q := 513) rfl ?_
  refine n_dup C dX7_init_513 rfl (q := 514) rfl ?_
  refine n_bipush C dX7_init_514 b8_40 (q := 516) rfl ?_
  refine n_bipush C dX7_init_516 b8_114 (q := 518) rfl ?_
  refine n_fill C (k := 14) (n := 96) (j := 40) (Ls := mWords) (ms' := [oO a 5 [.int 0, .ref b1, .ref b2, .ref b3, .ref b4, .int 0, .ref b5, .int 0, .ref b6, .ref b7, .int 0, .int 0, .int 0, .ref b8, .ref b9, .ref b10, .ref b11, .ref b12, .ref b13, .int 0, .int 0, .int 0, .int 0, .null, .null, .int 0, .int 0, .int 0, .null, .null, .null, .int 0], zI ω b1 6, zI ω b2 6, zI ω b3 24, zI ω b4 36, zI ω b5 160, zI ω b6 1200, zI ω b7 24, zI ω b8 60, zI ω b9 3, fI ω b10 4 mSort 4, zI ω b11 4, zI ω b12 160, fI ω b13 26 mLaw 26, fI ω b14 96 mWords 41]) dX7_init_518 rfl rfl rfl (Nat.le_of_ble_eq_true rfl) (Nat.le_of_ble_eq_true rfl) rfl (q := 519) rfl ?_
  refine n_dup C dX7_init_519 rfl (q := 520) rfl ?_
  refine n_bipush C dX7_init_520 b8_41 (q := 522) rfl ?_
  refine n_bipush C dX7_init_522 b8_111 (q := 524) rfl ?_
  refine n_fill C (k := 14) (n := 96) (j := 41) (Ls := mWords) (ms' := [oO a 5 [.int 0, .ref b1, .ref b2, .ref b3, .ref b4, .int 0, .ref b5, .int 0, .ref b6, .ref b7, .int 0, .int 0, .int 0, .ref b8, .ref b9, .ref b10, .ref b11, .ref b12, .ref b13, .int 0, .int 0, .int 0, .int 0, .null, .null, .int 0, .int 0, .int 0, .null, .null, .null, .int 0], zI ω b1 6, zI ω b2 6, zI ω b3 24, zI ω b4 36, zI ω b5 160, zI ω b6 1200, zI ω b7 24, zI ω b8 60, zI ω b9 3, fI ω b10 4 mSort 4, zI ω b11 4, zI ω b12 160, fI ω b13 26 mLaw 26, fI ω b14 96 mWords 42]) dX7_init_524 rfl rfl rfl (Nat.le_of_ble_eq_true rfl) (Nat.le_of_ble_eq_true rfl) rfl (q := 525) rfl ?_
  refine n_dup C dX7_init_525 rfl (q := 526) rfl ?_
  refine n_bipush C dX7_init_526 b8_42 (q := 528) rfl ?_
  refine n_bipush C dX7_init_528 b8_117 (q := 530) rfl ?_
  refine n_fill C (k := 14) (n := 96) (j := 42) (Ls := mWords) (ms' := [oO a 5 [.int 0, .ref b1, .ref b2, .ref b3, .ref b4, .int 0, .ref b5, .int 0, .ref b6, .ref b7, .int 0, .int 0, .int 0, .ref b8, .ref b9, .ref b10, .ref b11, .ref b12, .ref b13, .int 0, .int 0, .int 0, .int 0, .null, .null, .int 0, .int 0, .int 0, .null, .null, .null, .int 0], zI ω b1 6, zI ω b2 6, zI ω b3 24, zI ω b4 36, zI ω b5 160, zI ω b6 1200, zI ω b7 24, zI ω b8 60, zI ω b9 3, fI ω b10 4 mSort 4, zI ω b11 4, zI ω b12 160, fI ω b13 26 mLaw 26, fI ω b14 96 mWords 43]) dX7_init_530 rfl rfl rfl (Nat.le_of_ble_eq_true rfl) (Nat.le_of_ble_eq_true rfl) rfl (q := 531) rfl ?_
  refine n_dup C dX7_init_531 rfl (q := 532) rfl ?_
  refine n_bipush C dX7_init_532 b8_43 (q := 534) rfl ?_
  refine n_bipush C dX7_init_534 b8_110 (q := 536) rfl ?_
  refine n_fill C (k := 14) (n := 96) (j := 43) (Ls := mWords) (ms' := [oO a 5 [.int 0, .ref b1, .ref b2, .ref b3, .ref b4, .int 0, .ref b5, .int 0, .ref b6, .ref b7, .int 0, .int 0, .int 0, .ref b8, .ref b9, .ref b10, .ref b11, .ref b12, .ref b13, .int 0, .int 0, .int 0, .int 0, .null, .null, .int 0, .int 0, .int 0, .null, .null, .null, .int 0], zI ω b1 6, zI ω b2 6, zI ω b3 24, zI ω b4 36, zI ω b5 160, zI ω b6 1200, zI ω b7 24, zI ω b8 60, zI ω b9 3, fI ω b10 4 mSort 4, zI ω b11 4, zI ω b12 160, fI ω b13 26 mLaw 26, fI ω b14 96 mWords 44]) dX7_init_536 rfl rfl rfl (Nat.le_of_ble_eq_true rfl) (Nat.le_of_ble_eq_true rfl) rfl (q := 537) rfl ?_
  refine n_dup C dX7_init_537 rfl (q := 538) rfl ?_
  refine n_bipush C dX7_init_538 b8_44 (q := 540) rfl ?_
  refine n_bipush C dX7_init_540 b8_100 (q := 542) rfl ?_
  refine n_fill C (k := 14) (n := 96) (j := 44) (Ls := mWords) (ms' := [oO a 5 [.int 0, .ref b1, .ref b2, .ref b3, .ref b4, .int 0, .ref b5, .int 0, .ref b6, .ref b7, .int 0, .int 0, .int 0, .ref b8, .ref b9, .ref b10, .ref b11, .ref b12, .ref b13, .int 0, .int 0, .int 0, .int 0, .null, .null, .int 0, .int 0, .int 0, .null, .null, .null, .int 0], zI ω b1 6, zI ω b2 6, zI ω b3 24, zI ω b4 36, zI ω b5 160, zI ω b6 1200, zI ω b7 24, zI ω b8 60, zI ω b9 3, fI ω b10 4 mSort 4, zI ω b11 4, zI ω b12 160, fI ω b13 26 mLaw 26, fI ω b14 96 mWords 45]) dX7_init_542 rfl rfl rfl (Nat.le_of_ble_eq_true rfl) (Nat.le_of_ble_eq_true rfl) rfl (q := 543) rfl ?_
  refine n_dup C dX7_init_543 rfl (q := 544) rfl ?_
  refine n_bipush C dX7_init_544 b8_45 (q := 546) rfl ?_
  refine n_bipush C dX7_init_546 b8_32 (q := 548) rfl ?_
  refine n_fill C (k := 14) (n := 96) (j := 45) (Ls := mWords) (ms' := [oO a 5 [.int 0, .ref b1, .ref b2, .ref b3, .ref b4, .int 0, .ref b5, .int 0, .ref b6, .ref b7, .int 0, .int 0, .int 0, .ref b8, .ref b9, .ref b10, .ref b11, .ref b12, .ref b13, .int 0, .int 0, .int 0, .int 0, .null, .null, .int 0, .int 0, .int 0, .null, .null, .null, .int 0], zI ω b1 6, zI ω b2 6, zI ω b3 24, zI ω b4 36, zI ω b5 160, zI ω b6 1200, zI ω b7 24, zI ω b8 60, zI ω b9 3, fI ω b10 4 mSort 4, zI ω b11 4, zI ω b12 160, fI ω b13 26 mLaw 26, fI ω b14 96 mWords 46]) dX7_init_548 rfl rfl rfl (Nat.le_of_ble_eq_true rfl) (Nat.le_of_ble_eq_true rfl) rfl (q := 549) rfl ?_
  refine n_dup C dX7_init_549 rfl (q := 550) rfl ?_
  refine n_bipush C dX7_init_550 b8_46 (q := 552) rfl ?_
  refine n_bipush C dX7_init_552 b8_32 (q := 554) rfl ?_
  refine n_fill C (k := 14) (n := 96) (j := 46) (Ls := mWords) (ms' := [oO a 5 [.int 0, .ref b1, .ref b2, .ref b3, .ref b4, .int 0, .ref b5, .int 0, .ref b6, .ref b7, .int 0, .int 0, .int 0, .ref b8, .ref b9, .ref b10, .ref b11, .ref b12, .ref b13, .int 0, .int 0, .int 0, .int 0, .null, .null, .int 0, .int 0, .int 0, .null, .null, .null, .int 0], zI ω b1 6, zI ω b2 6, zI ω b3 24, zI ω b4 36, zI ω b5 160, zI ω b6 1200, zI ω b7 24, zI ω b8 60, zI ω b9 3, fI ω b10 4 mSort 4, zI ω b11 4, zI ω b12 160, fI ω b13 26 mLaw 26, fI ω b14 96 mWords 47]) dX7_init_554 rfl rfl rfl (Nat.le_of_ble_eq_true rfl) (Nat.le_of_ble_eq_true rfl) rfl (q := 555) rfl ?_
  refine n_dup C dX7_init_555 rfl (q := 556) rfl ?_
  refine n_bipush C dX7_init_556 b8_47 (q := 558) rfl ?_
  refine n_bipush C dX7_init_558 b8_32 (q := 560) rfl ?_
  refine n_fill C (k := 14) (n := 96) (j := 47) (Ls := mWords) (ms' := [oO a 5 [.int 0, .ref b1, .ref b2, .ref b3, .ref b4, .int 0, .ref b5, .int 0, .ref b6, .ref b7, .int 0, .int 0, .int 0, .ref b8, .ref b9, .ref b10, .ref b11, .ref b12, .ref b13, .int 0, .int 0, .int 0, .int 0, .null, .null, .int 0, .int 0, .int 0, .null, .null, .null, .int 0], zI ω b1 6, zI ω b2 6, zI ω b3 24, zI ω b4 36, zI ω b5 160, zI ω b6 1200, zI ω b7 24, zI ω b8 60, zI ω b9 3, fI ω b10 4 mSort 4, zI ω b11 4, zI ω b12 160, fI ω b13 26 mLaw 26, fI ω b14 96 mWords 48]) dX7_init_560 rfl rfl rfl (Nat.le_of_ble_eq_true rfl) (Nat.le_of_ble_eq_true rfl) rfl (q := 561) rfl ?_
  refine n_dup C dX7_init_561 rfl (q := 562) rfl ?_
  refine n_bipush C dX7_init_562 b8_48 (q := 564) rfl ?_
  refine n_bipush C dX7_init_564 b8_117 (q := 566) rfl ?_
  refine n_fill C (k := 14) (n := 96) (j := 48) (Ls := mWords) (ms' := [oO a 5 [.int 0, .ref b1, .ref b2, .ref b3, .ref b4, .int 0, .ref b5, .int 0, .ref b6, .ref b7, .int 0, .int 0, .int 0, .ref b8, .ref b9, .ref b10, .ref b11, .ref b12, .ref b13, .int 0, .int 0, .int 0, .int 0, .null, .null, .int 0, .int 0, .int 0, .null, .null, .null, .int 0], zI ω b1 6, zI ω b2 6, zI ω b3 24, zI ω b4 36, zI ω b5 160, zI ω b6 1200, zI ω b7 24, zI ω b8 60, zI ω b9 3, fI ω b10 4 mSort 4, zI ω b11 4, zI ω b12 160, fI ω b13 26 mLaw 26, fI ω b14 96 mWords 49]) dX7_init_566 rfl rfl rfl (Nat.le_of_ble_eq_true rfl) (Nat.le_of_ble_eq_true rfl) rfl (q := 567) rfl ?_
  refine n_dup C dX7_init_567 rfl (q := 568) rfl ?_
  refine n_bipush C dX7_init_568 b8_49 (q := 570) rfl ?_
  refine n_bipush C dX7_init_570 b8_112 (q := 572) rfl ?_
  refine n_fill C (k := 14) (n := 96) (j := 49) (Ls := mWords) (ms' := [oO a 5 [.int 0, .ref b1, .ref b2, .ref b3, .ref b4, .int 0, .ref b5, .int 0, .ref b6, .ref b7, .int 0, .int 0, .int 0, .ref b8, .ref b9, .ref b10, .ref b11, .ref b12, .ref b13, .int 0, .int 0, .int 0, .int 0, .null, .null, .int 0, .int 0, .int 0, .null, .null, .null, .int 0], zI ω b1 6, zI ω b2 6, zI ω b3 24, zI ω b4 36, zI ω b5 160, zI ω b6 1200, zI ω b7 24, zI ω b8 60, zI ω b9 3, fI ω b10 4 mSort 4, zI ω b11 4, zI ω b12 160, fI ω b13 26 mLaw 26, fI ω b14 96 mWords 50]) dX7_init_572 rfl rfl rfl (Nat.le_of_ble_eq_true rfl) (Nat.le_of_ble_eq_true rfl) rfl (q := 573) rfl ?_
  exact kk

set_option maxHeartbeats 4000000 in
set_option maxRecDepth 100000 in
theorem sg7_4 {κ : Kx} {ω : Om} {Q : State → Prop} {pre : va_W} (C : CN κ ω cX7_init 2 6 yX7_init.cls 18 2276) (hini : κ.2.2.2.2.2.2.2.2.1.name = "<init>") {a b1 b2 b3 b4 b5 b6 b7 b8 b9 b10 b11 b12 b13 b14 : Nat} (kk : EN κ ω 2 Q pre [oO a 5 [.int 0, .ref b1, .ref b2, .ref b3, .ref b4, .int 0, .ref b5, .int 0, .ref b6, .ref b7, .int 0, .int 0, .int 0, .ref b8, .ref b9, .ref b10, .ref b11, .ref b12, .ref b13, .int 0, .int 0, .int 0, .int 0, .null, .null, .int 0, .int 0, .int 0, .null, .null, .null, .int 0], zI ω b1 6, zI ω b2 6, zI ω b3 24, zI ω b4 36, zI ω b5 160, zI ω b6 1200, zI ω b7 24, zI ω b8 60, zI ω b9 3, fI ω b10 4 mSort 4, zI ω b11 4, zI ω b12 160, fI ω b13 26 mLaw 26, fI ω b14 96 mWords 75] 14 1809 723 [(0, .ref a)] [.ref b14, .ref a]) : EN κ ω 2 Q pre [oO a 5 [.int 0, .ref b1, .ref b2, .ref b3, .ref b4, .int 0, .ref b5, .int 0, .ref b6, .ref b7, .int 0, .int 0, .int 0, .ref b8, .ref b9, .ref b10, .ref b11, .ref b12, .ref b13, .int 0, .int 0, .int 0, .int 0, .null, .null, .int 0, .int 0, .int 0, .null, .null, .null, .int 0], zI ω b1 6, zI ω b2 6, zI ω b3 24, zI ω b4 36, zI ω b5 160, zI ω b6 1200, zI ω b7 24, zI ω b8 60, zI ω b9 3, fI ω b10 4 mSort 4, zI ω b11 4, zI ω b12 160, fI ω b13 26 mLaw 26, fI ω b14 96 mWords 50] 14 1809 573 [(0, .ref a)] [.ref b14, .ref a] := by
  refine n_dup C dX7_init_573 rfl (q := 574) rfl ?_
  refine n_bipush C dX7_init_574 b8_50 (q := 576) rfl ?_
  refine n_bipush C dX7_init_576 b8_32 (q := 578) rfl ?_
  refine n_fill C (k := 14) (n := 96) (j := 50) (Ls := mWords) (ms' := [oO a 5 [.int 0, .ref b1, .ref b2, .ref b3, .ref b4, .int 0, .ref b5, .int 0, .ref b6, .ref b7, .int 0, .int 0, .int 0, .ref b8, .ref b9, .ref b10, .ref b11, .ref b12, .ref b13, .int 0, .int 0, .int 0, .int 0, .null, .null, .int 0, .int 0, .int 0, .null, .null, .null, .int 0], zI ω b1 6, zI ω b2 6, zI ω b3 24, zI ω b4 36, zI ω b5 160, zI ω b6 1200, zI ω b7 24, zI ω b8 60, zI ω b9 3, fI ω b10 4 mSort 4, zI ω b11 4, zI ω b12 160, fI ω b13 26 mLaw 26, fI ω b14 96 mWords 51]) dX7_init_578 rfl rfl rfl (Nat.le_of_ble_eq_true rfl) (Nat.le_of_ble_eq_true rfl) rfl (q := 579) rfl ?_
  refine n_dup C dX7_init_579 rfl (q := 580) rfl ?_
  refine n_bipush C dX7_init_580 b8_51 (q := 582) rfl ?_
  refine n_bipush C dX7_init_582 b8_32 (q := 584) rfl ?_
  refine n_fill C (k := 14) (n := 96) (j := 51) (Ls := mWords) (ms' := [oO a 5 [.int 0, .ref b1, .ref b2, .ref b3, .ref b4, .int 0, .ref b5, .int 0, .ref b6, .ref b7, .int 0, .int 0, .int 0, .ref b8, .ref b9, .ref b10, .ref b11, .ref b12, .ref b13, .int 0, .int 0, .int 0, .int 0, .null, .null, .int 0, .int 0, .int 0, .null, .null, .null, .int 0], zI ω b1 6, zI ω b2 6, zI ω b3 24, zI ω b4 36, zI ω b5 160, zI ω b6 1200, zI ω b7 24, zI ω b8 60, zI ω b9 3, fI ω b10 4 mSort 4, zI ω b11 4, zI ω b12 160, fI ω b13 26 mLaw 26, fI ω b14 96 mWords 52]) dX7_init_584 rfl rfl rfl (Nat.le_of_ble_eq_true rfl) (Nat.le_of_ble_eq_true rfl) rfl (q := 585) rfl ?_
  refine n_dup C dX7_init_585 rfl (q := 586) rfl ?_
  refine n_bipush C dX7_init_586 b8_52 (q := 588) rfl ?_
  refine n_bipush C dX7_init_588 b8_32 (q := 590) rfl ?_
  refine n_fill C (k := 14) (n := 96) (j := 52) (Ls := mWords) (ms' := [oO a 5 [.int 0, .ref b1, .ref b2, .ref b3, .ref b4, .int 0, .ref b5, .int 0, .ref b6, .ref b7, .int 0, .int 0, .int 0, .ref b8, .ref b9, .ref b10, .ref b11, .ref b12, .ref b13, .int 0, .int 0, .int 0, .int 0, .null, .null, .int 0, .int 0, .int 0, .null, .null, .null, .int 0], zI ω b1 6, zI ω b2 6, zI ω b3 24, zI ω b4 36, zI ω b5 160, zI ω b6 1200, zI ω b7 24, zI ω b8 60, zI ω b9 3, fI ω b10 4 mSort 4, zI ω b11 4, zI ω b12 160, fI ω b13 26 mLaw 26, fI ω b14 96 mWords 53]) dX7_init_590 rfl rfl rfl (Nat.le_of_ble_eq_true rfl) (Nat.le_of_ble_eq_true rfl) rfl (q := 591) rfl ?_
  refine n_dup C dX7_init_591 rfl (q := 592) rfl ?_
  refine n_bipush C dX7_init_592 b8_53 (q := 594) rfl ?_
  refine n_bipush C dX7_init_594 b8_32 (q := 596) rfl ?_
  refine n_fill C (k := 14) (n := 96) (j := 53) (Ls := mWords) (ms' := [oO a 5 [.int 0, .ref b1, .ref b2, .ref b3, .ref b4, .int 0, .ref b5, .int 0, .ref b6, .ref b7, .int 0, .int 0, .int 0, .ref b8, .ref b9, .ref b10, .ref b11, .ref b12, .ref b13, .int 0, .int 0, .int 0, .int 0, .null, .null, .int 0, .int 0, .int 0, .null, .null, .null, .int 0], zI ω b1 6, zI ω b2 6, zI ω b3 24, zI ω b4 36, zI ω b5 160, zI ω b6 1200, zI ω b7 24, zI ω b8 60, zI ω b9 3, fI ω b10 4 mSort 4, zI ω b11 4, zI ω b12 160, fI ω b13 26 mLaw 26, fI ω b14 96 mWords 54]) dX7_init_596 rfl rfl rfl (Nat.le_of_ble_eq_true rfl) (Nat.le_of_ble_eq_true rfl) rfl (q := 597) rfl ?_
  refine n_dup C dX7_init_597 rfl (q := 598) rfl ?_
  refine n_bipush C dX7_init_598 b8_54 (q := 600) rfl ?_
  refine n_bipush C dX7_init_600 b8_32 (q := 602) rfl ?_
  refine n_fill C (k := 14) (n := 96) (j := 54) (Ls := mWords) (ms' := [oO a 5 [.int 0, .ref b1, .ref b2, .ref b3, .ref b4, .int 0, .ref b5, .int 0, .ref b6, .ref b7, .int 0, .int 0, .int 0, .ref b8, .ref b9, .ref b10, .ref b11, .ref b12, .ref b13, .int 0, .int 0, .int 0, .int 0, .null, .null, .int 0, .int 0, .int 0, .null, .null, .null, .int 0], zI ω b1 6, zI ω b2 6, zI ω b3 24, zI ω b4 36, zI ω b5 160, zI ω b6 1200, zI ω b7 24, zI ω b8 60, zI ω b9 3, fI ω b10 4 mSort 4, zI ω b11 4, zI ω b12 160, fI ω b13 26 mLaw 26, fI ω b14 96 mWords 55]) dX7_init_602 rfl rfl rfl (Nat.le_of_ble_eq_true rfl) (Nat.le_of_ble_eq_true rfl) rfl (q := 603) rfl ?_
  refine n_dup C dX7_init_603 rfl (q := 604) rfl ?_
  refine n_bipush C dX7_init_604 b8_55 (q := 606) rfl ?_
  refine n_bipush C dX7_init_606 b8_32 (q := 608) rfl ?_
  refine n_fill C (k := 14) (n := 96) (j := 55) (Ls := mWords) (ms' := [oO a 5 [.int 0, .ref b1, .ref b2, .ref b3, .ref b4, .int 0, .ref b5, .int 0, .ref b6, .ref b7, .int 0, .int 0, .int 0, .ref b8, .ref b9, .ref b10, .ref b11, .ref b12, .ref b13, .int 0, .int 0, .int 0, .int 0, .null, .null, .int 0, .int 0, .int 0, .null, .null, .null, .int 0], zI ω b1 6, zI ω b2 6, zI ω b3 24, zI ω b4 36, zI ω b5 160, zI ω b6 1200, zI ω b7 24, zI ω b8 60, zI ω b9 3, fI ω b10 4 mSort 4, zI ω b11 4, zI ω b12 160, fI ω b13 26 mLaw 26, fI ω b14 96 mWords 56]) dX7_init_608 rfl rfl rfl (Nat.le_of_ble_eq_true rfl) (Nat.le_of_ble_eq_true rfl) rfl (q := 609) rfl ?_
  refine n_dup C dX7_init_609 rfl (q := 610) rfl ?_
  refine n_bipush C dX7_init_610 b8_56 (q := 612) rfl ?_
  refine n_bipush C dX7_init_612 b8_98 (q := 614) rfl ?_
  refine n_fill C (k := 14) (n := 96) (j := 56) (Ls := mWords) (ms' := [oO a 5 [.int 0, .ref b1, .ref b2, .ref b3, .ref b4, .int 0, .ref b5, .int 0, .ref b6, .ref b7, .int 0, .int 0, .int 0, .ref b8, .ref b9, .ref b10, .ref b11, .ref b12, .ref b13, .int 0, .int 0, .int 0, .int 0, .null, .null, .int 0, .int 0, .int 0, .null, .null, .null, .int 0], zI ω b1 6, zI ω b2 6, zI ω b3 24, zI ω b4 36, zI ω b5 160, zI ω b6 1200, zI ω b7 24, zI ω b8 60, zI ω b9 3, fI ω b10 4 mSort 4, zI ω b11 4, zI ω b12 160, fI ω b13 26 mLaw 26, fI ω b14 96 mWords 57]) dX7_init_614 rfl rfl rfl (Nat.le_of_ble_eq_true rfl) (Nat.le_of_ble_eq_true rfl) rfl (q := 615) rfl ?_
  refine n_dup C dX7_init_615 rfl (q := 616) rfl ?_
  refine n_bipush C dX7_init_616 b8_57 (q := 618) rfl ?_
  refine n_bipush C dX7_init_618 b8_108 (q := 620) rfl ?_
  refine n_fill C (k := 14) (n := 96) (j := 57) (Ls := mWords) (ms' := [oO a 5 [.int 0, .ref b1, .ref b2, .ref b3, .ref b4, .int 0, .ref b5, .int 0, .ref b6, .ref b7, .int 0, .int 0, .int 0, .ref b8, .ref b9, .ref b10, .ref b11, .ref b12, .ref b13, .int 0, .int 0, .int 0, .int 0, .null, .null, .int 0, .int 0, .int 0, .null, .null, .null, .int 0], zI ω b1 6, zI ω b2 6, zI ω b3 24, zI ω b4 36, zI ω b5 160, zI ω b6 1200, zI ω b7 24, zI ω b8 60, zI ω b9 3, fI ω b10 4 mSort 4, zI ω b11 4, zI ω b12 160, fI ω b13 26 mLaw 26, fI ω b14 96 mWords 58]) dX7_init_620 rfl rfl rfl (Nat.le_of_ble_eq_true rfl) (Nat.le_of_ble_eq_true rfl) rfl (q := 621) rfl ?_
  refine n_dup C dX7_init_621 rfl (q := 622) rfl ?_
  refine n_bipush C dX7_init_622 b8_58 (q := 624) rfl ?_
  refine n_bipush C dX7_init_624 b8_111 (q := 626) rfl ?_
  refine n_fill C (k := 14) (n := 96) (j := 58) (Ls := mWords) (ms' := [oO a 5 [.int 0, .ref b1, .ref b2, .ref b3, .ref b4, .int 0, .ref b5, .int 0, .ref b6, .ref b7, .int 0, .int 0, .int 0, .ref b8, .ref b9, .ref b10, .ref b11, .ref b12, .ref b13, .int 0, .int 0, .int 0, .int 0, .null, .null, .int 0, .int 0, .int 0, .null, .null, .null, .int 0], zI ω b1 6, zI ω b2 6, zI ω b3 24, zI ω b4 36, zI ω b5 160, zI ω b6 1200, zI ω b7 24, zI ω b8 60, zI ω b9 3, fI ω b10 4 mSort 4, zI ω b11 4, zI ω b12 160, fI ω b13 26 mLaw 26, fI ω b14 96 mWords 59]) dX7_init_626 rfl rfl rfl (Nat.le_of_ble_eq_true rfl) (Nat.le_of_ble_eq_true rfl) rfl (q := 627) rfl ?_
  refine n_dup C dX7_init_627 rfl (q := 628) rfl ?_
  refine n_bipush C dX7_init_628 b8_59 (q := 630) rfl ?_
  refine n_bipush C dX7_init_630 b8_119 (q := 632) rfl ?_
  refine n_fill C (k := 14) (n := 96) (j := 59) (Ls := mWords) (ms' := [oO a 5 [.int 0, .ref b1, .ref b2, .ref b3, .ref b4, .int 0, .ref b5, .int 0, .ref b6, .ref b7, .int 0, .int 0, .int 0, .ref b8, .ref b9, .ref b10, .ref b11, .ref b12, .ref b13, .int 0, .int 0, .int 0, .int 0, .null, .null, .int 0, .int 0, .int 0, .null, .null, .null, .int 0], zI ω b1 6, zI ω b2 6, zI ω b3 24, zI ω b4 36, zI ω b5 160, zI ω b6 1200, zI ω b7 24, zI ω b8 60, zI ω b9 3, fI ω b10 4 mSort 4, zI ω b11 4, zI ω b12 160, fI ω b13 26 mLaw 26, fI ω b14 96 mWords 60]) dX7_init_632 rfl rfl rfl (Nat.le_of_ble_eq_true rfl) (Nat.le_of_ble_eq_true rfl) rfl (q := 633) rfl ?_
  refine n_dup C dX7_init_633 rfl (q := 634) rfl ?_
  refine n_bipush C dX7_init_634 b8_60 (q := 636) rfl ?_
  refine n_bipush C dX7_init_636 b8_115 (q := 638) rfl ?_
  refine n_fill C (k := 14) (n := 96) (j := 60) (Ls := mWords) (ms' := [oO a 5 [.int 0, .ref b1, .ref b2, .ref b3, .ref b4, .int 0, .ref b5, .int 0, .ref b6, .ref b7, .int 0, .int 0, .int 0, .ref b8, .ref b9, .ref b10, .ref b11, .ref b12, .ref b13, .int 0, .int 0, .int 0, .int 0, .null, .null, .int 0, .int 0, .int 0, .null, .null, .null, .int 0], zI ω b1 6, zI ω b2 6, zI ω b3 24, zI ω b4 36, zI ω b5 160, zI ω b6 1200, zI ω b7 24, zI ω b8 60, zI ω b9 3, fI ω b10 4 mSort 4, zI ω b11 4, zI ω b12 160, fI ω b13 26 mLaw 26, fI ω b14 96 mWords 61]) dX7_init_638 rfl rfl rfl (Nat.le_of_ble_eq_true rfl) (Nat.le_of_ble_eq_true rfl) rfl (q := 639) rfl ?_
  refine n_dup C dX7_init_639 rfl (q := 640) rfl ?_
  refine n_bipush C dX7_init_640 b8_61 (q := 642) rfl ?_
  refine n_bipush C dX7_init_642 b8_32 (q := 644) rfl ?_
  refine n_fill C (k := 14) (n := 96) (j := 61) (Ls := mWords) (ms' := [oO a 5 [.int 0, .ref b1, .ref b2, .ref b3, .ref b4, .int 0, .ref b5, .int 0, .ref b6, .ref b7, .int 0, .int 0, .int 0, .ref b8, .ref b9, .ref b10, .ref b11, .ref b12, .ref b13, .int 0, .int 0, .int 0, .int 0, .null, .null, .int 0, .int 0, .int 0, .null, .null, .null, .int 0], zI ω b1 6, zI ω b2 6, zI ω b3 24, zI ω b4 36, zI ω b5 160, zI ω b6 1200, zI ω b7 24, zI ω b8 60, zI ω b9 3, fI ω b10 4 mSort 4, zI ω b11 4, zI ω b12 160, fI ω b13 26 mLaw 26, fI ω b14 96 mWords 62]) dX7_init_644 rfl rfl rfl (Nat.le_of_ble_eq_true rfl) (Nat.le_of_ble_eq_true rfl) rfl (q := 645) rfl ?_
  refine n_dup C dX7_init_645 rfl (q := 646) rfl ?_
  refine n_bipush C dX7_init_646 b8_62 (q := 648) rfl ?_
  refine n_bipush C dX7_init_648 b8_32 (q := 650) rfl ?_
  refine n_fill C (k := 14) (n := 96) (j := 62) (Ls := mWords) (ms' := [oO a 5 [.int 0, .ref b1, .ref b2, .ref b3, .ref b4, .int 0, .ref b5, .int 0, .ref b6, .ref b7, .int 0, .int 0, .int 0, .ref b8, .ref b9, .ref b10, .ref b11, .ref b12, .ref b13, .int 0, .int 0, .int 0, .int 0, .null, .null, .int 0, .int 0, .int 0, .null, .null, .null, .int 0], zI ω b1 6, zI ω b2 6, zI ω b3 24, zI ω b4 36, zI ω b5 160, zI ω b6 1200, zI ω b7 24, zI ω b8 60, zI ω b9 3, fI ω b10 4 mSort 4, zI ω b11 4, zI ω b12 160, fI ω b13 26 mLaw 26, fI ω b14 96 mWords 63]) dX7_init_650 rfl rfl rfl (Nat.le_of_ble_eq_true rfl) (Nat.le_of_ble_eq_true rfl) rfl (q := 651) rfl ?_
  refine n_dup C dX7_init_651 rfl (q := 652) rfl ?_
  refine n_bipush C dX7_init_652 b8_63 (q := 654) rfl ?_
  refine n_bipush C dX7_init_654 b8_32 (q := 656) rfl ?_
  refine n_fill C (k := 14) (n := 96) (j := 63) (Ls := mWords) (ms' := [oO a 5 [.int 0, .ref b1, .ref b2, .ref b3, .ref b4, .int 0, .ref b5, .int 0, .ref b6, .ref b7, .int 0, .int 0, .int 0, .ref b8, .ref b9, .ref b10, .ref b11, .ref b12, .ref b13, .int 0, .int 0, .int 0, .int 0, .null, .null, .int 0, .int 0, .int 0, .null, .null, .null, .int 0], zI ω b1 6, zI ω b2 6, zI ω b3 24, zI ω b4 36, zI ω b5 160, zI ω b6 1200, zI ω b7 24, zI ω b8 60, zI ω b9 3, fI ω b10 4 mSort 4, zI ω b11 4, zI ω b12 160, fI ω b13 26 mLaw 26, fI ω b14 96 mWords 64]) dX7_init_656 rfl rfl rfl (Nat.le_of_ble_eq_true rfl) (Nat.le_of_ble_eq_true rfl) rfl (q := 657) rfl ?_
  refine n_dup C dX7_init_657 rfl (q := 658) rfl ?_
  refine n_bipush C dX7_init_658 b8_64 (q := 660) rfl ?_
  refine n_bipush C dX7_init_660 b8_109 (q := 662) rfl ?_
  refine n_fill C (k := 14) (n := 96) (j := 64) (Ls := mWords) (ms' := [oO a 5 [.int 0, .ref b1, .ref b2, .ref b3, .ref b4, .int 0, .ref b5, .int 0, .ref b6, .ref b7, .int 0, .int 0, .int 0, .ref b8, .ref b9, .ref b10, .ref b11, .ref b12, .ref b13, .int 0, .int 0, .int 0, .int 0, .null, .null, .int 0, .int 0, .int 0, .null, .null, .null, .int 0], zI ω b1 6, zI ω b2 6, zI ω b3 24, zI ω b4 36, zI ω b5 160, zI ω b6 1200, zI ω b7 24, zI ω b8 60, zI ω b9 3, fI ω b10 4 mSort 4, zI ω b11 4, zI ω b12 160, fI ω b13 26 mLaw 26, fI ω b14 96 mWords 65]) dX7_init_662 rfl rfl rfl (Nat.le_of_ble_eq_true rfl) (Nat.le_of_ble_eq_true rfl) rfl (q := 663) rfl ?_
  refine n_dup C dX7_init_663 rfl (q := 664) rfl ?_
  refine n_bipush C dX7_init_664 b8_65 (q := 666) rfl ?_
  refine n_bipush C dX7_init_666 b8_111 (q := 668) rfl ?_
  refine n_fill C (k := 14) (n := 96) (j := 65) (Ls := mWords) (ms' := [oO a 5 [.int 0, .ref b1, .ref b2, .ref b3, .ref b4, .int 0, .ref b5, .int 0, .ref b6, .ref b7, .int 0, .int 0, .int 0, .ref b8, .ref b9, .ref b10, .ref b11, .ref b12, .ref b13, .int 0, .int 0, .int 0, .int 0, .null, .null, .int 0, .int 0, .int 0, .null, .null, .null, .int 0], zI ω b1 6, zI ω b2 6, zI ω b3 24, zI ω b4 36, zI ω b5 160, zI ω b6 1200, zI ω b7 24, zI ω b8 60, zI ω b9 3, fI ω b10 4 mSort 4, zI ω b11 4, zI ω b12 160, fI ω b13 26 mLaw 26, fI ω b14 96 mWords 66]) dX7_init_668 rfl rfl rfl (Nat.le_of_ble_eq_true rfl) (Nat.le_of_ble_eq_true rfl) rfl (q := 669) rfl ?_
  refine n_dup C dX7_init_669 rfl (q := 670) rfl ?_
  refine n_bipush C dX7_init_670 b8_66 (q := 672) rfl ?_
  refine n_bipush C dX7_init_672 b8_114 (q := 674) rfl ?_
  refine n_fill C (k := 14) (n := 96) (j := 66) (Ls := mWords) (ms' := [oO a 5 [.int 0, .ref b1, .ref b2, .ref b3, .ref b4, .int 0, .ref b5, .int 0, .ref b6, .ref b7, .int 0, .int 0, .int 0, .ref b8, .ref b9, .ref b10, .ref b11, .ref b12, .ref b13, .int 0, .int 0, .int 0, .int 0, .null, .null, .int 0, .int 0, .int 0, .null, .null, .null, .int 0], zI ω b1 6, zI ω b2 6, zI ω b3 24, zI ω b4 36, zI ω b5 160, zI ω b6 1200, zI ω b7 24, zI ω b8 60, zI ω b9 3, fI ω b10 4 mSort 4, zI ω b11 4, zI ω b12 160, fI ω b13 26 mLaw 26, fI ω b14 96 mWords 67]) dX7_init_674 rfl rfl rfl (Nat.le_of_ble_eq_true rfl) (Nat.le_of_ble_eq_true rfl) rfl (q := 675) rfl ?_
  refine n_dup C dX7_init_675 rfl (q := 676) rfl ?_
  refine n_bipush C dX7_init_676 b8_67 (q := 678) rfl ?_
  refine n_bipush C dX7_init_678 b8_101 (q := 680) rfl ?_
  refine n_fill C (k := 14) (n := 96) (j := 67) (Ls := mWords) (ms' := [oO a 5 [.int 0, .ref b1, .ref b2, .ref b3, .ref b4, .int 0, .ref b5, .int 0, .ref b6, .ref b7, .int 0, .int 0, .int 0, .ref b8, .ref b9, .ref b10, .ref b11, .ref b12, .ref b13, .int 0, .int 0, .int 0, .int 0, .null, .null, .int 0, .int 0, .int 0, .null, .null, .null, .int 0], zI ω b1 6, zI ω b2 6, zI ω b3 24, zI ω b4 36, zI ω b5 160, zI ω b6 1200, zI ω b7 24, zI ω b8 60, zI ω b9 3, fI ω b10 4 mSort 4, zI ω b11 4, zI ω b12 160, fI ω b13 26 mLaw 26, fI ω b14 96 mWords 68]) dX7_init_680 rfl rfl rfl (Nat.le_of_ble_eq_true rfl) (Nat.le_of_ble_eq_true rfl) rfl (q := 681) rfl ?_
  refine n_dup C dX7_init_681 rfl (q := 682) rfl ?_
  refine n_bipush C dX7_init_682 b8_68 (q := 684) rfl ?_
  refine n_bipush C dX7_init_684 b8_32 (q := 686) rfl ?_
  refine n_fill C (k := 14) (n := 96) (j := 68) (Ls := mWords) (ms' := [oO a 5 [.int 0, .ref b1, .ref b2, .ref b3, .ref b4, .int 0, .ref b5, .int 0, .ref b6, .ref b7, .int 0, .int 0, .int 0, .ref b8, .ref b9, .ref b10, .ref b11, .ref b12, .ref b13, .int 0, .int 0, .int 0, .int 0, .null, .null, .int 0, .int 0, .int 0, .null, .null, .null, .int 0], zI ω b1 6, zI ω b2 6, zI ω b3 24, zI ω b4 36, zI ω b5 160, zI ω b6 1200, zI ω b7 24, zI ω b8 60, zI ω b9 3, fI ω b10 4 mSort 4, zI ω b11 4, zI ω b12 160, fI ω b13 26 mLaw 26, fI ω b14 96 mWords 69]) dX7_init_686 rfl rfl rfl (Nat.le_of_ble_eq_true rfl) (Nat.le_of_ble_eq_true rfl) rfl (q := 687) rfl ?_
  refine n_dup C dX7_init_687 rfl (q := 688) rfl ?_
  refine n_bipush C dX7_init_688 b8_69 (q := 690) rfl ?_
  refine n_bipush C dX7_init_690 b8_32 (q := 692) rfl ?_
  refine n_fill C (k := 14) (n := 96) (j := 69) (Ls := mWords) (ms' := [oO a 5 [.int 0, .ref b1, .ref b2, .ref b3, .ref b4, .int 0, .ref b5, .int 0, .ref b6, .ref b7, .int 0, .int 0, .int 0, .ref b8, .ref b9, .ref b10, .ref b11, .ref b12, .ref b13, .int 0, .int 0, .int 0, .int 0, .null, .null, .int 0, .int 0, .int 0, .null, .null, .null, .int 0], zI ω b1 6, zI ω b2 6, zI ω b3 24, zI ω b4 36, zI ω b5 160, zI ω b6 1200, zI ω b7 24, zI ω b8 60, zI ω b9 3, fI ω b10 4 mSort 4, zI ω b11 4, zI ω b12 160, fI ω b13 26 mLaw 26, fI ω b14 96 mWords 70]) dX7_init_692 rfl rfl rfl (Nat.le_of_ble_eq_true rfl) (Nat.le_of_ble_eq_true rfl) rfl (q := 693) rfl ?_
  refine n_dup C dX7_init_693 rfl (q := 694) rfl ?_
  refine n_bipush C dX7_init_694 b8_70 (q := 696) rfl ?_
  refine n_bipush C dX7_init_696 b8_32 (q := 698) rfl ?_
  refine n_fill C (k := 14) (n := 96) (j := 70) (Ls := mWords) (ms' := [oO a 5 [.int 0, .ref b1, .ref b2, .ref b3, .ref b4, .int 0, .ref b5, .int 0, .ref b6, .ref b7, .int 0, .int 0, .int 0, .ref b8, .ref b9, .ref b10, .ref b11, .ref b12, .ref b13, .int 0, .int 0, .int 0, .int 0, .null, .null, .int 0, .int 0, .int 0, .null, .null, .null, .int 0], zI ω b1 6, zI ω b2 6, zI ω b3 24, zI ω b4 36, zI ω b5 160, zI ω b6 1200, zI ω b7 24, zI ω b8 60, zI ω b9 3, fI ω b10 4 mSort 4, zI ω b11 4, zI ω b12 160, fI ω b13 26 mLaw 26, fI ω b14 96 mWords 71]) dX7_init_698 rfl rfl rfl (Nat.le_of_ble_eq_true rfl) (Nat.le_of_ble_eq_true rfl) rfl (q := 699) rfl ?_
  refine n_dup C dX7_init_699 rfl (q := 700) rfl ?_
  refine n_bipush C dX7_init_700 b8_71 (q := 702) rfl ?_
  refine n_bipush C dX7_init_702 b8_32 (q := 704) rfl ?_
  refine n_fill C (k := 14) (n := 96) (j := 71) (Ls := mWords) (ms' := [oO a 5 [.int 0, .ref b1, .ref b2, .ref b3, .ref b4, .int 0, .ref b5, .int 0, .ref b6, .ref b7, .int 0, .int 0, .int 0, .ref b8, .ref b9, .ref b10, .ref b11, .ref b12, .ref b13, .int 0, .int 0, .int 0, .int 0, .null, .null, .int 0, .int 0, .int 0, .null, .null, .null, .int 0], zI ω b1 6, zI ω b2 6, zI ω b3 24, zI ω b4 36, zI ω b5 160, zI ω b6 1200, zI ω b7 24, zI ω b8 60, zI ω b9 3, fI ω b10 4 mSort 4, zI ω b11 4, zI ω b12 160, fI ω b13 26 mLaw 26, fI ω b14 96 mWords 72]) dX7_init_704 rfl rfl rfl (Nat.le_of_ble_eq_true rfl) (Nat.le_of_ble_eq_true rfl) rfl (q := 705) rfl ?_
  refine n_dup C dX7_init_705 rfl (q := 706) rfl ?_
  refine n_bipush C dX7_init_706 b8_72 (q := 708) rfl ?_
  refine n_bipush C dX7_init_708 b8_111 (q := 710) rfl ?_
  refine n_fill C (k := 14) (n := 96) (j := 72) (Ls := mWords) (ms' := [oO a 5 [.int 0, .ref b1, .ref b2, .ref b3, .ref b4, .int 0, .ref b5, .int 0, .ref b6, .ref b7, .int 0, .int 0, .int 0, .ref b8, .ref b9, .ref b10, .ref b11, .ref b12, .ref b13, .int 0, .int 0, .int 0, .int 0, .null, .null, .int 0, .int 0, .int 0, .null, .null, .null, .int 0], zI ω b1 6, zI ω b2 6, zI ω b3 24, zI ω b4 36, zI ω b5 160, zI ω b6 1200, zI ω b7 24, zI ω b8 60, zI ω b9 3, fI ω b10 4 mSort 4, zI ω b11 4, zI ω b12 160, fI ω b13 26 mLaw 26, fI ω b14 96 mWords 73]) dX7_init_710 rfl rfl rfl (Nat.le_of_ble_eq_true rfl) (Nat.le_of_ble_eq_true rfl) rfl (q := 711) rfl ?_
  refine n_dup C dX7_init_711 rfl (q := 712) rfl ?_
  refine n_bipush C dX7_init_712 b8_73 (q := 714) rfl ?_
  refine n_bipush C dX7_init_714 b8_114 (q := 716) rfl ?_
  refine n_fill C (k := 14) (n := 96) (j := 73) (Ls := mWords) (ms' := [oO a 5 [.int 0, .ref b1, .ref b2, .ref b3, .ref b4, .int 0, .ref b5, .int 0, .ref b6, .ref b7, .int 0, .int 0, .int 0, .ref b8, .ref b9, .ref b10, .ref b11, .ref b12, .ref b13, .int 0, .int 0, .int 0, .int 0, .null, .null, .int 0, .int 0, .int 0, .null, .null, .null, .int 0], zI ω b1 6, zI ω b2 6, zI ω b3 24, zI ω b4 36, zI ω b5 160, zI ω b6 1200, zI ω b7 24, zI ω b8 60, zI ω b9 3, fI ω b10 4 mSort 4, zI ω b11 4, zI ω b12 160, fI ω b13 26 mLaw 26, fI ω b14 96 mWords 74]) dX7_init_716 rfl rfl rfl (Nat.le_of_ble_eq_true rfl) (Nat.le_of_ble_eq_true rfl) rfl (q := 717) rfl ?_
  refine n_dup C dX7_init_717 rfl (q := 718) rfl ?_
  refine n_bipush C dX7_init_718 b8_74 (q := 720) rfl ?_
  refine n_bipush C dX7_init_720 b8_32 (q := 722) rfl ?_
  refine n_fill C (k := 14) (n := 96) (j := 74) (Ls := mWords) (ms' := [oO a 5 [.int 0, .ref b1, .ref b2, .ref b3, .ref b4, .int 0, .ref b5, .int 0, .ref b6, .ref b7, .int 0, .int 0, .int 0, .ref b8, .ref b9, .ref b10, .ref b11, .ref b12, .ref b13, .int 0, .int 0, .int 0, .int 0, .null, .null, .int 0, .int 0, .int 0, .null, .null, .null, .int 0], zI ω b1 6, zI ω b2 6, zI ω b3 24, zI ω b4 36, zI ω b5 160, zI ω b6 1200, zI ω b7 24, zI ω b8 60, zI ω b9 3, fI ω b10 4 mSort 4, zI ω b11 4, zI ω b12 160, fI ω b13 26 mLaw 26, fI ω b14 96 mWords 75]) dX7_init_722 rfl rfl rfl (Nat.le_of_ble_eq_true rfl) (Nat.le_of_ble_eq_true rfl) rfl (q := 723) rfl ?_
  exact kk

set_option maxHeartbeats 4000000 in
set_option maxRecDepth 100000 in
theorem sg7_5 {κ : Kx} {ω : Om} {Q : State → Prop} {pre : va_W} (C : CN κ ω cX7_init 2 6 yX7_init.cls 18 2276) (hini : κ.2.2.2.2.2.2.2.2.1.name = "<init>") {a b1 b2 b3 b4 b5 b6 b7 b8 b9 b10 b11 b12 b13 b14 : Nat} (kk : EN κ ω 2 Q pre [oO a 5 [.int 0, .ref b1, .ref b2, .ref b3, .ref b4, .int 0, .ref b5, .int 0, .ref b6, .ref b7, .int 0, .int 0, .int 0, .ref b8, .ref b9, .ref b10, .ref b11, .ref b12, .ref b13, .int 0, .int 0, .int 0, .int 0, .ref b14, .null, .int 0, .int 0, .int 0, .null, .null, .null, .int 0], zI ω b1 6, zI ω b2 6, zI ω b3 24, zI ω b4 36, zI ω b5 160, zI ω b6 1200, zI ω b7 24, zI ω b8 60, zI ω b9 3, fI ω b10 4 mSort 4, zI ω b11 4, zI ω b12 160, fI ω b13 26 mLaw 26, fI ω b14 96 mWords 96] 14 1809 852 [(0, .ref a)] []) : EN κ ω 2 Q pre [oO a 5 [.int 0, .ref b1, .ref b2, .ref b3, .ref b4, .int 0, .ref b5, .int 0, .ref b6, .ref b7, .int 0, .int 0, .int 0, .ref b8, .ref b9, .ref b10, .ref b11, .ref b12, .ref b13, .int 0, .int 0, .int 0, .int 0, .null, .null, .int 0, .int 0, .int 0, .null, .null, .null, .int 0], zI ω b1 6, zI ω b2 6, zI ω b3 24, zI ω b4 36, zI ω b5 160, zI ω b6 1200, zI ω b7 24, zI ω b8 60, zI ω b9 3, fI ω b10 4 mSort 4, zI ω b11 4, zI ω b12 160, fI ω b13 26 mLaw 26, fI ω b14 96 mWords 75] 14 1809 723 [(0, .ref a)] [.ref b14, .ref a] := by
  refine n_dup C dX7_init_723 rfl (q := 724) rfl ?_
  refine n_bipush C dX7_init_724 b8_75 (q := 726) rfl ?_
  refine n_bipush C dX7_init_726 b8_32 (q := 728) rfl ?_
  refine n_fill C (k := 14) (n := 96) (j := 75) (Ls := mWords) (ms' := [oO a 5 [.int 0, .ref b1, .ref b2, .ref b3, .ref b4, .int 0, .ref b5, .int 0, .ref b6, .ref b7, .int 0, .int 0, .int 0, .ref b8, .ref b9, .ref b10, .ref b11, .ref b12, .ref b13, .int 0, .int 0, .int 0, .int 0, .null, .null, .int 0, .int 0, .int 0, .null, .null, .null, .int 0], zI ω b1 6, zI ω b2 6, zI ω b3 24, zI ω b4 36, zI ω b5 160, zI ω b6 1200, zI ω b7 24, zI ω b8 60, zI ω b9 3, fI ω b10 4 mSort 4, zI ω b11 4, zI ω b12 160, fI ω b13 26 mLaw 26, fI ω b14 96 mWords 76]) dX7_init_728 rfl rfl rfl (Nat.le_of_ble_eq_true rfl) (Nat.le_of_ble_eq_true rfl) rfl (q := 729) rfl ?_
  refine n_dup C dX7_init_729 rfl (q := 730) rfl ?_
  refine n_bipush C dX7_init_730 b8_76 (q := 732) rfl ?_
  refine n_bipush C dX7_init_732 b8_32 (q := 734) rfl ?_
  refine n_fill C (k := 14) (n := 96) (j := 76) (Ls := mWords) (ms' := [oO a 5 [.int 0, .ref b1, .ref b2, .ref b3, .ref b4, .int 0, .ref b5, .int 0, .ref b6, .ref b7, .int 0, .int 0, .int 0, .ref b8, .ref b9, .ref b10, .ref b11, .ref b12, .ref b13, .int 0, .int 0, .int 0, .int 0, .null, .null, .int 0, .int 0, .int 0, .null, .null, .null, .int 0], zI ω b1 6, zI ω b2 6, zI ω b3 24, zI ω b4 36, zI ω b5 160, zI ω b6 1200, zI ω b7 24, zI ω b8 60, zI ω b9 3, fI ω b10 4 mSort 4, zI ω b11 4, zI ω b12 160, fI ω b13 26 mLaw 26, fI ω b14 96 mWords 77]) dX7_init_734 rfl rfl rfl (Nat.le_of_ble_eq_true rfl) (Nat.le_of_ble_eq_true rfl) rfl (q := 735) rfl ?_
  refine n_dup C dX7_init_735 rfl (q := 736) rfl ?_
  refine n_bipush C dX7_init_736 b8_77 (q := 738) rfl ?_
  refine n_bipush C dX7_init_738 b8_32 (q := 740) rfl ?_
  refine n_fill C (k := 14) (n := 96) (j := 77) (Ls := mWords) (ms' := [oO a 5 [.int 0, .ref b1, .ref b2, .ref b3, .ref b4, .int 0, .ref b5, .int 0, .ref b6, .ref b7, .int 0, .int 0, .int 0, .ref b8, .ref b9, .ref b10, .ref b11, .ref b12, .ref b13, .int 0, .int 0, .int 0, .int 0, .null, .null, .int 0, .int 0, .int 0, .null, .null, .null, .int 0], zI ω b1 6, zI ω b2 6, zI ω b3 24, zI ω b4 36, zI ω b5 160, zI ω b6 1200, zI ω b7 24, zI ω b8 60, zI ω b9 3, fI ω b10 4 mSort 4, zI ω b11 4, zI ω b12 160, fI ω b13 26 mLaw 26, fI ω b14 96 mWords 78]) dX7_init_740 rfl rfl rfl (Nat.le_of_ble_eq_true rfl) (Nat.le_of_ble_eq_true rfl) rfl (q := 741) rfl ?_
  refine n_dup C dX7_init_741 rfl (q := 742) rfl ?_
  refine n_bipush C dX7_init_742 b8_78 (q := 744) rfl ?_
  refine n_bipush C dX7_init_744 b8_32 (q := 746) rfl ?_
  refine n_fill C (k := 14) (n := 96) (j := 78) (Ls := mWords) (ms' := [oO a 5 [.int 0, .ref b1, .ref b2, .ref b3, .ref b4, .int 0, .ref b5, .int 0, .ref b6, .ref b7, .int 0, .int 0, .int 0, .ref b8, .ref b9, .ref b10, .ref b11, .ref b12, .ref b13, .int 0, .int 0, .int 0, .int 0, .null, .null, .int 0, .int 0, .int 0, .null, .null, .null, .int 0], zI ω b1 6, zI ω b2 6, zI ω b3 24, zI ω b4 36, zI ω b5 160, zI ω b6 1200, zI ω b7 24, zI ω b8 60, zI ω b9 3, fI ω b10 4 mSort 4, zI ω b11 4, zI ω b12 160, fI ω b13 26 mLaw 26, fI ω b14 96 mWords 79]) dX7_init_746 rfl rfl rfl (Nat.le_of_ble_eq_true rfl) (Nat.le_of_ble_eq_true rfl) rfl (q := 747) rfl ?_
  refine n_dup C dX7_init_747 rfl (q := 748) rfl ?_
  refine n_bipush C dX7_init_748 b8_79 (q := 750) rfl ?_
  refine n_bipush C dX7_init_750 b8_32 (q := 752) rfl ?_
  refine n_fill C (k := 14) (n := 96) (j := 79) (Ls := mWords) (ms' := [oO a 5 [.int 0, .ref b1, .ref b2, .ref b3, .ref b4, .int 0, .ref b5, .int 0, .ref b6, .ref b7, .int 0, .int 0, .int 0, .ref b8, .ref b9, .ref b10, .ref b11, .ref b12, .ref b13, .int 0, .int 0, .int 0, .int 0, .null, .null, .int 0, .int 0, .int 0, .null, .null, .null, .int 0], zI ω b1 6, zI ω b2 6, zI ω b3 24, zI ω b4 36, zI ω b5 160, zI ω b6 1200, zI ω b7 24, zI ω b8 60, zI ω b9 3, fI ω b10 4 mSort 4, zI ω b11 4, zI ω b12 160, fI ω b13 26 mLaw 26, fI ω b14 96 mWords 80]) dX7_init_752 rfl rfl rfl (Nat.le_of_ble_eq_true rfl) (Nat.le_of_ble_eq_true rfl) rfl (q := 753) rfl ?_
  refine n_dup C dX7_init_753 rfl (q := 754) rfl ?_
  refine n_bipush C dX7_init_754 b8_80 (q := 756) rfl ?_
  refine n_bipush C dX7_init_756 b8_97 (q := 758) rfl ?_
  refine n_fill C (k := 14) (n := 96) (j := 80) (Ls := mWords) (ms' := [oO a 5 [.int 0, .ref b1, .ref b2, .ref b3, .ref b4, .int 0, .ref b5, .int 0, .ref b6, .ref b7, .int 0, .int 0, .int 0, .ref b8, .ref b9, .ref b10, .ref b11, .ref b12, .ref b13, .int 0, .int 0, .int 0, .int 0, .null, .null, .int 0, .int 0, .int 0, .null, .null, .null, .int 0], zI ω b1 6, zI ω b2 6, zI ω b3 24, zI ω b4 36, zI ω b5 160, zI ω b6 1200, zI ω b7 24, zI ω b8 60, zI ω b9 3, fI ω b10 4 mSort 4, zI ω b11 4, zI ω b12 160, fI ω b13 26 mLaw 26, fI ω b14 96 mWords 81]) dX7_init_758 rfl rfl rfl (Nat.le_of_ble_eq_true rfl) (Nat.le_of_ble_eq_true rfl) rfl (q := 759) rfl ?_
  refine n_dup C dX7_init_759 rfl (q := 760) rfl ?_
  refine n_bipush C dX7_init_760 b8_81 (q := 762) rfl ?_
  refine n_bipush C dX7_init_762 b8_110 (q := 764) rfl ?_
  refine n_fill C (k := 14) (n := 96) (j := 81) (Ls := mWords) (ms' := [oO a 5 [.int 0, .ref b1, .ref b2, .ref b3, .ref b4, .int 0, .ref b5, .int 0, .ref b6, .ref b7, .int 0, .int 0, .int 0, .ref b8, .ref b9, .ref b10, .ref b11, .ref b12, .ref b13, .int 0, .int 0, .int 0, .int 0, .null, .null, .int 0, .int 0, .int 0, .null, .null, .null, .int 0], zI ω b1 6, zI ω b2 6, zI ω b3 24, zI ω b4 36, zI ω b5 160, zI ω b6 1200, zI ω b7 24, zI ω b8 60, zI ω b9 3, fI ω b10 4 mSort 4, zI ω b11 4, zI ω b12 160, fI ω b13 26 mLaw 26, fI ω b14 96 mWords 82]) dX7_init_764 rfl rfl rfl (Nat.le_of_ble_eq_true rfl) (Nat.le_of_ble_eq_true rfl) rfl (q := 765) rfl ?_
  refine n_dup C dX7_init_765 rfl (q := 766) rfl ?_
  refine n_bipush C dX7_init_766 b8_82 (q := 768) rfl ?_
  refine n_bipush C dX7_init_768 b8_100 (q := 770) rfl ?_
  refine n_fill C (k := 14) (n := 96) (j := 82) (Ls := mWords) (ms' := [oO a 5 [.int 0, .ref b1, .ref b2, .ref b3, .ref b4, .int 0, .ref b5, .int 0, .ref b6, .ref b7, .int 0, .int 0, .int 0, .ref b8, .ref b9, .ref b10, .ref b11, .ref b12, .ref b13, .int 0, .int 0, .int 0, .int 0, .null, .null, .int 0, .int 0, .int 0, .null, .null, .null, .int 0], zI ω b1 6, zI ω b2 6, zI ω b3 24, zI ω b4 36, zI ω b5 160, zI ω b6 1200, zI ω b7 24, zI ω b8 60, zI ω b9 3, fI ω b10 4 mSort 4, zI ω b11 4, zI ω b12 160, fI ω b13 26 mLaw 26, fI ω b14 96 mWords 83]) dX7_init_770 rfl rfl rfl (Nat.le_of_ble_eq_true rfl) (Nat.le_of_ble_eq_true rfl) rfl (q := 771) rfl ?_
  refine n_dup C dX7_init_771 rfl (q := 772) rfl ?_
  refine n_bipush C dX7_init_772 b8_83 (q := 774) rfl ?_
  refine n_bipush C dX7_init_774 b8_32 (q := 776) rfl ?_
  refine n_fill C (k := 14) (n := 96) (j := 83) (Ls := mWords) (ms' := [oO a 5 [.int 0, .ref b1, .ref b2, .ref b3, .ref b4, .int 0, .ref b5, .int 0, .ref b6, .ref b7, .int 0, .int 0, .int 0, .ref b8, .ref b9, .ref b10, .ref b11, .ref b12, .ref b13, .int 0, .int 0, .int 0, .int 0, .null, .null, .int 0, .int 0, .int 0, .null, .null, .null, .int 0], zI ω b1 6, zI ω b2 6, zI ω b3 24, zI ω b4 36, zI ω b5 160, zI ω b6 1200, zI ω b7 24, zI ω b8 60, zI ω b9 3, fI ω b10 4 mSort 4, zI ω b11 4, zI ω b12 160, fI ω b13 26 mLaw 26, fI ω b14 96 mWords 84]) dX7_init_776 rfl rfl rfl (Nat.le_of_ble_eq_true rfl) (Nat.le_of_ble_eq_true rfl) rfl (q := 777) rfl ?_
  refine n_dup C dX7_init_777 rfl (q := 778) rfl ?_
  refine n_bipush C dX7_init_778 b8_84 (q := 780) rfl ?_
  refine n_bipush C dX7_init_780 b8_32 (q := 782) rfl ?_
  refine n_fill C (k := 14) (n := 96) (j := 84) (Ls := mWords) (ms' := [oO a 5 [.int 0, .ref b1, .ref b2, .ref b3, .ref b4, .int 0, .ref b5, .int 0, .ref b6, .ref b7, .int 0, .int 0, .int 0, .ref b8, .ref b9, .ref b10, .ref b11, .ref b12, .ref b13, .int 0, .int 0, .int 0, .int 0, .null, .null, .int 0, .int 0, .int 0, .null, .null, .null, .int 0], zI ω b1 6, zI ω b2 6, zI ω b3 24, zI ω b4 36, zI ω b5 160, zI ω b6 1200, zI ω b7 24, zI ω b8 60, zI ω b9 3, fI ω b10 4 mSort 4, zI ω b11 4, zI ω b12 160, fI ω b13 26 mLaw 26, fI ω b14 96 mWords 85]) dX7_init_782 rfl rfl rfl (Nat.le_of_ble_eq_true rfl) (Nat.le_of_ble_eq_true rfl) rfl (q := 783) rfl ?_
  refine n_dup C dX7_init_783 rfl (q := 784) rfl ?_
  refine n_bipush C dX7_init_784 b8_85 (q := 786) rfl ?_
  refine n_bipush C dX7_init_786 b8_32 (q := 788) rfl ?_
  refine n_fill C (k := 14) (n := 96) (j := 85) (Ls := mWords) (ms' := [oO a 5 [.int 0, .ref b1, .ref b2, .ref b3, .ref b4, .int 0, .ref b5, .int 0, .ref b6, .ref b7, .int 0, .int 0, .int 0, .ref b8, .ref b9, .ref b10, .ref b11, .ref b12, .ref b13, .int 0, .int 0, .int 0, .int 0, .null, .null, .int 0, .int 0, .int 0, .null, .null, .null, .int 0], zI ω b1 6, zI ω b2 6, zI ω b3 24, zI ω b4 36, zI ω b5 160, zI ω b6 1200, zI ω b7 24, zI ω b8 60, zI ω b9 3, fI ω b10 4 mSort 4, zI ω b11 4, zI ω b12 160, fI ω b13 26 mLaw 26, fI ω b14 96 mWords 86]) dX7_init_788 rfl rfl rfl (Nat.le_of_ble_eq_true rfl) (Nat.le_of_ble_eq_true rfl) rfl (q := 789) rfl ?_
  refine n_dup C dX7_init_789 rfl (q := 790) rfl ?_
  refine n_bipush C dX7_init_790 b8_86 (q := 792) rfl ?_
  refine n_bipush C dX7_init_792 b8_32 (q := 794) rfl ?_
  refine n_fill C (k := 14) (n := 96) (j := 86) (Ls := mWords) (ms' := [oO a 5 [.int 0, .ref b1, .ref b2, .ref b3, .ref b4, .int 0, .ref b5, .int 0, .ref b6, .ref b7, .int 0, .int 0, .int 0, .ref b8, .ref b9, .ref b10, .ref b11, .ref b12, .ref b13, .int 0, .int 0, .int 0, .int 0, .null, .null, .int 0, .int 0, .int 0, .null, .null, .null, .int 0], zI ω b1 6, zI ω b2 6, zI ω b3 24, zI ω b4 36, zI ω b5 160, zI ω b6 1200, zI ω b7 24, zI ω b8 60, zI ω b9 3, fI ω b10 4 mSort 4, zI ω b11 4, zI ω b12 160, fI ω b13 26 mLaw 26, fI ω b14 96 mWords 87]) dX7_init_794 rfl rfl rfl (Nat.le_of_ble_eq_true rfl) (Nat.le_of_ble_eq_true rfl) rfl (q := 795) rfl ?_
  refine n_dup C dX7_init_795 rfl (q := 796) rfl ?_
  refine n_bipush C dX7_init_796 b8_87 (q := 798) rfl ?_
  refine n_bipush C dX7_init_798 b8_32 (q := 800) rfl ?_
  refine n_fill C (k := 14) (n := 96) (j := 87) (Ls := mWords) (ms' := [oO a 5 [.int 0, .ref b1, .ref b2, .ref b3, .ref b4, .int 0, .ref b5, .int 0, .ref b6, .ref b7, .int 0, .int 0, .int 0, .ref b8, .ref b9, .ref b10, .ref b11, .ref b12, .ref b13, .int 0, .int 0, .int 0, .int 0, .null, .null, .int 0, .int 0, .int 0, .null, .null, .null, .int 0], zI ω b1 6, zI ω b2 6, zI ω b3 24, zI ω b4 36, zI ω b5 160, zI ω b6 1200, zI ω b7 24, zI ω b8 60, zI ω b9 3, fI ω b10 4 mSort 4, zI ω b11 4, zI ω b12 160, fI ω b13 26 mLaw 26, fI ω b14 96 mWords 88]) dX7_init_800 rfl rfl rfl (Nat.le_of_ble_eq_true rfl) (Nat.le_of_ble_eq_true rfl) rfl (q := 801) rfl ?_
  refine n_dup C dX7_init_801 rfl (q := 802) rfl ?_
  refine n_bipush C dX7_init_802 b8_88 (q := 804) rfl ?_
  refine n_bipush C dX7_init_804 b8_110 (q := 806) rfl ?_
  refine n_fill C (k := 14) (n := 96) (j := 88) (Ls := mWords) (ms' := [oO a 5 [.int 0, .ref b1, .ref b2, .ref b3, .ref b4, .int 0, .ref b5, .int 0, .ref b6, .ref b7, .int 0, .int 0, .int 0, .ref b8, .ref b9, .ref b10, .ref b11, .ref b12, .ref b13, .int 0, .int 0, .int 0, .int 0, .null, .null, .int 0, .int 0, .int 0, .null, .null, .null, .int 0], zI ω b1 6, zI ω b2 6, zI ω b3 24, zI ω b4 36, zI ω b5 160, zI ω b6 1200, zI ω b7 24, zI ω b8 60, zI ω b9 3, fI ω b10 4 mSort 4, zI ω b11 4, zI ω b12 160, fI ω b13 26 mLaw 26, fI ω b14 96 mWords 89]) dX7_init_806 rfl rfl rfl (Nat.le_of_ble_eq_true rfl) (Nat.le_of_ble_eq_true rfl) rfl (q := 807) rfl ?_
  refine n_dup C dX7_init_807 rfl (q := 808) rfl ?_
  refine n_bipush C dX7_init_808 b8_89 (q := 810) rfl ?_
  refine n_bipush C dX7_init_810 b8_111 (q := 812) rfl ?_
  refine n_fill C (k := 14) (n := 96) (j := 89) (Ls := mWords) (ms' := [oO a 5 [.int 0, .ref b1, .ref b2, .ref b3, .ref b4, .int 0, .ref b5, .int 0, .ref b6, .ref b7, .int 0, .int 0, .int 0, .ref b8, .ref b9, .ref b10, .ref b11, .ref b12, .ref b13, .int 0, .int 0, .int 0, .int 0, .null, .null, .int 0, .int 0, .int 0, .null, .null, .null, .int 0], zI ω b1 6, zI ω b2 6, zI ω b3 24, zI ω b4 36, zI ω b5 160, zI ω b6 1200, zI ω b7 24, zI ω b8 60, zI ω b9 3, fI ω b10 4 mSort 4, zI ω b11 4, zI ω b12 160, fI ω b13 26 mLaw 26, fI ω b14 96 mWords 90]) dX7_init_812 rfl rfl rfl (Nat.le_of_ble_eq_true rfl) (Nat.le_of_ble_eq_true rfl) rfl (q := 813) rfl ?_
  refine n_dup C dX7_init_813 rfl (q := 814) rfl ?_
  refine n_bipush C dX7_init_814 b8_90 (q := 816) rfl ?_
  refine n_bipush C dX7_init_816 b8_116 (q := 818) rfl ?_
  refine n_fill C (k := 14) (n := 96) (j := 90) (Ls := mWords) (ms' := [oO a 5 [.int 0, .ref b1, .ref b2, .ref b3, .ref b4, .int 0, .ref b5, .int 0, .ref b6, .ref b7, .int 0, .int 0, .int 0, .ref b8, .ref b9, .ref b10, .ref b11, .ref b12, .ref b13, .int 0, .int 0, .int 0, .int 0, .null, .null, .int 0, .int 0, .int 0, .null, .null, .null, .int 0], zI ω b1 6, zI ω b2 6, zI ω b3 24, zI ω b4 36, zI ω b5 160, zI ω b6 1200, zI ω b7 24, zI ω b8 60, zI ω b9 3, fI ω b10 4 mSort 4, zI ω b11 4, zI ω b12 160, fI ω b13 26 mLaw 26, fI ω b14 96 mWords 91]) dX7_init_818 rfl rfl rfl (Nat.le_of_ble_eq_true rfl) (Nat.le_of_ble_eq_true rfl) rfl (q := 819) rfl ?_
  refine n_dup C dX7_init_819 rfl (q := 820) rfl ?_
  refine n_bipush C dX7_init_820 b8_91 (q := 822) rfl ?_
  refine n_bipush C dX7_init_822 b8_32 (q := 824) rfl ?_
  refine n_fill C (k := 14) (n := 96) (j := 91) (Ls := mWords) (ms' := [oO a 5 [.int 0, .ref b1, .ref b2, .ref b3, .ref b4, .int 0, .ref b5, .int 0, .ref b6, .ref b7, .int 0, .int 0, .int 0, .ref b8, .ref b9, .ref b10, .ref b11, .ref b12, .ref b13, .int 0, .int 0, .int 0, .int 0, .null, .null, .int 0, .int 0, .int 0, .null, .null, .null, .int 0], zI ω b1 6, zI ω b2 6, zI ω b3 24, zI ω b4 36, zI ω b5 160, zI ω b6 1200, zI ω b7 24, zI ω b8 60, zI ω b9 3, fI ω b10 4 mSort 4, zI ω b11 4, zI ω b12 160, fI ω b13 26 mLaw 26, fI ω b14 96 mWords 92]) dX7_init_824 rfl rfl rfl (Nat.le_of_ble_eq_true rfl) (Nat.le_of_ble_eq_true rfl) rfl (q := 825) rfl ?_
  refine n_dup C dX7_init_825 rfl (q := 826) rfl ?_
  refine n_bipush C dX7_init_826 b8_92 (q := 828) rfl ?_
  refine n_bipush C dX7_init_828 b8_32 (q := 830) rfl ?_
  refine n_fill C (k := 14) (n := 96) (j := 92) (Ls := mWords) (ms' := [oO a 5 [.int 0, .ref b1, .ref b2, .ref b3, .ref b4, .int 0, .ref b5, .int 0, .ref b6, .ref b7, .int 0, .int 0, .int 0, .ref b8, .ref b9, .ref b10, .ref b11, .ref b12, .ref b13, .int 0, .int 0, .int 0, .int 0, .null, .null, .int 0, .int 0, .int 0, .null, .null, .null, .int 0], zI ω b1 6, zI ω b2 6, zI ω b3 24, zI ω b4 36, zI ω b5 160, zI ω b6 1200, zI ω b7 24, zI ω b8 60, zI ω b9 3, fI ω b10 4 mSort 4, zI ω b11 4, zI ω b12 160, fI ω b13 26 mLaw 26, fI ω b14 96 mWords 93]) dX7_init_830 rfl rfl rfl (Nat.le_of_ble_eq_true rfl) (Nat.le_of_ble_eq_true rfl) rfl (q := 831) rfl ?_
  refine n_dup C dX7_init_831 rfl (q := 832) rfl ?_
  refine n_bipush C dX7_init_832 b8_93 (q := 834) rfl ?_
  refine n_bipush C dX7_init_834 b8_32 (q := 836) rfl ?_
  refine n_fill C (k := 14) (n := 96) (j := 93) (Ls := mWords) (ms' := [oO a 5 [.int 0, .ref b1, .ref b2, .ref b3, .ref b4, .int 0, .ref b5, .int 0, .ref b6, .ref b7, .int 0, .int 0, .int 0, .ref b8, .ref b9, .ref b10, .ref b11, .ref b12, .ref b13, .int 0, .int 0, .int 0, .int 0, .null, .null, .int 0, .int 0, .int 0, .null, .null, .null, .int 0], zI ω b1 6, zI ω b2 6, zI ω b3 24, zI ω b4 36, zI ω b5 160, zI ω b6 1200, zI ω b7 24, zI ω b8 60, zI ω b9 3, fI ω b10 4 mSort 4, zI ω b11 4, zI ω b12 160, fI ω b13 26 mLaw 26, fI ω b14 96 mWords 94]) dX7_init_836 rfl rfl rfl (Nat.le_of_ble_eq_true rfl) (Nat.le_of_ble_eq_true rfl) rfl (q := 837) rfl ?_
  refine n_dup C dX7_init_837 rfl (q := 838) rfl ?_
  refine n_bipush C dX7_init_838 b8_94 (q := 840) rfl ?_
  refine n_bipush C dX7_init_840 b8_32 (q := 842) rfl ?_
  refine n_fill C (k := 14) (n := 96) (j := 94) (Ls := mWords) (ms' := [oO a 5 [.int 0, .ref b1, .ref b2, .ref b3, .ref b4, .int 0, .ref b5, .int 0, .ref b6, .ref b7, .int 0, .int 0, .int 0, .ref b8, .ref b9, .ref b10, .ref b11, .ref b12, .ref b13, .int 0, .int 0, .int 0, .int 0, .null, .null, .int 0, .int 0, .int 0, .null, .null, .null, .int 0], zI ω b1 6, zI ω b2 6, zI ω b3 24, zI ω b4 36, zI ω b5 160, zI ω b6 1200, zI ω b7 24, zI ω b8 60, zI ω b9 3, fI ω b10 4 mSort 4, zI ω b11 4, zI ω b12 160, fI ω b13 26 mLaw 26, fI ω b14 96 mWords 95]) dX7_init_842 rfl rfl rfl (Nat.le_of_ble_eq_true rfl) (Nat.le_of_ble_eq_true rfl) rfl (q := 843) rfl ?_
  refine n_dup C dX7_init_843 rfl (q := 844) rfl ?_
  refine n_bipush C dX7_init_844 b8_95 (q := 846) rfl ?_
  refine n_bipush C dX7_init_846 b8_32 (q := 848) rfl ?_
  refine n_fill C (k := 14) (n := 96) (j := 95) (Ls := mWords) (ms' := [oO a 5 [.int 0, .ref b1, .ref b2, .ref b3, .ref b4, .int 0, .ref b5, .int 0, .ref b6, .ref b7, .int 0, .int 0, .int 0, .ref b8, .ref b9, .ref b10, .ref b11, .ref b12, .ref b13, .int 0, .int 0, .int 0, .int 0, .null, .null, .int 0, .int 0, .int 0, .null, .null, .null, .int 0], zI ω b1 6, zI ω b2 6, zI ω b3 24, zI ω b4 36, zI ω b5 160, zI ω b6 1200, zI ω b7 24, zI ω b8 60, zI ω b9 3, fI ω b10 4 mSort 4, zI ω b11 4, zI ω b12 160, fI ω b13 26 mLaw 26, fI ω b14 96 mWords 96]) dX7_init_848 rfl rfl rfl (Nat.le_of_ble_eq_true rfl) (Nat.le_of_ble_eq_true rfl) rfl (q := 849) rfl ?_
  refine n_putF C (k := 0) (j := 23) (ci := 5) (T := TX7) (N := 32) (ms' := [oO a 5 [.int 0, .ref b1, .ref b2, .ref b3, .ref b4, .int 0, .ref b5, .int 0, .ref b6, .ref b7, .int 0, .int 0, .int 0, .ref b8, .ref b9, .ref b10, .ref b11, .ref b12, .ref b13, .int 0, .int 0, .int 0, .int 0, .ref b14, .null, .int 0, .int 0, .int 0, .null, .null, .null, .int 0], zI ω b1 6, zI ω b2 6, zI ω b3 24, zI ω b4 36, zI ω b5 160, zI ω b6 1200, zI ω b7 24, zI ω b8 60, zI ω b9 3, fI ω b10 4 mSort 4, zI ω b11 4, zI ω b12 160, fI ω b13 26 mLaw 26, fI ω b14 96 mWords 96]) hini dX7_init_849 rfl rfl (by decide) in_X7 wc_785_701b tyX7_ok nmX7 rfl rfl rfl rfl rfl (Nat.le_of_ble_eq_true rfl) rfl (q := 852) rfl ?_
  exact kk

set_option maxHeartbeats 4000000 in
set_option maxRecDepth 100000 in
theorem sg7_6 {κ : Kx} {ω : Om} {Q : State → Prop} {pre : va_W} (C : CN κ ω cX7_init 2 6 yX7_init.cls 18 2276) (hini : κ.2.2.2.2.2.2.2.2.1.name = "<init>") {a b1 b2 b3 b4 b5 b6 b7 b8 b9 b10 b11 b12 b13 b14 : Nat} (kk : ∀ b15 b16 b17 b18 : Nat, EN κ ω 2 Q pre [oO a 5 [.int 0, .ref b1, .ref b2, .ref b3, .ref b4, .int 0, .ref b5, .int 0, .ref b6, .ref b7, .int 0, .int 0, .int 0, .ref b8, .ref b9, .ref b10, .ref b11, .ref b12, .ref b13, .int 0, .int 0, .int 0, .int 0, .ref b14, .ref b15, .int 0, .int 0, .int 0, .ref b16, .ref b17, .ref b18, .int 0], zI ω b1 6, zI ω b2 6, zI ω b3 24, zI ω b4 36, zI ω b5 160, zI ω b6 1200, zI ω b7 24, zI ω b8 60, zI ω b9 3, fI ω b10 4 mSort 4, zI ω b11 4, zI ω b12 160, fI ω b13 26 mLaw 26, fI ω b14 96 mWords 96, zI ω b15 200, zI ω b16 200, zI ω b17 6, zI ω b18 61] 18 2276 888 [(1, .int (0 : Int32)), (0, .ref a)] []) : EN κ ω 2 Q pre [oO a 5 [.int 0, .ref b1, .ref b2, .ref b3, .ref b4, .int 0, .ref b5, .int 0, .ref b6, .ref b7, .int 0, .int 0, .int 0, .ref b8, .ref b9, .ref b10, .ref b11, .ref b12, .ref b13, .int 0, .int 0, .int 0, .int 0, .ref b14, .null, .int 0, .int 0, .int 0, .null, .null, .null, .int 0], zI ω b1 6, zI ω b2 6, zI ω b3 24, zI ω b4 36, zI ω b5 160, zI ω b6 1200, zI ω b7 24, zI ω b8 60, zI ω b9 3, fI ω b10 4 mSort 4, zI ω b11 4, zI ω b12 160, fI ω b13 26 mLaw 26, fI ω b14 96 mWords 96] 14 1809 852 [(0, .ref a)] [] := by
  refine n_aload_n C dX7_init_852 rfl 0 rfl (q := 853) rfl ?_
  refine n_sipush C dX7_init_853 b16_200 (q := 856) rfl ?_
  refine n_newI C (N := 200) dX7_init_856 wc_137_faec (by decide) (by decide) (Nat.le_of_ble_eq_true rfl) (Nat.le_of_ble_eq_true rfl) (Nat.le_of_ble_eq_true rfl) (q := 858) rfl (fun b15 => ?_)
  show EN κ ω 2 _ _ [oO a 5 [.int 0, .ref b1, .ref b2, .ref b3, .ref b4, .int 0, .ref b5, .int 0, .ref b6, .ref b7, .int 0, .int 0, .int 0, .ref b8, .ref b9, .ref b10, .ref b11, .ref b12, .ref b13, .int 0, .int 0, .int 0, .int 0, .ref b14, .null, .int 0, .int 0, .int 0, .null, .null, .null, .int 0], zI ω b1 6, zI ω b2 6, zI ω b3 24, zI ω b4 36, zI ω b5 160, zI ω b6 1200, zI ω b7 24, zI ω b8 60, zI ω b9 3, fI ω b10 4 mSort 4, zI ω b11 4, zI ω b12 160, fI ω b13 26 mLaw 26, fI ω b14 96 mWords 96, zI ω b15 200] 15 2009 858 [(0, .ref a)] [.ref b15, .ref a]
  refine n_putF C (k := 0) (j := 24) (ci := 5) (T := TX7) (N := 32) (ms' := [oO a 5 [.int 0, .ref b1, .ref b2, .ref b3, .ref b4, .int 0, .ref b5, .int 0, .ref b6, .ref b7, .int 0, .int 0, .int 0, .ref b8, .ref b9, .ref b10, .ref b11, .ref b12, .ref b13, .int 0, .int 0, .int 0, .int 0, .ref b14, .ref b15, .int 0, .int 0, .int 0, .null, .null, .null, .int 0], zI ω b1 6, zI ω b2 6, zI ω b3 24, zI ω b4 36, zI ω b5 160, zI ω b6 1200, zI ω b7 24, zI ω b8 60, zI ω b9 3, fI ω b10 4 mSort 4, zI ω b11 4, zI ω b12 160, fI ω b13 26 mLaw 26, fI ω b14 96 mWords 96, zI ω b15 200]) hini dX7_init_858 rfl rfl (by decide) in_X7 wc_786_8650 tyX7_ok nmX7 rfl rfl rfl rfl rfl (Nat.le_of_ble_eq_true rfl) rfl (q := 861) rfl ?_
  refine n_aload_n C dX7_init_861 rfl 0 rfl (q := 862) rfl ?_
  refine n_sipush C dX7_init_862 b16_200 (q := 865) rfl ?_
  refine n_newI C (N := 200) dX7_init_865 wc_137_faec (by decide) (by decide) (Nat.le_of_ble_eq_true rfl) (Nat.le_of_ble_eq_true rfl) (Nat.le_of_ble_eq_true rfl) (q := 867) rfl (fun b16 => ?_)
  show EN κ ω 2 _ _ [oO a 5 [.int 0, .ref b1, .ref b2, .ref b3, .ref b4, .int 0, .ref b5, .int 0, .ref b6, .ref b7, .int 0, .int 0, .int 0, .ref b8, .ref b9, .ref b10, .ref b11, .ref b12, .ref b13, .int 0, .int 0, .int 0, .int 0, .ref b14, .ref b15, .int 0, .int 0, .int 0, .null, .null, .null, .int 0], zI ω b1 6, zI ω b2 6, zI ω b3 24, zI ω b4 36, zI ω b5 160, zI ω b6 1200, zI ω b7 24, zI ω b8 60, zI ω b9 3, fI ω b10 4 mSort 4, zI ω b11 4, zI ω b12 160, fI ω b13 26 mLaw 26, fI ω b14 96 mWords 96, zI ω b15 200, zI ω b16 200] 16 2209 867 [(0, .ref a)] [.ref b16, .ref a]
  refine n_putF C (k := 0) (j := 28) (ci := 5) (T := TX7) (N := 32) (ms' := [oO a 5 [.int 0, .ref b1, .ref b2, .ref b3, .ref b4, .int 0, .ref b5, .int 0, .ref b6, .ref b7, .int 0, .int 0, .int 0, .ref b8, .ref b9, .ref b10, .ref b11, .ref b12, .ref b13, .int 0, .int 0, .int 0, .int 0, .ref b14, .ref b15, .int 0, .int 0, .int 0, .ref b16, .null, .null, .int 0], zI ω b1 6, zI ω b2 6, zI ω b3 24, zI ω b4 36, zI ω b5 160, zI ω b6 1200, zI ω b7 24, zI ω b8 60, zI ω b9 3, fI ω b10 4 mSort 4, zI ω b11 4, zI ω b12 160, fI ω b13 26 mLaw 26, fI ω b14 96 mWords 96, zI ω b15 200, zI ω b16 200]) hini dX7_init_867 rfl rfl (by decide) in_X7 wc_790_0e8a tyX7_ok nmX7 rfl rfl rfl rfl rfl (Nat.le_of_ble_eq_true rfl) rfl (q := 870) rfl ?_
  refine n_aload_n C dX7_init_870 rfl 0 rfl (q := 871) rfl ?_
  refine n_bipush C dX7_init_871 b8_6 (q := 873) rfl ?_
  refine n_newI C (N := 6) dX7_init_873 wc_137_faec (by decide) (by decide) (Nat.le_of_ble_eq_true rfl) (Nat.le_of_ble_eq_true rfl) (Nat.le_of_ble_eq_true rfl) (q := 875) rfl (fun b17 => ?_)
  show EN κ ω 2 _ _ [oO a 5 [.int 0, .ref b1, .ref b2, .ref b3, .ref b4, .int 0, .ref b5, .int 0, .ref b6, .ref b7, .int 0, .int 0, .int 0, .ref b8, .ref b9, .ref b10, .ref b11, .ref b12, .ref b13, .int 0, .int 0, .int 0, .int 0, .ref b14, .ref b15, .int 0, .int 0, .int 0, .ref b16, .null, .null, .int 0], zI ω b1 6, zI ω b2 6, zI ω b3 24, zI ω b4 36, zI ω b5 160, zI ω b6 1200, zI ω b7 24, zI ω b8 60, zI ω b9 3, fI ω b10 4 mSort 4, zI ω b11 4, zI ω b12 160, fI ω b13 26 mLaw 26, fI ω b14 96 mWords 96, zI ω b15 200, zI ω b16 200, zI ω b17 6] 17 2215 875 [(0, .ref a)] [.ref b17, .ref a]
  refine n_putF C (k := 0) (j := 29) (ci := 5) (T := TX7) (N := 32) (ms' := [oO a 5 [.int 0, .ref b1, .ref b2, .ref b3, .ref b4, .int 0, .ref b5, .int 0, .ref b6, .ref b7, .int 0, .int 0, .int 0, .ref b8, .ref b9, .ref b10, .ref b11, .ref b12, .ref b13, .int 0, .int 0, .int 0, .int 0, .ref b14, .ref b15, .int 0, .int 0, .int 0, .ref b16, .ref b17, .null, .int 0], zI ω b1 6, zI ω b2 6, zI ω b3 24, zI ω b4 36, zI ω b5 160, zI ω b6 1200, zI ω b7 24, zI ω b8 60, zI ω b9 3, fI ω b10 4 mSort 4, zI ω b11 4, zI ω b12 160, fI ω b13 26 mLaw 26, fI ω b14 96 mWords 96, zI ω b15 200, zI ω b16 200, zI ω b17 6]) hini dX7_init_875 rfl rfl (by decide) in_X7 wc_791_f3f1 tyX7_ok nmX7 rfl rfl rfl rfl rfl (Nat.le_of_ble_eq_true rfl) rfl (q := 878) rfl ?_
  refine n_aload_n C dX7_init_878 rfl 0 rfl (q := 879) rfl ?_
  refine n_bipush C dX7_init_879 b8_61 (q := 881) rfl ?_
  refine n_newI C (N := 61) dX7_init_881 wc_137_faec (by decide) (by decide) (Nat.le_of_ble_eq_true rfl) (Nat.le_of_ble_eq_true rfl) (Nat.le_of_ble_eq_true rfl) (q := 883) rfl (fun b18 => ?_)
  show EN κ ω 2 _ _ [oO a 5 [.int 0, .ref b1, .ref b2, .ref b3, .ref b4, .int 0, .ref b5, .int 0, .ref b6, .ref b7, .int 0, .int 0, .int 0, .ref b8, .ref b9, .ref b10, .ref b11, .ref b12, .ref b13, .int 0, .int 0, .int 0, .int 0, .ref b14, .ref b15, .int 0, .int 0, .int 0, .ref b16, .ref b17, .null, .int 0], zI ω b1 6, zI ω b2 6, zI ω b3 24, zI ω b4 36, zI ω b5 160, zI ω b6 1200, zI ω b7 24, zI ω b8 60, zI ω b9 3, fI ω b10 4 mSort 4, zI ω b11 4, zI ω b12 160, fI ω b13 26 mLaw 26, fI ω b14 96 mWords 96, zI ω b15 200, zI ω b16 200, zI ω b17 6, zI ω b18 61] 18 2276 883 [(0, .ref a)] [.ref b18, .ref a]
  refine n_putF C (k := 0) (j := 30) (ci := 5) (T := TX7) (N := 32) (ms' := [oO a 5 [.int 0, .ref b1, .ref b2, .ref b3, .ref b4, .int 0, .ref b5, .int 0, .ref b6, .ref b7, .int 0, .int 0, .int 0, .ref b8, .ref b9, .ref b10, .ref b11, .ref b12, .ref b13, .int 0, .int 0, .int 0, .int 0, .ref b14, .ref b15, .int 0, .int 0, .int 0, .ref b16, .ref b17, .ref b18, .int 0], zI ω b1 6, zI ω b2 6, zI ω b3 24, zI ω b4 36, zI ω b5 160, zI ω b6 1200, zI ω b7 24, zI ω b8 60, zI ω b9 3, fI ω b10 4 mSort 4, zI ω b11 4, zI ω b12 160, fI ω b13 26 mLaw 26, fI ω b14 96 mWords 96, zI ω b15 200, zI ω b16 200, zI ω b17 6, zI ω b18 61]) hini dX7_init_883 rfl rfl (by decide) in_X7 wc_792_85cb tyX7_ok nmX7 rfl rfl rfl rfl rfl (Nat.le_of_ble_eq_true rfl) rfl (q := 886) rfl ?_
  refine n_iconst C dX7_init_886 ic_0 (q := 887) rfl ?_
  refine n_istore_n C (lv1 := [(1, .int (0 : Int32)), (0, .ref a)]) dX7_init_887 rfl (Nat.le_of_ble_eq_true rfl) rfl (q := 888) rfl ?_
  exact kk b15 b16 b17 b18

set_option maxHeartbeats 4000000 in
set_option maxRecDepth 100000 in
theorem x_X7_init {l : Launch} {ω : Om} (a : Nat) (u : Nat → Nat) {I6 K : Mem} (h26 : I6 26 6 = 1) (hI : f_X7_init_b888 FU 0 (mM I6) = some ((), K)) : CTn l ω yX7_init cX7_init 2 6 18 2276 [.ref a] ([oO a 5 [.int 0, .null, .null, .null, .null, .int 0, .null, .int 0, .null, .null, .int 0, .int 0, .int 0, .null, .null, .null, .null, .null, .null, .int 0, .int 0, .int 0, .int 0, .null, .null, .int 0, .int 0, .int 0, .null, .null, .null, .int 0]] ++ WL (oW ω u 56) I6) (fun _ => True) (fun v => WL (oW ω (pin 56 a (pin 0 (u 0) v)) 75) K) := by
  refine ct_n (by decide) rfl (Nat.le_of_ble_eq_true rfl) ?_
  intro κ hlau hret hini _ C
  show EN κ ω 2 _ _ [oO a 5 [.int 0, .null, .null, .null, .null, .int 0, .null, .int 0, .null, .null, .int 0, .int 0, .int 0, .null, .null, .null, .null, .null, .null, .int 0, .int 0, .int 0, .int 0, .null, .null, .int 0, .int 0, .int 0, .null, .null, .null, .int 0]] 0 0 0 [(0, .ref a)] []
  refine sg7_0 C hini (fun b1 b2 b3 b4 b5 b6 b7 b8 b9 b10 b11 b12 => ?_)
  refine sg7_1 C hini (fun b13 => ?_)
  refine sg7_2 C hini (fun b14 => ?_)
  refine sg7_3 C hini (?_)
  refine sg7_4 C hini (?_)
  refine sg7_5 C hini (?_)
  refine sg7_6 C hini (fun b15 b16 b17 b18 => ?_)
  refine en_ee C (fun k => if k < 56 then u k else ([a, b1, b2, b3, b4, b5, b6, b7, b8, b9, b10, b11, b12, b13, b14, b15, b16, b17, b18] : List Nat).getD (k - 56) 0) 75 hI (Nat.le_of_ble_eq_true rfl) (Nat.le_of_ble_eq_true rfl) (fun H h => ?_) (fun t => gv_gn (fun k => if k < 56 then u k else ([a, b1, b2, b3, b4, b5, b6, b7, b8, b9, b10, b11, b12, b13, b14, b15, b16, b17, b18] : List Nat).getD (k - 56) 0) (n := 75) (by rw [pin_id (k := 0) (u := fun k => if k < 56 then u k else ([a, b1, b2, b3, b4, b5, b6, b7, b8, b9, b10, b11, b12, b13, b14, b15, b16, b17, b18] : List Nat).getD (k - 56) 0) (if_pos (by decide)), pin_id]; rfl) t) (e_lv [1, 0] (lv1 := [(0, .ref a), (1, .int (0 : Int32))]) rfl (xb_X7_init_b888 (ω := oW ω (fun k => if k < 56 then u k else ([a, b1, b2, b3, b4, b5, b6, b7, b8, b9, b10, b11, b12, b13, b14, b15, b16, b17, b18] : List Nat).getD (k - 56) 0) 75) C.1 hlau hret (Nat.le_refl 75) FU 0 (mM I6)))
  have h := h.perm List.perm_append_comm
  have hlen : (WL (oW ω u 56) I6).length = 56 := by simp [WL, oN, oW]
  have hL : ∀ k : Nat, k < 56 → (WL (oW ω u 56) I6)[k]? = some (u k, cellK (oW ω u 56) k (I6 k)) := fun k hk => WL_get (ω := oW ω u 56) hk
  have hM : ∀ k : Nat, 56 ≤ k → k < 75 → (WL (oW ω (fun k => if k < 56 then u k else ([a, b1, b2, b3, b4, b5, b6, b7, b8, b9, b10, b11, b12, b13, b14, b15, b16, b17, b18] : List Nat).getD (k - 56) 0) 75) (mM I6))[k]? = ([oO a 5 [.int 0, .ref b1, .ref b2, .ref b3, .ref b4, .int 0, .ref b5, .int 0, .ref b6, .ref b7, .int 0, .int 0, .int 0, .ref b8, .ref b9, .ref b10, .ref b11, .ref b12, .ref b13, .int 0, .int 0, .int 0, .int 0, .ref b14, .ref b15, .int 0, .int 0, .int 0, .ref b16, .ref b17, .ref b18, .int 0], zI ω b1 6, zI ω b2 6, zI ω b3 24, zI ω b4 36, zI ω b5 160, zI ω b6 1200, zI ω b7 24, zI ω b8 60, zI ω b9 3, fI ω b10 4 mSort 4, zI ω b11 4, zI ω b12 160, fI ω b13 26 mLaw 26, fI ω b14 96 mWords 96, zI ω b15 200, zI ω b16 200, zI ω b17 6, zI ω b18 61] : va_W)[k - 56]? := by
    intro k h1 h2
    rw [WL_get (ω := oW ω (fun k => if k < 56 then u k else ([a, b1, b2, b3, b4, b5, b6, b7, b8, b9, b10, b11, b12, b13, b14, b15, b16, b17, b18] : List Nat).getD (k - 56) 0) 75) h2]
    rcases (show k = 56 ∨ k = 57 ∨ k = 58 ∨ k = 59 ∨ k = 60 ∨ k = 61 ∨ k = 62 ∨ k = 63 ∨ k = 64 ∨ k = 65 ∨ k = 66 ∨ k = 67 ∨ k = 68 ∨ k = 69 ∨ k = 70 ∨ k = 71 ∨ k = 72 ∨ k = 73 ∨ k = 74 by omega) with rfl | rfl | rfl | rfl | rfl | rfl | rfl | rfl | rfl | rfl | rfl | rfl | rfl | rfl | rfl | rfl | rfl | rfl | rfl <;> rfl
  have hM' : ∀ k : Nat, k < 56 → (WL (oW ω (fun k => if k < 56 then u k else ([a, b1, b2, b3, b4, b5, b6, b7, b8, b9, b10, b11, b12, b13, b14, b15, b16, b17, b18] : List Nat).getD (k - 56) 0) 75) (mM I6))[k]? = some (u k, cellK (oW ω (fun k => if k < 56 then u k else ([a, b1, b2, b3, b4, b5, b6, b7, b8, b9, b10, b11, b12, b13, b14, b15, b16, b17, b18] : List Nat).getD (k - 56) 0) 75) k (I6 k)) := by
    intro k hk
    rw [WL_get (ω := oW ω (fun k => if k < 56 then u k else ([a, b1, b2, b3, b4, b5, b6, b7, b8, b9, b10, b11, b12, b13, b14, b15, b16, b17, b18] : List Nat).getD (k - 56) 0) 75) (show k < 75 by omega)]
    show some ((if k < 56 then u k else _), cellK _ k (if k < 56 then I6 k else _)) = _
    rw [if_pos hk, if_pos hk]
  refine HW.to (ω := ω) (fun k => ?_) (fun k q q' hq hq' hh => ?_) h
  · by_cases hk : k < 56
    · rw [hM' k hk, List.getElem?_append_left (by omega), hL k hk]
      rfl
    · by_cases hk2 : k < 75
      · rw [hM k (by omega) hk2, List.getElem?_append_right (by omega), hlen]
      · rw [List.getElem?_eq_none (by rw [show (WL (oW ω (fun k => if k < 56 then u k else ([a, b1, b2, b3, b4, b5, b6, b7, b8, b9, b10, b11, b12, b13, b14, b15, b16, b17, b18] : List Nat).getD (k - 56) 0) 75) (mM I6)).length = 75 by simp [WL, oN, oW]]; omega), List.getElem?_eq_none (by rw [List.length_append, hlen, show ([oO a 5 [.int 0, .ref b1, .ref b2, .ref b3, .ref b4, .int 0, .ref b5, .int 0, .ref b6, .ref b7, .int 0, .int 0, .int 0, .ref b8, .ref b9, .ref b10, .ref b11, .ref b12, .ref b13, .int 0, .int 0, .int 0, .int 0, .ref b14, .ref b15, .int 0, .int 0, .int 0, .ref b16, .ref b17, .ref b18, .int 0], zI ω b1 6, zI ω b2 6, zI ω b3 24, zI ω b4 36, zI ω b5 160, zI ω b6 1200, zI ω b7 24, zI ω b8 60, zI ω b9 3, fI ω b10 4 mSort 4, zI ω b11 4, zI ω b12 160, fI ω b13 26 mLaw 26, fI ω b14 96 mWords 96, zI ω b15 200, zI ω b16 200, zI ω b17 6, zI ω b18 61] : va_W).length = 19 from rfl]; omega)]
  · by_cases hk : k < 56
    · rw [List.getElem?_append_left (by omega), hL k hk] at hq
      rw [hM' k hk] at hq'
      obtain rfl := Option.some.inj hq
      obtain rfl := Option.some.inj hq'
      exact at_cell (w := fun k => ([a, b1, b2, b3, b4, b5, b6, b7, b8, b9, b10, b11, b12, b13, b14, b15, b16, b17, b18] : List Nat).getD (k - 56) 0) hk (fun e => by rw [e]; exact h26) hh
    · by_cases hk2 : k < 75
      · rw [List.getElem?_append_right (by omega), hlen] at hq
        rw [hM k (by omega) hk2] at hq'
        obtain rfl := Option.some.inj (hq.symm.trans hq')
        exact hh
      · rw [List.getElem?_eq_none (by rw [show (WL (oW ω (fun k => if k < 56 then u k else ([a, b1, b2, b3, b4, b5, b6, b7, b8, b9, b10, b11, b12, b13, b14, b15, b16, b17, b18] : List Nat).getD (k - 56) 0) 75) (mM I6)).length = 75 by simp [WL, oN, oW]]; omega)] at hq'
        cases hq'
