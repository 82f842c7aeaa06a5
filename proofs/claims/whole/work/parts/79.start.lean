/-! THE LAW'S START, AND THE CLAIM (written by program, wip/gen/start.py; its frame begun from the skeleton) -/

abbrev nwC : Cond := Jvm.Cond.and given_1 narrow_1
theorem nw_ex : ∀ i, i < 13 → Cond.exactly (.string (strOwn i) (strIx i)) "java/lang/String" ∈ flatC nwC := by decide +kernel
theorem nw_co : ∀ i, i < 13 → Cond.eq (.field (.string (strOwn i) (strIx i)) "java/lang/String" "coder" "B") (.int 0) ∈ flatC nwC := by decide +kernel
theorem nw_ar : ∀ i, i < 13 → Cond.arrayOf (.field (.string (strOwn i) (strIx i)) "java/lang/String" "value" "[B") .byte ∈ flatC nwC := by decide +kernel
theorem nw_le : ∀ i, i < 13 → Cond.eq (.length (.field (.string (strOwn i) (strIx i)) "java/lang/String" "value" "[B")) (.int (Int32.ofNat (strL.getD i 0))) ∈ flatC nwC := by decide +kernel
theorem nw_el : ∀ i, i < 13 → ∀ j, j < strL.getD i 0 → Cond.eq (.elem (.field (.string (strOwn i) (strIx i)) "java/lang/String" "value" "[B") (.int (Int32.ofNat j))) (.int ((strB.getD i []).getD j 0)) ∈ flatC nwC := by decide +kernel
theorem nw_ne : ∀ i, i < 13 → ∀ j, j < i → Cond.not (Cond.eq (.string (strOwn j) (strIx j)) (.string (strOwn i) (strIx i))) ∈ flatC nwC := by decide +kernel
theorem nw_ab : ∀ j, j < 6 → Cond.eq (.elem (.static "HatsInRing$Kinds" "ABOVE" "[I") (.int (Int32.ofNat j))) (.int (above.getD j 0)) ∈ flatC nwC := by decide +kernel
def srX (i : Nat) : Nat := [204, 275, 282, 283, 284, 285, 286, 287, 288, 289, 290, 291, 292].getD i 0
theorem sr_in : ∀ i, i < 13 → lw_tbl[srX i]? = some (Cond.stringRef (strOwn i) (strIx i) (strTx i)) := by decide +kernel
section Facts
variable {args : Array Value} {s : State} {A : Nat → Prop}
theorem st_S (hs : ∀ c ∈ flatC nwC, c.before args s = true) (hA : ∀ a : Nat, a < s.heap.size → ¬ A a) : ∃ adK adV : Nat → Nat, vk_S 13 strL strB adK adV A s s.heap ∧ ∀ i : Nat, i < 13 → (Term.string (strOwn i) (strIx i)).eval args s none [] s = some (.ref (adK i)) := by
  refine vk_Sof (tm := fun i => Term.string (strOwn i) (strIx i)) (by decide +kernel) (fun i hi => hs _ (nw_ex i hi)) (fun i hi => hs _ (nw_co i hi)) (fun i hi => hs _ (nw_ar i hi)) (fun i hi => hs _ (nw_le i hi)) (fun i hi j hj => hs _ (nw_el i hi j hj)) (fun i j hi hj hij => ?_) hA
  by_cases h : i < j
  · exact Or.inl (hs _ (nw_ne j hj i h))
  · exact Or.inr (hs _ (nw_ne i hi j (by omega)))
theorem st_A (hs : ∀ c ∈ flatC nwC, c.before args s = true) (hA : ∀ a : Nat, a < s.heap.size → ¬ A a) : ∃ t : Nat, (Term.static "HatsInRing$Kinds" "ABOVE" "[I").eval args s none [] s = some (.ref t) ∧ va_T .int t 6 (fun i => .int (above.getD i 0)) A s s.heap := by
  exact va_Tof (by decide) (hs _ (by decide +kernel)) (va_eqt (hs _ (by decide +kernel))) (fun j hj => va_eqt (hs _ (nw_ab j hj))) hA
theorem ao_arr {C : String} (h : va_AO C s) : ∃ cA, ArrOfT s cA (.object C) ∧ va_RA s cA (.object C) := by
  obtain ⟨comp, c, k, h1, h2, h3, h4, h5⟩ := Cond.arrayOver_spec h
  exact ⟨c, fun N z => ⟨(fun k h => by cases h), k, h3, comp, h4⟩, k, comp, h3, h4, h1, h5⟩
theorem ai_arr (h : (Cond.arrayClass .int).before args s = true) : ∃ cA, ArrOfT s cA .int ∧ va_RA s cA .int := by
  obtain ⟨cA, kA, comp, h1, h2, h3⟩ := Cond.arrayClass_spec h
  exact ⟨cA, fun N z => ⟨(fun k h => by cases h), kA, h2, comp, h3⟩, h1⟩
end Facts
theorem permN (A : va_W) : A.Perm (A ++ []) := by
  rw [List.append_nil]
theorem permL (A B : va_W) : ((A ++ B) ++ []).Perm (B ++ A) := by
  rw [List.append_nil]
  exact List.perm_append_comm
theorem x6_same {u U : State} (h : U.vm = u.vm) (q : (fun U => va_AO RX4 U ∧ va_AO RX3 U ∧ va_Nw (.methodLinkNest yX6_init.cls 32 yX1_init "HatsInRing") U ∧ va_Nw (.methodLinkNest yX6_init.cls 50 yX3_init "HatsInRing") U) u) : (fun U => va_AO RX4 U ∧ va_AO RX3 U ∧ va_Nw (.methodLinkNest yX6_init.cls 32 yX1_init "HatsInRing") U ∧ va_Nw (.methodLinkNest yX6_init.cls 50 yX3_init "HatsInRing") U) U := by
  obtain ⟨q1, q2, q3, q4⟩ := q
  have hA : u.vm.Alike U.vm := by rw [h]; exact Vm.Alike.refl u.vm
  exact ⟨q1.moved hA, q2.moved hA, va_Nw.same rfl h.symm q3, va_Nw.same rfl h.symm q4⟩
theorem x6_warm {s U : State} (hW : s.WarmedH U.vm) (q : (fun U => va_AO RX4 U ∧ va_AO RX3 U ∧ va_Nw (.methodLinkNest yX6_init.cls 32 yX1_init "HatsInRing") U ∧ va_Nw (.methodLinkNest yX6_init.cls 50 yX3_init "HatsInRing") U) s) : (fun U => va_AO RX4 U ∧ va_AO RX3 U ∧ va_Nw (.methodLinkNest yX6_init.cls 32 yX1_init "HatsInRing") U ∧ va_Nw (.methodLinkNest yX6_init.cls 50 yX3_init "HatsInRing") U) U := by
  obtain ⟨q1, q2, q3, q4⟩ := q
  exact ⟨q1.moved hW.alike, q2.moved hW.alike, va_Nw.warmM hW q3, va_Nw.warmM hW q4⟩
set_option maxHeartbeats 4000000 in
set_option maxRecDepth 100000 in
theorem whole_start {p : Program} {e : Env} {s : State} {m : MethodId} {below : List Frame} {meth : Method} {c : Code} (l : Launch) (hflags : l.flags = flags0) {b L : Nat} {xs : Nat → Int32} (hL : L ≤ 3584) (C0 : lw_At p s m meth c b L xs) : W p l e room_1 s m #[Value.ref b] below meth c s.heap [] 0 0 (lw_Z below #[Value.ref b] s) (entryFrame m ([Value.ref b] : List Value).toArray 4) := by
  obtain ⟨hx, hb, hr, hml, hown, hts, hX, hbl, hlocks, hgv⟩ := id C0
  have htT : ∀ w ∈ TT, w.before #[Value.ref b] s = true := fun w hw => hts w (List.mem_filter.mp hw).1
  have hs := flat_of_before _ hgv
  have hA : ∀ a : Nat, a < s.heap.size → ¬ s.heap.size ≤ a := fun a h => Nat.not_le.mpr h
  obtain ⟨c0, i0, k0⟩ := u_known (C := RX1) (T := TX1) (N := 7) (n := 7) htT in_X1 (htT _ wc_139_128b)
  obtain ⟨c1, i1, k1⟩ := u_known (C := RX2) (T := TX2) (N := 11) (n := 11) htT in_X2 (htT _ wc_83_c7ac)
  obtain ⟨c2, i2, k2⟩ := u_known (C := RX3) (T := TX3) (N := 3) (n := 3) htT in_X3 (htT _ wc_186_4002)
  obtain ⟨c3, i3, k3⟩ := u_known (C := RX4) (T := TX4) (N := 4) (n := 4) htT in_X4 (htT _ wc_168_81bc)
  obtain ⟨c4, i4, k4⟩ := u_known (C := RX6) (T := TX6) (N := 10) (n := 10) htT in_X6 (htT _ wl_73)
  obtain ⟨c5, i5, k5⟩ := u_known (C := RX7) (T := TX7) (N := 32) (n := 32) htT in_X7 (htT _ wl_710)
  have hA4 : va_AO RX4 s := va_AO.of (hts _ (List.mem_of_getElem? (i := 81) (by decide +kernel)))
  have hA3 : va_AO RX3 s := va_AO.of (hts _ (List.mem_of_getElem? (i := 167) (by decide +kernel)))
  have hN32 : va_Nw (.methodLinkNest yX6_init.cls 32 yX1_init "HatsInRing") s := va_Nw.of rfl (hts _ (List.mem_of_getElem? (i := 140) (by decide +kernel)))
  have hN50 : va_Nw (.methodLinkNest yX6_init.cls 50 yX3_init "HatsInRing") s := va_Nw.of rfl (hts _ (List.mem_of_getElem? (i := 187) (by decide +kernel)))
  have hNK : va_Nw (.methodLinkNest "HatsInRing$Kinds" 9 ⟨"HatsInRing", "within", "(III)Z"⟩ "HatsInRing") s := va_Nw.of rfl (hts _ (List.mem_of_getElem? (i := 706) (by decide +kernel)))
  obtain ⟨cI, aI⟩ := ai_arr (htT _ wc_137_faec)
  obtain ⟨cS, aS⟩ := ao_arr hA3
  obtain ⟨cT, aT⟩ := ao_arr hA4
  obtain ⟨adK, adV, hvS, hev⟩ := st_S (A := fun q => s.heap.size ≤ q) hs hA
  obtain ⟨t, htv, htT2⟩ := st_A (A := fun q => s.heap.size ≤ q) hs hA
  obtain ⟨ω, hω⟩ : ∃ ω : Om, ω = ((fun _ => 0), s.heap.size, ((fun k => if k = 0 then c0 else if k = 1 then c1 else if k = 2 then c2 else if k = 3 then c3 else if k = 4 then c4 else c5), (fun k => if k = 0 then i0 else if k = 1 then i1 else if k = 2 then i2 else if k = 3 then i3 else if k = 4 then i4 else i5)), cI, cS, cT, 0, adK, adV) := ⟨_, rfl⟩
  have hK : va_K (oD ω) vwCl (TY ω) s := by
    subst hω
    refine ⟨fun k q hq => ?_, fun k q hq => ?_⟩
    · match k, hq with
      | 0, hq => cases hq; exact k0
      | 1, hq => cases hq; exact k1
      | 2, hq => cases hq; exact k2
      | 3, hq => cases hq; exact k3
      | 4, hq => cases hq; exact k4
      | 5, hq => cases hq; exact k5
      | k + 6, hq => simp [vwCl] at hq
    · match k, hq with
      | 0, hq => cases hq; exact aI
      | 1, hq => cases hq; exact aS
      | 2, hq => cases hq; exact aT
      | k + 3, hq => simp [TY] at hq
  have hB : oB ω = s.heap.size := by subst hω; rfl
  have hSX : SX ω s s.heap := by
    subst hω
    exact ⟨⟨t, va_Zref (hts _ (List.mem_of_getElem? (i := 708) (by decide +kernel))) (hts _ (List.mem_of_getElem? (i := 68) (by decide +kernel))) htv hA, htT2⟩, va_Zof (hts _ (List.mem_of_getElem? (i := 214) (by decide +kernel))) (hts _ (List.mem_of_getElem? (i := 61) (by decide +kernel))) (va_eqi (hs _ (by decide +kernel))) hA, va_Zqof (hts _ (List.mem_of_getElem? (i := 230) (by decide +kernel))) (hts _ (List.mem_of_getElem? (i := 63) (by decide +kernel))) (hs _ (by decide +kernel)) hA, hvS, fun i hi => vk_R.of (hts _ (List.mem_of_getElem? (sr_in i hi))) (hev i hi), hNK⟩
  obtain ⟨I6, eI6, g1, g2, g3, g4, g5⟩ := init_c
  obtain ⟨K, eK, hInv⟩ := init_m g1 g2 g3 g4
  obtain ⟨J, eJ⟩ := law_go (xs := xs) hL (L + 1) 0 K (by omega) (by omega) (by omega) hInv
  have C : CN (p, l, e, room_1, s, m, #[Value.ref b], below, meth, c, 600000, 7302250) ω code 4 1000 yL_law.cls 600000 7302250 := ⟨⟨hx, hb, hml, hown, htT, hK, hlocks, ⟨Nat.le_of_ble_eq_true rfl, Nat.le_of_ble_eq_true rfl, Nat.le_of_ble_eq_true rfl, Nat.le_of_ble_eq_true rfl⟩, hSX, by rw [hB]; exact Nat.le_refl _⟩, rfl, rfl⟩
  have hl := lv_entry ([.ref b]) (n := 4) (Nat.le_of_ble_eq_true rfl)
  rw [lg_entry_eq]
  generalize (lg_sl ([.ref b]) ++ List.replicate (4 - (lg_sl ([.ref b])).length) Slot.unset).toArray = ls at hl ⊢
  have hl : lv_has ls 4 [(0, .ref b)] := hl
  refine (?_ : EN (p, l, e, room_1, s, m, #[Value.ref b], below, meth, c, 600000, 7302250) ω 4 (lw_Z below #[Value.ref b] s) [] [] 0 0 0 [(0, .ref b)] []) s.heap [] ls ⟨fun k q h => by simp at h, fun i j p q h => by simp at h, fun k q h => by simp at h⟩ va_S.rf hl
  refine n_new C (ci := 4) (N := 10) (Cn := RX6) (T := TX6) (fs := [.null, .null, .null, .null, .null, .null, .null, .int 0, .int 0, .int 0]) dL_law_0 in_X6 tyX6_ok wl_72 wl_73 wl_56 rfl df_X6 (Nat.le_of_ble_eq_true rfl) (Nat.le_of_ble_eq_true rfl) (q := 3) rfl (fun h => ?_)
  show EN _ ω 4 _ _ [oO h 4 [.null, .null, .null, .null, .null, .null, .null, .int 0, .int 0, .int 0]] 1 10 3 [(0, .ref b)] [.ref h]
  refine n_dup C dL_law_3 rfl (q := 4) rfl ?_
  refine n_callI C (l := l) (av := []) (st := [.ref h]) (ms1 := fun u => WL (oW ω (pin 0 h u) 56) I6) rfl (x_X6_init (l := l) (ω := ω) h eI6) (fun u U => x6_same) (fun U hW => x6_warm hW ⟨hA4, hA3, hN32, hN50⟩) dL_law_4 wl_74 wl_75 wl_56 wl_76 rfl md_X6_init (Nat.le_of_ble_eq_true rfl) (Nat.le_of_ble_eq_true rfl) rfl (Nat.le_of_ble_eq_true rfl) (Nat.le_of_ble_eq_true rfl) (List.Perm.refl _) (fun u => permN _) (Nat.le_of_ble_eq_true rfl) (q := 7) rfl (fun u => ?_)
  show EN _ ω 4 _ _ (WL (oW ω (pin 0 h u) 56) I6) 56 1770 7 [(0, .ref b)] [.ref h]
  refine n_astore_n C (lv1 := [(1, .ref h), (0, .ref b)]) dL_law_7 rfl (Nat.le_of_ble_eq_true rfl) rfl (q := 8) rfl ?_
  refine n_new C (ci := 5) (N := 32) (Cn := RX7) (T := TX7) (fs := [.int 0, .null, .null, .null, .null, .int 0, .null, .int 0, .null, .null, .int 0, .int 0, .int 0, .null, .null, .null, .null, .null, .null, .int 0, .int 0, .int 0, .int 0, .null, .null, .int 0, .int 0, .int 0, .null, .null, .null, .int 0]) dL_law_8 in_X7 tyX7_ok wl_709 wl_710 wl_67 rfl df_X7 (Nat.le_of_ble_eq_true rfl) (Nat.le_of_ble_eq_true rfl) (q := 11) rfl (fun o => ?_)
  show EN _ ω 4 _ _ (WL (oW ω (pin 0 h u) 56) I6 ++ [oO o 5 [.int 0, .null, .null, .null, .null, .int 0, .null, .int 0, .null, .null, .int 0, .int 0, .int 0, .null, .null, .null, .null, .null, .null, .int 0, .int 0, .int 0, .int 0, .null, .null, .int 0, .int 0, .int 0, .null, .null, .null, .int 0]]) 57 1802 11 [(1, .ref h), (0, .ref b)] [.ref o]
  refine n_dup C dL_law_11 rfl (q := 12) rfl ?_
  refine n_callI C (l := l) (av := []) (st := [.ref o]) (ms1 := fun v => WL (oW ω (pin 56 o (pin 0 h v)) 75) K) rfl (x_X7_init (l := l) (ω := ω) o (pin 0 h u) g5 eK) (fun _ _ _ _ => trivial) (fun _ _ => trivial) dL_law_12 wl_711 wl_712 wl_67 wl_713 rfl md_X7_init (Nat.le_of_ble_eq_true rfl) (Nat.le_of_ble_eq_true rfl) rfl (Nat.le_of_ble_eq_true rfl) (Nat.le_of_ble_eq_true rfl) (permL _ _) (fun v => permN _) (Nat.le_of_ble_eq_true rfl) (q := 15) rfl (fun v => ?_)
  show EN _ ω 4 _ _ (WL (oW ω (pin 56 o (pin 0 h v)) 75) K) 75 4078 15 [(1, .ref h), (0, .ref b)] [.ref o]
  refine n_astore_n C (lv1 := [(2, .ref o), (1, .ref h), (0, .ref b)]) dL_law_15 rfl (Nat.le_of_ble_eq_true rfl) rfl (q := 16) rfl ?_
  refine n_iconst C dL_law_16 ic_0 (q := 17) rfl ?_
  refine n_istore_n C (lv1 := [(3, .int (0 : Int32)), (2, .ref o), (1, .ref h), (0, .ref b)]) dL_law_17 rfl (Nat.le_of_ble_eq_true rfl) rfl (q := 18) rfl ?_
  have Z : LX (p, l, e, room_1, s, m, #[Value.ref b], below, meth, c, 600000, 7302250) (oW ω (pin 56 o (pin 0 h v)) 75) b L xs := ⟨rfl, rfl, hr, hX, hbl, hB, Nat.le_refl _, Nat.le_refl _⟩
  refine en_ee C (G := GLaw (p, l, e, room_1, s, m, #[Value.ref b], below, meth, c, 600000, 7302250) b) (pin 56 o (pin 0 h v)) 75 (show f_L_law_b18 L xs (L + 1) 0 K = some ((), J) from eJ) (Nat.le_of_ble_eq_true rfl) (Nat.le_of_ble_eq_true rfl) (fun H hh => by rw [List.append_nil] at hh; exact hh) (fun t ht => ht) (e_lv [3, 2, 1, 0] (lv1 := [(0, .ref b), (1, .ref h), (2, .ref o), (3, .int (0 : Int32))]) rfl (xb_L_law_b18 (l := l) (ω := oW ω (pin 56 o (pin 0 h v)) 75) C.1 rfl trivial (Nat.le_refl 75) Z (L + 1) 0 K))
