/-! CONSTRUCTORS: the leaves (written by program, wip/gen/ctor.py) -/
abbrev zI (ω : Om) (a n : Nat) : Nat × va_E := (a, .inl (oI ω, n, .inl (fun _ => 0)))
abbrev fI (ω : Om) (a n : Nat) (Ls : List Int32) (j : Nat) : Nat × va_E := (a, .inl (oI ω, n, .inl (fillF Ls j)))
abbrev oO (a ci : Nat) (fs : List Value) : Nat × va_E := (a, .inr (ci, fs))
abbrev qA (c : ClassId) (a n : Nat) (f : Nat → Option Nat) : Nat × va_E := (a, .inl (c, n, .inr (.inr (.inr (.inr f)))))
theorem perm1 (A B pre : va_W) : ((A ++ B) ++ pre).Perm (B ++ (A ++ pre)) := by
  rw [← List.append_assoc]
  exact List.perm_append_comm.append_right pre
theorem perm2 (A B pre : va_W) : (B ++ (A ++ pre)).Perm ((A ++ B) ++ pre) := (perm1 A B pre).symm
theorem fillF_0 (Ls : List Int32) : fillF Ls 0 = fun _ => 0 := by
  funext j
  simp [fillF]
theorem n_newF {κ : Kx} {ω : Om} {cc : ByteArray} {nL d : Nat} {own : String} {MC MS : Nat} {Q : State → Prop} {pre ms : va_W} {cs sl pc q : Nat} {lv : List (Nat × Value)} {st : List Value} (C : CN κ ω cc nL d own MC MS) {n : Int32} {N : Nat} {Ls : List Int32} (hdg : decode cc pc = .ok (.newarray .int, 2)) (hw : Cond.arrayClass .int ∈ TT) (hn : ¬ n < 0) (hN : n.toNatClampNeg = N) (hby : N * 4 ≤ 536870912) (hcs : cs + 1 ≤ MC) (hsl : sl + N ≤ MS) (hq : pc + 2 = q) (kk : ∀ a : Nat, EN κ ω nL Q pre (ms ++ [fI ω a N Ls 0]) (cs + 1) (sl + N) q lv (.ref a :: st)) : EN κ ω nL Q pre ms cs sl pc lv (.int n :: st) := by
  refine n_newI C hdg hw hn hN hby hcs hsl hq (fun a => ?_)
  have h := kk a
  rw [fI, fillF_0] at h
  exact h
theorem wc_143_2605 : Cond.methodLink yX1_init.cls 3 objectInit ∈ TT := TT_in (i := 143) (by decide +kernel) (by decide +kernel)
theorem wc_78_adab : Cond.instanceMethod objectInit ∈ TT := TT_in (i := 78) (by decide +kernel) (by decide +kernel)
theorem wc_79_2a4a : Cond.code objectInit ⟨#[0xb1]⟩ 1 none ∈ TT := TT_in (i := 79) (by decide +kernel) (by decide +kernel)
theorem wc_87_ed64 : Cond.methodLink yX2_init.cls 3 objectInit ∈ TT := TT_in (i := 87) (by decide +kernel) (by decide +kernel)
theorem wc_137_faec : Cond.arrayClass .int ∈ TT := TT_in (i := 137) (by decide +kernel) (by decide +kernel)
theorem wc_89_df6c : Cond.fieldLink yX2_init.cls 9 (TX2 1).1 (TX2 1).2.1 (TX2 1).2.2.1 ∈ TT := TT_in (i := 89) (by decide +kernel) (by decide +kernel)
theorem wc_91_d96d : Cond.fieldLink yX2_init.cls 15 (TX2 2).1 (TX2 2).2.1 (TX2 2).2.2.1 ∈ TT := TT_in (i := 91) (by decide +kernel) (by decide +kernel)
theorem wc_94_a4ae : Cond.fieldLink yX2_init.cls 18 (TX2 3).1 (TX2 3).2.1 (TX2 3).2.2.1 ∈ TT := TT_in (i := 94) (by decide +kernel) (by decide +kernel)
theorem wc_96_7846 : Cond.fieldLink yX2_init.cls 21 (TX2 4).1 (TX2 4).2.1 (TX2 4).2.2.1 ∈ TT := TT_in (i := 96) (by decide +kernel) (by decide +kernel)
theorem wc_99_f59e : Cond.fieldLink yX2_init.cls 24 (TX2 5).1 (TX2 5).2.1 (TX2 5).2.2.1 ∈ TT := TT_in (i := 99) (by decide +kernel) (by decide +kernel)
theorem wc_102_f334 : Cond.fieldLink yX2_init.cls 27 (TX2 6).1 (TX2 6).2.1 (TX2 6).2.2.1 ∈ TT := TT_in (i := 102) (by decide +kernel) (by decide +kernel)
theorem wc_105_19df : Cond.fieldLink yX2_init.cls 30 (TX2 7).1 (TX2 7).2.1 (TX2 7).2.2.1 ∈ TT := TT_in (i := 105) (by decide +kernel) (by decide +kernel)
theorem wc_88_f841 : Cond.fieldLink yX2_init.cls 33 (TX2 0).1 (TX2 0).2.1 (TX2 0).2.2.1 ∈ TT := TT_in (i := 88) (by decide +kernel) (by decide +kernel)
theorem wc_190_f2d8 : Cond.methodLink yX3_init.cls 3 objectInit ∈ TT := TT_in (i := 190) (by decide +kernel) (by decide +kernel)
theorem wc_191_7f64 : Cond.fieldLink yX3_init.cls 9 (TX3 0).1 (TX3 0).2.1 (TX3 0).2.2.1 ∈ TT := TT_in (i := 191) (by decide +kernel) (by decide +kernel)
theorem wc_193_5a12 : Cond.fieldLink yX3_init.cls 15 (TX3 1).1 (TX3 1).2.1 (TX3 1).2.2.1 ∈ TT := TT_in (i := 193) (by decide +kernel) (by decide +kernel)
theorem wc_172_d031 : Cond.methodLink yX4_init.cls 3 objectInit ∈ TT := TT_in (i := 172) (by decide +kernel) (by decide +kernel)
theorem wc_174_6973 : Cond.fieldLink yX4_init.cls 9 (TX4 1).1 (TX4 1).2.1 (TX4 1).2.2.1 ∈ TT := TT_in (i := 174) (by decide +kernel) (by decide +kernel)
theorem wc_175_f321 : Cond.fieldLink yX4_init.cls 15 (TX4 2).1 (TX4 2).2.1 (TX4 2).2.2.1 ∈ TT := TT_in (i := 175) (by decide +kernel) (by decide +kernel)
theorem wc_173_7e4e : Cond.fieldLink yX4_init.cls 18 (TX4 0).1 (TX4 0).2.1 (TX4 0).2.2.1 ∈ TT := TT_in (i := 173) (by decide +kernel) (by decide +kernel)
theorem wc_77_fb75 : Cond.methodLink yX6_init.cls 1 objectInit ∈ TT := TT_in (i := 77) (by decide +kernel) (by decide +kernel)
theorem wc_80_c998 : Cond.classLink yX6_init.cls 9 RX4 ∈ TT := TT_in (i := 80) (by decide +kernel) (by decide +kernel)
theorem wc_346_a9fe : Cond.fieldLink yX6_init.cls 11 (TX6 0).1 (TX6 0).2.1 (TX6 0).2.2.1 ∈ TT := TT_in (i := 346) (by decide +kernel) (by decide +kernel)
theorem wc_82_2688 : Cond.classLink yX6_init.cls 15 RX2 ∈ TT := TT_in (i := 82) (by decide +kernel) (by decide +kernel)
theorem wc_83_c7ac : Cond.instantiable RX2 11 ∈ TT := TT_in (i := 83) (by decide +kernel) (by decide +kernel)
theorem wc_57_572a : Cond.initialized RX2 ∈ TT := TT_in (i := 57) (by decide +kernel) (by decide +kernel)
theorem wc_84_298e : Cond.methodLink yX6_init.cls 17 yX2_init ∈ TT := TT_in (i := 84) (by decide +kernel) (by decide +kernel)
theorem wc_85_3b7d : Cond.instanceMethod yX2_init ∈ TT := TT_in (i := 85) (by decide +kernel) (by decide +kernel)
theorem wc_57_cd11 : Cond.initialized yX2_init.cls ∈ TT := TT_in (i := 57) (by decide +kernel) (by decide +kernel)
theorem wc_86_7b52 : Cond.code yX2_init cX2_init 2 none ∈ TT := TT_in (i := 86) (by decide +kernel) (by decide +kernel)
theorem wc_347_44fb : Cond.fieldLink yX6_init.cls 20 (TX6 1).1 (TX6 1).2.1 (TX6 1).2.2.1 ∈ TT := TT_in (i := 347) (by decide +kernel) (by decide +kernel)
theorem wc_348_2069 : Cond.fieldLink yX6_init.cls 24 (TX6 2).1 (TX6 2).2.1 (TX6 2).2.2.1 ∈ TT := TT_in (i := 348) (by decide +kernel) (by decide +kernel)
theorem wc_349_ac28 : Cond.fieldLink yX6_init.cls 27 (TX6 3).1 (TX6 3).2.1 (TX6 3).2.2.1 ∈ TT := TT_in (i := 349) (by decide +kernel) (by decide +kernel)
theorem wc_138_ec52 : Cond.classLink yX6_init.cls 30 RX1 ∈ TT := TT_in (i := 138) (by decide +kernel) (by decide +kernel)
theorem wc_139_128b : Cond.instantiable RX1 7 ∈ TT := TT_in (i := 139) (by decide +kernel) (by decide +kernel)
theorem wc_58_22b4 : Cond.initialized RX1 ∈ TT := TT_in (i := 58) (by decide +kernel) (by decide +kernel)
theorem wc_141_8f06 : Cond.instanceMethod yX1_init ∈ TT := TT_in (i := 141) (by decide +kernel) (by decide +kernel)
theorem wc_58_590d : Cond.initialized yX1_init.cls ∈ TT := TT_in (i := 58) (by decide +kernel) (by decide +kernel)
theorem wc_142_2a3f : Cond.code yX1_init cX1_init 1 none ∈ TT := TT_in (i := 142) (by decide +kernel) (by decide +kernel)
theorem wc_350_a501 : Cond.fieldLink yX6_init.cls 33 (TX6 4).1 (TX6 4).2.1 (TX6 4).2.2.1 ∈ TT := TT_in (i := 350) (by decide +kernel) (by decide +kernel)
theorem wc_351_574a : Cond.fieldLink yX6_init.cls 37 (TX6 5).1 (TX6 5).2.1 (TX6 5).2.2.1 ∈ TT := TT_in (i := 351) (by decide +kernel) (by decide +kernel)
theorem wc_166_4a54 : Cond.classLink yX6_init.cls 41 RX3 ∈ TT := TT_in (i := 166) (by decide +kernel) (by decide +kernel)
theorem wc_352_dee7 : Cond.fieldLink yX6_init.cls 43 (TX6 6).1 (TX6 6).2.1 (TX6 6).2.2.1 ∈ TT := TT_in (i := 352) (by decide +kernel) (by decide +kernel)
theorem wc_168_81bc : Cond.instantiable RX4 4 ∈ TT := TT_in (i := 168) (by decide +kernel) (by decide +kernel)
theorem wc_59_3625 : Cond.initialized RX4 ∈ TT := TT_in (i := 59) (by decide +kernel) (by decide +kernel)
theorem wc_169_a23f : Cond.methodLink yX6_init.cls 47 yX4_init ∈ TT := TT_in (i := 169) (by decide +kernel) (by decide +kernel)
theorem wc_170_18f4 : Cond.instanceMethod yX4_init ∈ TT := TT_in (i := 170) (by decide +kernel) (by decide +kernel)
theorem wc_59_7832 : Cond.initialized yX4_init.cls ∈ TT := TT_in (i := 59) (by decide +kernel) (by decide +kernel)
theorem wc_171_59c2 : Cond.code yX4_init cX4_init 2 none ∈ TT := TT_in (i := 171) (by decide +kernel) (by decide +kernel)
theorem wc_186_4002 : Cond.instantiable RX3 3 ∈ TT := TT_in (i := 186) (by decide +kernel) (by decide +kernel)
theorem wc_60_ab33 : Cond.initialized RX3 ∈ TT := TT_in (i := 60) (by decide +kernel) (by decide +kernel)
theorem wc_188_c1f5 : Cond.instanceMethod yX3_init ∈ TT := TT_in (i := 188) (by decide +kernel) (by decide +kernel)
theorem wc_60_d427 : Cond.initialized yX3_init.cls ∈ TT := TT_in (i := 60) (by decide +kernel) (by decide +kernel)
theorem wc_189_08aa : Cond.code yX3_init cX3_init 1 none ∈ TT := TT_in (i := 189) (by decide +kernel) (by decide +kernel)
theorem wc_714_a29a : Cond.methodLink yX7_init.cls 1 objectInit ∈ TT := TT_in (i := 714) (by decide +kernel) (by decide +kernel)
theorem wc_763_56f9 : Cond.fieldLink yX7_init.cls 7 (TX7 1).1 (TX7 1).2.1 (TX7 1).2.2.1 ∈ TT := TT_in (i := 763) (by decide +kernel) (by decide +kernel)
theorem wc_764_3f3f : Cond.fieldLink yX7_init.cls 13 (TX7 2).1 (TX7 2).2.1 (TX7 2).2.2.1 ∈ TT := TT_in (i := 764) (by decide +kernel) (by decide +kernel)
theorem wc_765_60f9 : Cond.fieldLink yX7_init.cls 16 (TX7 3).1 (TX7 3).2.1 (TX7 3).2.2.1 ∈ TT := TT_in (i := 765) (by decide +kernel) (by decide +kernel)
theorem wc_766_7657 : Cond.fieldLink yX7_init.cls 19 (TX7 4).1 (TX7 4).2.1 (TX7 4).2.2.1 ∈ TT := TT_in (i := 766) (by decide +kernel) (by decide +kernel)
theorem wc_768_063b : Cond.fieldLink yX7_init.cls 22 (TX7 6).1 (TX7 6).2.1 (TX7 6).2.2.1 ∈ TT := TT_in (i := 768) (by decide +kernel) (by decide +kernel)
theorem b16_1200 : (Int16.ofInt (1200)).toInt32 = (1200 : Int32) := by decide
theorem wc_770_29c5 : Cond.fieldLink yX7_init.cls 25 (TX7 8).1 (TX7 8).2.1 (TX7 8).2.2.1 ∈ TT := TT_in (i := 770) (by decide +kernel) (by decide +kernel)
theorem wc_771_ae96 : Cond.fieldLink yX7_init.cls 28 (TX7 9).1 (TX7 9).2.1 (TX7 9).2.2.1 ∈ TT := TT_in (i := 771) (by decide +kernel) (by decide +kernel)
theorem wc_775_1c09 : Cond.fieldLink yX7_init.cls 31 (TX7 13).1 (TX7 13).2.1 (TX7 13).2.2.1 ∈ TT := TT_in (i := 775) (by decide +kernel) (by decide +kernel)
theorem wc_776_11b7 : Cond.fieldLink yX7_init.cls 34 (TX7 14).1 (TX7 14).2.1 (TX7 14).2.2.1 ∈ TT := TT_in (i := 776) (by decide +kernel) (by decide +kernel)
theorem wc_777_8632 : Cond.fieldLink yX7_init.cls 37 (TX7 15).1 (TX7 15).2.1 (TX7 15).2.2.1 ∈ TT := TT_in (i := 777) (by decide +kernel) (by decide +kernel)
theorem wc_778_8f42 : Cond.fieldLink yX7_init.cls 40 (TX7 16).1 (TX7 16).2.1 (TX7 16).2.2.1 ∈ TT := TT_in (i := 778) (by decide +kernel) (by decide +kernel)
theorem wc_779_fa18 : Cond.fieldLink yX7_init.cls 43 (TX7 17).1 (TX7 17).2.1 (TX7 17).2.2.1 ∈ TT := TT_in (i := 779) (by decide +kernel) (by decide +kernel)
theorem b8_103 : (Int8.ofInt (103)).toInt32 = (103 : Int32) := by decide
theorem b8_111 : (Int8.ofInt (111)).toInt32 = (111 : Int32) := by decide
theorem b8_101 : (Int8.ofInt (101)).toInt32 = (101 : Int32) := by decide
theorem b8_115 : (Int8.ofInt (115)).toInt32 = (115 : Int32) := by decide
theorem b8_49 : (Int8.ofInt (49)).toInt32 = (49 : Int32) := by decide
theorem b8_104 : (Int8.ofInt (104)).toInt32 = (104 : Int32) := by decide
theorem b8_105 : (Int8.ofInt (105)).toInt32 = (105 : Int32) := by decide
theorem b8_116 : (Int8.ofInt (116)).toInt32 = (116 : Int32) := by decide
theorem b8_53 : (Int8.ofInt (53)).toInt32 = (53 : Int32) := by decide
theorem b8_102 : (Int8.ofInt (102)).toInt32 = (102 : Int32) := by decide
theorem b8_21 : (Int8.ofInt (21)).toInt32 = (21 : Int32) := by decide
theorem b8_22 : (Int8.ofInt (22)).toInt32 = (22 : Int32) := by decide
theorem b8_23 : (Int8.ofInt (23)).toInt32 = (23 : Int32) := by decide
theorem b8_25 : (Int8.ofInt (25)).toInt32 = (25 : Int32) := by decide
theorem b8_96 : (Int8.ofInt (96)).toInt32 = (96 : Int32) := by decide
theorem b8_108 : (Int8.ofInt (108)).toInt32 = (108 : Int32) := by decide
theorem b8_27 : (Int8.ofInt (27)).toInt32 = (27 : Int32) := by decide
theorem b8_28 : (Int8.ofInt (28)).toInt32 = (28 : Int32) := by decide
theorem b8_29 : (Int8.ofInt (29)).toInt32 = (29 : Int32) := by decide
theorem b8_31 : (Int8.ofInt (31)).toInt32 = (31 : Int32) := by decide
theorem b8_112 : (Int8.ofInt (112)).toInt32 = (112 : Int32) := by decide
theorem b8_33 : (Int8.ofInt (33)).toInt32 = (33 : Int32) := by decide
theorem b8_114 : (Int8.ofInt (114)).toInt32 = (114 : Int32) := by decide
theorem b8_34 : (Int8.ofInt (34)).toInt32 = (34 : Int32) := by decide
theorem b8_35 : (Int8.ofInt (35)).toInt32 = (35 : Int32) := by decide
theorem b8_37 : (Int8.ofInt (37)).toInt32 = (37 : Int32) := by decide
theorem b8_38 : (Int8.ofInt (38)).toInt32 = (38 : Int32) := by decide
theorem b8_117 : (Int8.ofInt (117)).toInt32 = (117 : Int32) := by decide
theorem b8_110 : (Int8.ofInt (110)).toInt32 = (110 : Int32) := by decide
theorem b8_44 : (Int8.ofInt (44)).toInt32 = (44 : Int32) := by decide
theorem b8_46 : (Int8.ofInt (46)).toInt32 = (46 : Int32) := by decide
theorem b8_47 : (Int8.ofInt (47)).toInt32 = (47 : Int32) := by decide
theorem b8_50 : (Int8.ofInt (50)).toInt32 = (50 : Int32) := by decide
theorem b8_51 : (Int8.ofInt (51)).toInt32 = (51 : Int32) := by decide
theorem b8_52 : (Int8.ofInt (52)).toInt32 = (52 : Int32) := by decide
theorem b8_54 : (Int8.ofInt (54)).toInt32 = (54 : Int32) := by decide
theorem b8_55 : (Int8.ofInt (55)).toInt32 = (55 : Int32) := by decide
theorem b8_56 : (Int8.ofInt (56)).toInt32 = (56 : Int32) := by decide
theorem b8_98 : (Int8.ofInt (98)).toInt32 = (98 : Int32) := by decide
theorem b8_58 : (Int8.ofInt (58)).toInt32 = (58 : Int32) := by decide
theorem b8_119 : (Int8.ofInt (119)).toInt32 = (119 : Int32) := by decide
theorem b8_62 : (Int8.ofInt (62)).toInt32 = (62 : Int32) := by decide
theorem b8_109 : (Int8.ofInt (109)).toInt32 = (109 : Int32) := by decide
theorem b8_65 : (Int8.ofInt (65)).toInt32 = (65 : Int32) := by decide
theorem b8_66 : (Int8.ofInt (66)).toInt32 = (66 : Int32) := by decide
theorem b8_67 : (Int8.ofInt (67)).toInt32 = (67 : Int32) := by decide
theorem b8_68 : (Int8.ofInt (68)).toInt32 = (68 : Int32) := by decide
theorem b8_69 : (Int8.ofInt (69)).toInt32 = (69 : Int32) := by decide
theorem b8_70 : (Int8.ofInt (70)).toInt32 = (70 : Int32) := by decide
theorem b8_71 : (Int8.ofInt (71)).toInt32 = (71 : Int32) := by decide
theorem b8_72 : (Int8.ofInt (72)).toInt32 = (72 : Int32) := by decide
theorem b8_73 : (Int8.ofInt (73)).toInt32 = (73 : Int32) := by decide
theorem b8_74 : (Int8.ofInt (74)).toInt32 = (74 : Int32) := by decide
theorem b8_75 : (Int8.ofInt (75)).toInt32 = (75 : Int32) := by decide
theorem b8_76 : (Int8.ofInt (76)).toInt32 = (76 : Int32) := by decide
theorem b8_77 : (Int8.ofInt (77)).toInt32 = (77 : Int32) := by decide
theorem b8_78 : (Int8.ofInt (78)).toInt32 = (78 : Int32) := by decide
theorem b8_79 : (Int8.ofInt (79)).toInt32 = (79 : Int32) := by decide
theorem b8_80 : (Int8.ofInt (80)).toInt32 = (80 : Int32) := by decide
theorem b8_81 : (Int8.ofInt (81)).toInt32 = (81 : Int32) := by decide
theorem b8_82 : (Int8.ofInt (82)).toInt32 = (82 : Int32) := by decide
theorem b8_83 : (Int8.ofInt (83)).toInt32 = (83 : Int32) := by decide
theorem b8_84 : (Int8.ofInt (84)).toInt32 = (84 : Int32) := by decide
theorem b8_85 : (Int8.ofInt (85)).toInt32 = (85 : Int32) := by decide
theorem b8_86 : (Int8.ofInt (86)).toInt32 = (86 : Int32) := by decide
theorem b8_87 : (Int8.ofInt (87)).toInt32 = (87 : Int32) := by decide
theorem b8_88 : (Int8.ofInt (88)).toInt32 = (88 : Int32) := by decide
theorem b8_89 : (Int8.ofInt (89)).toInt32 = (89 : Int32) := by decide
theorem b8_90 : (Int8.ofInt (90)).toInt32 = (90 : Int32) := by decide
theorem b8_91 : (Int8.ofInt (91)).toInt32 = (91 : Int32) := by decide
theorem b8_92 : (Int8.ofInt (92)).toInt32 = (92 : Int32) := by decide
theorem b8_93 : (Int8.ofInt (93)).toInt32 = (93 : Int32) := by decide
theorem b8_94 : (Int8.ofInt (94)).toInt32 = (94 : Int32) := by decide
theorem b8_95 : (Int8.ofInt (95)).toInt32 = (95 : Int32) := by decide
theorem wc_785_701b : Cond.fieldLink yX7_init.cls 49 (TX7 23).1 (TX7 23).2.1 (TX7 23).2.2.1 ∈ TT := TT_in (i := 785) (by decide +kernel) (by decide +kernel)
theorem wc_786_8650 : Cond.fieldLink yX7_init.cls 52 (TX7 24).1 (TX7 24).2.1 (TX7 24).2.2.1 ∈ TT := TT_in (i := 786) (by decide +kernel) (by decide +kernel)
theorem wc_790_0e8a : Cond.fieldLink yX7_init.cls 55 (TX7 28).1 (TX7 28).2.1 (TX7 28).2.2.1 ∈ TT := TT_in (i := 790) (by decide +kernel) (by decide +kernel)
theorem wc_791_f3f1 : Cond.fieldLink yX7_init.cls 58 (TX7 29).1 (TX7 29).2.1 (TX7 29).2.2.1 ∈ TT := TT_in (i := 791) (by decide +kernel) (by decide +kernel)
theorem wc_792_85cb : Cond.fieldLink yX7_init.cls 61 (TX7 30).1 (TX7 30).2.1 (TX7 30).2.2.1 ∈ TT := TT_in (i := 792) (by decide +kernel) (by decide +kernel)
theorem df_X1 : ∀ j, j < 7 → defaultValue (tyX1 j) = vp_V [.null, .int 0, .int 0, .int 0, .int 0, .int 0, .null] j := by
  intro j hj
  rcases (show j = 0 ∨ j = 1 ∨ j = 2 ∨ j = 3 ∨ j = 4 ∨ j = 5 ∨ j = 6 by omega) with rfl | rfl | rfl | rfl | rfl | rfl | rfl <;> rfl
theorem df_X2 : ∀ j, j < 11 → defaultValue (tyX2 j) = vp_V [.null, .null, .null, .null, .null, .null, .null, .null, .int 0, .int 0, .int 0] j := by
  intro j hj
  rcases (show j = 0 ∨ j = 1 ∨ j = 2 ∨ j = 3 ∨ j = 4 ∨ j = 5 ∨ j = 6 ∨ j = 7 ∨ j = 8 ∨ j = 9 ∨ j = 10 by omega) with rfl | rfl | rfl | rfl | rfl | rfl | rfl | rfl | rfl | rfl | rfl <;> rfl
theorem df_X3 : ∀ j, j < 3 → defaultValue (tyX3 j) = vp_V [.null, .int 0, .int 0] j := by
  intro j hj
  rcases (show j = 0 ∨ j = 1 ∨ j = 2 by omega) with rfl | rfl | rfl <;> rfl
theorem df_X4 : ∀ j, j < 4 → defaultValue (tyX4 j) = vp_V [.null, .null, .null, .int 0] j := by
  intro j hj
  rcases (show j = 0 ∨ j = 1 ∨ j = 2 ∨ j = 3 by omega) with rfl | rfl | rfl | rfl <;> rfl
theorem df_X6 : ∀ j, j < 10 → defaultValue (tyX6 j) = vp_V [.null, .null, .null, .null, .null, .null, .null, .int 0, .int 0, .int 0] j := by
  intro j hj
  rcases (show j = 0 ∨ j = 1 ∨ j = 2 ∨ j = 3 ∨ j = 4 ∨ j = 5 ∨ j = 6 ∨ j = 7 ∨ j = 8 ∨ j = 9 by omega) with rfl | rfl | rfl | rfl | rfl | rfl | rfl | rfl | rfl | rfl <;> rfl
theorem df_X7 : ∀ j, j < 32 → defaultValue (tyX7 j) = vp_V [.int 0, .null, .null, .null, .null, .int 0, .null, .int 0, .null, .null, .int 0, .int 0, .int 0, .null, .null, .null, .null, .null, .null, .int 0, .int 0, .int 0, .int 0, .null, .null, .int 0, .int 0, .int 0, .null, .null, .null, .int 0] j := by
  intro j hj
  rcases (show j = 0 ∨ j = 1 ∨ j = 2 ∨ j = 3 ∨ j = 4 ∨ j = 5 ∨ j = 6 ∨ j = 7 ∨ j = 8 ∨ j = 9 ∨ j = 10 ∨ j = 11 ∨ j = 12 ∨ j = 13 ∨ j = 14 ∨ j = 15 ∨ j = 16 ∨ j = 17 ∨ j = 18 ∨ j = 19 ∨ j = 20 ∨ j = 21 ∨ j = 22 ∨ j = 23 ∨ j = 24 ∨ j = 25 ∨ j = 26 ∨ j = 27 ∨ j = 28 ∨ j = 29 ∨ j = 30 ∨ j = 31 by omega) with rfl | rfl | rfl | rfl | rfl | rfl | rfl | rfl | rfl | rfl | rfl | rfl | rfl | rfl | rfl | rfl | rfl | rfl | rfl | rfl | rfl | rfl | rfl | rfl | rfl | rfl | rfl | rfl | rfl | rfl | rfl | rfl <;> rfl
theorem md_X1_init : yX1_init.cls ≠ "java/lang/invoke/MethodHandle" ∧ yX1_init.cls ≠ "java/lang/invoke/VarHandle" ∧ (parseMethodDescriptor yX1_init.desc).map (fun d => d.parameters.length) = some 0 := by decide +kernel
theorem md_X2_init : yX2_init.cls ≠ "java/lang/invoke/MethodHandle" ∧ yX2_init.cls ≠ "java/lang/invoke/VarHandle" ∧ (parseMethodDescriptor yX2_init.desc).map (fun d => d.parameters.length) = some 1 := by decide +kernel
theorem md_X3_init : yX3_init.cls ≠ "java/lang/invoke/MethodHandle" ∧ yX3_init.cls ≠ "java/lang/invoke/VarHandle" ∧ (parseMethodDescriptor yX3_init.desc).map (fun d => d.parameters.length) = some 0 := by decide +kernel
theorem md_X4_init : yX4_init.cls ≠ "java/lang/invoke/MethodHandle" ∧ yX4_init.cls ≠ "java/lang/invoke/VarHandle" ∧ (parseMethodDescriptor yX4_init.desc).map (fun d => d.parameters.length) = some 1 := by decide +kernel
theorem md_X6_init : yX6_init.cls ≠ "java/lang/invoke/MethodHandle" ∧ yX6_init.cls ≠ "java/lang/invoke/VarHandle" ∧ (parseMethodDescriptor yX6_init.desc).map (fun d => d.parameters.length) = some 0 := by decide +kernel
theorem md_X7_init : yX7_init.cls ≠ "java/lang/invoke/MethodHandle" ∧ yX7_init.cls ≠ "java/lang/invoke/VarHandle" ∧ (parseMethodDescriptor yX7_init.desc).map (fun d => d.parameters.length) = some 0 := by decide +kernel
set_option maxHeartbeats 4000000 in
set_option maxRecDepth 100000 in
theorem x_X1_init {l : Launch} {ω : Om} (a : Nat) (pre : va_W) : CTn l ω yX1_init cX1_init 1 1 0 0 [.ref a] ([oO a 0 [.null, .int 0, .int 0, .int 0, .int 0, .int 0, .null]] ++ pre) (fun _ => True) (fun u => [oO a 0 [.null, .int 0, .int 0, .int 0, .int 0, .int 0, .null]] ++ pre) := by
  refine ct_n (by decide) rfl (Nat.le_of_ble_eq_true rfl) ?_
  intro κ hlau hret hini _ C
  show EN κ ω 1 _ _ [oO a 0 [.null, .int 0, .int 0, .int 0, .int 0, .int 0, .null]] 0 0 0 [(0, .ref a)] []
  refine n_aload_n C dX1_init_0 rfl 0 rfl (q := 1) rfl ?_
  refine n_obj C dX1_init_1 wc_143_2605 wc_78_adab wc_79_2a4a (Nat.le_of_ble_eq_true rfl) (Nat.le_of_ble_eq_true rfl) (q := 4) rfl ?_
  exact n_ret C (fun k => [].getD k 0) dX1_init_4 hret (Nat.le_of_ble_eq_true rfl) (Nat.le_of_ble_eq_true rfl) (List.Perm.refl _)
set_option maxHeartbeats 4000000 in
set_option maxRecDepth 100000 in
theorem x_X2_init {l : Launch} {ω : Om} (a t : Nat) (pre : va_W) : CTn l ω yX2_init cX2_init 2 1 7 72 [.ref a, .ref t] ([oO a 1 [.null, .null, .null, .null, .null, .null, .null, .null, .int 0, .int 0, .int 0]] ++ pre) (fun _ => True) (fun u => [oO a 1 [.ref t, .ref (u 0), .ref (u 1), .ref (u 2), .ref (u 3), .ref (u 4), .ref (u 5), .ref (u 6), .int 0, .int 0, .int 0], zI ω (u 0) 6, zI ω (u 1) 6, zI ω (u 2) 6, zI ω (u 3) 6, zI ω (u 4) 6, zI ω (u 5) 6, zI ω (u 6) 36] ++ pre) := by
  refine ct_n (by decide) rfl (Nat.le_of_ble_eq_true rfl) ?_
  intro κ hlau hret hini _ C
  show EN κ ω 2 _ _ [oO a 1 [.null, .null, .null, .null, .null, .null, .null, .null, .int 0, .int 0, .int 0]] 0 0 0 [(0, .ref a), (1, .ref t)] []
  refine n_aload_n C dX2_init_0 rfl 0 rfl (q := 1) rfl ?_
  refine n_obj C dX2_init_1 wc_87_ed64 wc_78_adab wc_79_2a4a (Nat.le_of_ble_eq_true rfl) (Nat.le_of_ble_eq_true rfl) (q := 4) rfl ?_
  refine n_aload_n C dX2_init_4 rfl 0 rfl (q := 5) rfl ?_
  refine n_bipush C dX2_init_5 b8_6 (q := 7) rfl ?_
  refine n_newI C (N := 6) dX2_init_7 wc_137_faec (by decide) (by decide) (Nat.le_of_ble_eq_true rfl) (Nat.le_of_ble_eq_true rfl) (Nat.le_of_ble_eq_true rfl) (q := 9) rfl (fun b1 => ?_)
  show EN κ ω 2 _ _ [oO a 1 [.null, .null, .null, .null, .null, .null, .null, .null, .int 0, .int 0, .int 0], zI ω b1 6] 1 6 9 [(0, .ref a), (1, .ref t)] [.ref b1, .ref a]
  refine n_putF C (k := 0) (j := 1) (ci := 1) (T := TX2) (N := 11) (ms' := [oO a 1 [.null, .ref b1, .null, .null, .null, .null, .null, .null, .int 0, .int 0, .int 0], zI ω b1 6]) hini dX2_init_9 rfl rfl (by decide) in_X2 wc_89_df6c tyX2_ok nmX2 rfl rfl rfl rfl rfl (Nat.le_of_ble_eq_true rfl) rfl (q := 12) rfl ?_
  refine n_aload_n C dX2_init_12 rfl 0 rfl (q := 13) rfl ?_
  refine n_bipush C dX2_init_13 b8_6 (q := 15) rfl ?_
  refine n_newI C (N := 6) dX2_init_15 wc_137_faec (by decide) (by decide) (Nat.le_of_ble_eq_true rfl) (Nat.le_of_ble_eq_true rfl) (Nat.le_of_ble_eq_true rfl) (q := 17) rfl (fun b2 => ?_)
  show EN κ ω 2 _ _ [oO a 1 [.null, .ref b1, .null, .null, .null, .null, .null, .null, .int 0, .int 0, .int 0], zI ω b1 6, zI ω b2 6] 2 12 17 [(0, .ref a), (1, .ref t)] [.ref b2, .ref a]
  refine n_putF C (k := 0) (j := 2) (ci := 1) (T := TX2) (N := 11) (ms' := [oO a 1 [.null, .ref b1, .ref b2, .null, .null, .null, .null, .null, .int 0, .int 0, .int 0], zI ω b1 6, zI ω b2 6]) hini dX2_init_17 rfl rfl (by decide) in_X2 wc_91_d96d tyX2_ok nmX2 rfl rfl rfl rfl rfl (Nat.le_of_ble_eq_true rfl) rfl (q := 20) rfl ?_
  refine n_aload_n C dX2_init_20 rfl 0 rfl (q := 21) rfl ?_
  refine n_bipush C dX2_init_21 b8_6 (q := 23) rfl ?_
  refine n_newI C (N := 6) dX2_init_23 wc_137_faec (by decide) (by decide) (Nat.le_of_ble_eq_true rfl) (Nat.le_of_ble_eq_true rfl) (Nat.le_of_ble_eq_true rfl) (q := 25) rfl (fun b3 => ?_)
  show EN κ ω 2 _ _ [oO a 1 [.null, .ref b1, .ref b2, .null, .null, .null, .null, .null, .int 0, .int 0, .int 0], zI ω b1 6, zI ω b2 6, zI ω b3 6] 3 18 25 [(0, .ref a), (1, .ref t)] [.ref b3, .ref a]
  refine n_putF C (k := 0) (j := 3) (ci := 1) (T := TX2) (N := 11) (ms' := [oO a 1 [.null, .ref b1, .ref b2, .ref b3, .null, .null, .null, .null, .int 0, .int 0, .int 0], zI ω b1 6, zI ω b2 6, zI ω b3 6]) hini dX2_init_25 rfl rfl (by decide) in_X2 wc_94_a4ae tyX2_ok nmX2 rfl rfl rfl rfl rfl (Nat.le_of_ble_eq_true rfl) rfl (q := 28) rfl ?_
  refine n_aload_n C dX2_init_28 rfl 0 rfl (q := 29) rfl ?_
  refine n_bipush C dX2_init_29 b8_6 (q := 31) rfl ?_
  refine n_newI C (N := 6) dX2_init_31 wc_137_faec (by decide) (by decide) (Nat.le_of_ble_eq_true rfl) (Nat.le_of_ble_eq_true rfl) (Nat.le_of_ble_eq_true rfl) (q := 33) rfl (fun b4 => ?_)
  show EN κ ω 2 _ _ [oO a 1 [.null, .ref b1, .ref b2, .ref b3, .null, .null, .null, .null, .int 0, .int 0, .int 0], zI ω b1 6, zI ω b2 6, zI ω b3 6, zI ω b4 6] 4 24 33 [(0, .ref a), (1, .ref t)] [.ref b4, .ref a]
  refine n_putF C (k := 0) (j := 4) (ci := 1) (T := TX2) (N := 11) (ms' := [oO a 1 [.null, .ref b1, .ref b2, .ref b3, .ref b4, .null, .null, .null, .int 0, .int 0, .int 0], zI ω b1 6, zI ω b2 6, zI ω b3 6, zI ω b4 6]) hini dX2_init_33 rfl rfl (by decide) in_X2 wc_96_7846 tyX2_ok nmX2 rfl rfl rfl rfl rfl (Nat.le_of_ble_eq_true rfl) rfl (q := 36) rfl ?_
  refine n_aload_n C dX2_init_36 rfl 0 rfl (q := 37) rfl ?_
  refine n_bipush C dX2_init_37 b8_6 (q := 39) rfl ?_
  refine n_newI C (N := 6) dX2_init_39 wc_137_faec (by decide) (by decide) (Nat.le_of_ble_eq_true rfl) (Nat.le_of_ble_eq_true rfl) (Nat.le_of_ble_eq_true rfl) (q := 41) rfl (fun b5 => ?_)
  show EN κ ω 2 _ _ [oO a 1 [.null, .ref b1, .ref b2, .ref b3, .ref b4, .null, .null, .null, .int 0, .int 0, .int 0], zI ω b1 6, zI ω b2 6, zI ω b3 6, zI ω b4 6, zI ω b5 6] 5 30 41 [(0, .ref a), (1, .ref t)] [.ref b5, .ref a]
  refine n_putF C (k := 0) (j := 5) (ci := 1) (T := TX2) (N := 11) (ms' := [oO a 1 [.null, .ref b1, .ref b2, .ref b3, .ref b4, .ref b5, .null, .null, .int 0, .int 0, .int 0], zI ω b1 6, zI ω b2 6, zI ω b3 6, zI ω b4 6, zI ω b5 6]) hini dX2_init_41 rfl rfl (by decide) in_X2 wc_99_f59e tyX2_ok nmX2 rfl rfl rfl rfl rfl (Nat.le_of_ble_eq_true rfl) rfl (q := 44) rfl ?_
  refine n_aload_n C dX2_init_44 rfl 0 rfl (q := 45) rfl ?_
  refine n_bipush C dX2_init_45 b8_6 (q := 47) rfl ?_
  refine n_newI C (N := 6) dX2_init_47 wc_137_faec (by decide) (by decide) (Nat.le_of_ble_eq_true rfl) (Nat.le_of_ble_eq_true rfl) (Nat.le_of_ble_eq_true rfl) (q := 49) rfl (fun b6 => ?_)
  show EN κ ω 2 _ _ [oO a 1 [.null, .ref b1, .ref b2, .ref b3, .ref b4, .ref b5, .null, .null, .int 0, .int 0, .int 0], zI ω b1 6, zI ω b2 6, zI ω b3 6, zI ω b4 6, zI ω b5 6, zI ω b6 6] 6 36 49 [(0, .ref a), (1, .ref t)] [.ref b6, .ref a]
  refine n_putF C (k := 0) (j := 6) (ci := 1) (T := TX2) (N := 11) (ms' := [oO a 1 [.null, .ref b1, .ref b2, .ref b3, .ref b4, .ref b5, .ref b6, .null, .int 0, .int 0, .int 0], zI ω b1 6, zI ω b2 6, zI ω b3 6, zI ω b4 6, zI ω b5 6, zI ω b6 6]) hini dX2_init_49 rfl rfl (by decide) in_X2 wc_102_f334 tyX2_ok nmX2 rfl rfl rfl rfl rfl (Nat.le_of_ble_eq_true rfl) rfl (q := 52) rfl ?_
  refine n_aload_n C dX2_init_52 rfl 0 rfl (q := 53) rfl ?_
  refine n_bipush C dX2_init_53 b8_36 (q := 55) rfl ?_
  refine n_newI C (N := 36) dX2_init_55 wc_137_faec (by decide) (by decide) (Nat.le_of_ble_eq_true rfl) (Nat.le_of_ble_eq_true rfl) (Nat.le_of_ble_eq_true rfl) (q := 57) rfl (fun b7 => ?_)
  show EN κ ω 2 _ _ [oO a 1 [.null, .ref b1, .ref b2, .ref b3, .ref b4, .ref b5, .ref b6, .null, .int 0, .int 0, .int 0], zI ω b1 6, zI ω b2 6, zI ω b3 6, zI ω b4 6, zI ω b5 6, zI ω b6 6, zI ω b7 36] 7 72 57 [(0, .ref a), (1, .ref t)] [.ref b7, .ref a]
  refine n_putF C (k := 0) (j := 7) (ci := 1) (T := TX2) (N := 11) (ms' := [oO a 1 [.null, .ref b1, .ref b2, .ref b3, .ref b4, .ref b5, .ref b6, .ref b7, .int 0, .int 0, .int 0], zI ω b1 6, zI ω b2 6, zI ω b3 6, zI ω b4 6, zI ω b5 6, zI ω b6 6, zI ω b7 36]) hini dX2_init_57 rfl rfl (by decide) in_X2 wc_105_19df tyX2_ok nmX2 rfl rfl rfl rfl rfl (Nat.le_of_ble_eq_true rfl) rfl (q := 60) rfl ?_
  refine n_aload_n C dX2_init_60 rfl 0 rfl (q := 61) rfl ?_
  refine n_aload_n C dX2_init_61 rfl 1 rfl (q := 62) rfl ?_
  refine n_putF C (k := 0) (j := 0) (ci := 1) (T := TX2) (N := 11) (ms' := [oO a 1 [.ref t, .ref b1, .ref b2, .ref b3, .ref b4, .ref b5, .ref b6, .ref b7, .int 0, .int 0, .int 0], zI ω b1 6, zI ω b2 6, zI ω b3 6, zI ω b4 6, zI ω b5 6, zI ω b6 6, zI ω b7 36]) hini dX2_init_62 rfl rfl (by decide) in_X2 wc_88_f841 tyX2_ok nmX2 rfl rfl rfl rfl rfl (Nat.le_of_ble_eq_true rfl) rfl (q := 65) rfl ?_
  exact n_ret C (fun k => [b1, b2, b3, b4, b5, b6, b7].getD k 0) dX2_init_65 hret (Nat.le_of_ble_eq_true rfl) (Nat.le_of_ble_eq_true rfl) (List.Perm.refl _)
set_option maxHeartbeats 4000000 in
set_option maxRecDepth 100000 in
theorem x_X3_init {l : Launch} {ω : Om} (a : Nat) (pre : va_W) : CTn l ω yX3_init cX3_init 1 1 1 40 [.ref a] ([oO a 2 [.null, .int 0, .int 0]] ++ pre) (fun _ => True) (fun u => [oO a 2 [.ref (u 0), .int (-1 : Int32), .int 0], zI ω (u 0) 40] ++ pre) := by
  refine ct_n (by decide) rfl (Nat.le_of_ble_eq_true rfl) ?_
  intro κ hlau hret hini _ C
  show EN κ ω 1 _ _ [oO a 2 [.null, .int 0, .int 0]] 0 0 0 [(0, .ref a)] []
  refine n_aload_n C dX3_init_0 rfl 0 rfl (q := 1) rfl ?_
  refine n_obj C dX3_init_1 wc_190_f2d8 wc_78_adab wc_79_2a4a (Nat.le_of_ble_eq_true rfl) (Nat.le_of_ble_eq_true rfl) (q := 4) rfl ?_
  refine n_aload_n C dX3_init_4 rfl 0 rfl (q := 5) rfl ?_
  refine n_bipush C dX3_init_5 b8_40 (q := 7) rfl ?_
  refine n_newI C (N := 40) dX3_init_7 wc_137_faec (by decide) (by decide) (Nat.le_of_ble_eq_true rfl) (Nat.le_of_ble_eq_true rfl) (Nat.le_of_ble_eq_true rfl) (q := 9) rfl (fun b1 => ?_)
  show EN κ ω 1 _ _ [oO a 2 [.null, .int 0, .int 0], zI ω b1 40] 1 40 9 [(0, .ref a)] [.ref b1, .ref a]
  refine n_putF C (k := 0) (j := 0) (ci := 2) (T := TX3) (N := 3) (ms' := [oO a 2 [.ref b1, .int 0, .int 0], zI ω b1 40]) hini dX3_init_9 rfl rfl (by decide) in_X3 wc_191_7f64 tyX3_ok nmX3 rfl rfl rfl rfl rfl (Nat.le_of_ble_eq_true rfl) rfl (q := 12) rfl ?_
  refine n_aload_n C dX3_init_12 rfl 0 rfl (q := 13) rfl ?_
  refine n_iconst C dX3_init_13 ic_m1 (q := 14) rfl ?_
  refine n_put C (k := 0) (j := 1) (ci := 2) (T := TX3) (N := 3) (ms' := [oO a 2 [.ref b1, .int (-1 : Int32), .int 0], zI ω b1 40]) dX3_init_14 rfl rfl (by decide) in_X3 wc_193_5a12 tyX3_ok nmX3 rfl rfl rfl rfl (Nat.le_of_ble_eq_true rfl) rfl (q := 17) rfl ?_
  exact n_ret C (fun k => [b1].getD k 0) dX3_init_17 hret (Nat.le_of_ble_eq_true rfl) (Nat.le_of_ble_eq_true rfl) (List.Perm.refl _)
set_option maxHeartbeats 4000000 in
set_option maxRecDepth 100000 in
theorem x_X4_init {l : Launch} {ω : Om} (a t : Nat) (pre : va_W) : CTn l ω yX4_init cX4_init 2 1 2 163 [.ref a, .ref t] ([oO a 3 [.null, .null, .null, .int 0]] ++ pre) (fun _ => True) (fun u => [oO a 3 [.ref t, .ref (u 0), .ref (u 1), .int 0], zI ω (u 0) 160, zI ω (u 1) 3] ++ pre) := by
  refine ct_n (by decide) rfl (Nat.le_of_ble_eq_true rfl) ?_
  intro κ hlau hret hini _ C
  show EN κ ω 2 _ _ [oO a 3 [.null, .null, .null, .int 0]] 0 0 0 [(0, .ref a), (1, .ref t)] []
  refine n_aload_n C dX4_init_0 rfl 0 rfl (q := 1) rfl ?_
  refine n_obj C dX4_init_1 wc_172_d031 wc_78_adab wc_79_2a4a (Nat.le_of_ble_eq_true rfl) (Nat.le_of_ble_eq_true rfl) (q := 4) rfl ?_
  refine n_aload_n C dX4_init_4 rfl 0 rfl (q := 5) rfl ?_
  refine n_sipush C dX4_init_5 b16_160 (q := 8) rfl ?_
  refine n_newI C (N := 160) dX4_init_8 wc_137_faec (by decide) (by decide) (Nat.le_of_ble_eq_true rfl) (Nat.le_of_ble_eq_true rfl) (Nat.le_of_ble_eq_true rfl) (q := 10) rfl (fun b1 => ?_)
  show EN κ ω 2 _ _ [oO a 3 [.null, .null, .null, .int 0], zI ω b1 160] 1 160 10 [(0, .ref a), (1, .ref t)] [.ref b1, .ref a]
  refine n_putF C (k := 0) (j := 1) (ci := 3) (T := TX4) (N := 4) (ms' := [oO a 3 [.null, .ref b1, .null, .int 0], zI ω b1 160]) hini dX4_init_10 rfl rfl (by decide) in_X4 wc_174_6973 tyX4_ok nmX4 rfl rfl rfl rfl rfl (Nat.le_of_ble_eq_true rfl) rfl (q := 13) rfl ?_
  refine n_aload_n C dX4_init_13 rfl 0 rfl (q := 14) rfl ?_
  refine n_iconst C dX4_init_14 ic_3 (q := 15) rfl ?_
  refine n_newI C (N := 3) dX4_init_15 wc_137_faec (by decide) (by decide) (Nat.le_of_ble_eq_true rfl) (Nat.le_of_ble_eq_true rfl) (Nat.le_of_ble_eq_true rfl) (q := 17) rfl (fun b2 => ?_)
  show EN κ ω 2 _ _ [oO a 3 [.null, .ref b1, .null, .int 0], zI ω b1 160, zI ω b2 3] 2 163 17 [(0, .ref a), (1, .ref t)] [.ref b2, .ref a]
  refine n_putF C (k := 0) (j := 2) (ci := 3) (T := TX4) (N := 4) (ms' := [oO a 3 [.null, .ref b1, .ref b2, .int 0], zI ω b1 160, zI ω b2 3]) hini dX4_init_17 rfl rfl (by decide) in_X4 wc_175_f321 tyX4_ok nmX4 rfl rfl rfl rfl rfl (Nat.le_of_ble_eq_true rfl) rfl (q := 20) rfl ?_
  refine n_aload_n C dX4_init_20 rfl 0 rfl (q := 21) rfl ?_
  refine n_aload_n C dX4_init_21 rfl 1 rfl (q := 22) rfl ?_
  refine n_putF C (k := 0) (j := 0) (ci := 3) (T := TX4) (N := 4) (ms' := [oO a 3 [.ref t, .ref b1, .ref b2, .int 0], zI ω b1 160, zI ω b2 3]) hini dX4_init_22 rfl rfl (by decide) in_X4 wc_173_7e4e tyX4_ok nmX4 rfl rfl rfl rfl rfl (Nat.le_of_ble_eq_true rfl) rfl (q := 25) rfl ?_
  exact n_ret C (fun k => [b1, b2].getD k 0) dX4_init_25 hret (Nat.le_of_ble_eq_true rfl) (Nat.le_of_ble_eq_true rfl) (List.Perm.refl _)
