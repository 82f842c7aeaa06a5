/-! WORDS: rows of the tables that the walks use (written by program) -/
theorem ltL {N k b : Nat} (hn : b ≤ N) (h : k < b) : k < N := Nat.lt_of_lt_of_le h hn
theorem ltRg {N ρ : Nat} (hn : 56 ≤ N) (h : ρ < 3) : 2 + 8 * ρ < N := by omega
theorem ltTx {N τ : Nat} (hn : 56 ≤ N) (h : τ < 6) : 30 + 3 * τ < N := by omega
theorem ltSh {N σ : Nat} (hn : 56 ≤ N) (h : σ < 4) : 48 + 2 * σ < N := by omega
theorem ltRgj {N ρ : Nat} (hn : 56 ≤ N) (h : ρ < 3) (j : Nat) (hj : j < 8) : 2 + 8 * ρ + j < N := by omega
theorem ltTxj {N τ : Nat} (hn : 56 ≤ N) (h : τ < 6) (j : Nat) (hj : j < 3) : 30 + 3 * τ + j < N := by omega
theorem ltShj {N σ : Nat} (hn : 56 ≤ N) (h : σ < 4) : 48 + 2 * σ + 1 < N := by omega
theorem set_Rg_8_ {ω : Om} {ρ : Nat} (h : ρ < 3) (f : Nat → Int32) {x : Int32} : (Sum.inr (1, (F_Rg ω (2 + 8 * ρ) f).set 8 (.int x)) : va_E) = cellK ω (2 + 8 * ρ) (upd f 8 x) := (cOb_Rg (ρ := ρ) h _).symm ▸ rfl
theorem set_Rg_9_ {ω : Om} {ρ : Nat} (h : ρ < 3) (f : Nat → Int32) {x : Int32} : (Sum.inr (1, (F_Rg ω (2 + 8 * ρ) f).set 9 (.int x)) : va_E) = cellK ω (2 + 8 * ρ) (upd f 9 x) := (cOb_Rg (ρ := ρ) h _).symm ▸ rfl
theorem set_Rg_10_ {ω : Om} {ρ : Nat} (h : ρ < 3) (f : Nat → Int32) {x : Int32} : (Sum.inr (1, (F_Rg ω (2 + 8 * ρ) f).set 10 (.int x)) : va_E) = cellK ω (2 + 8 * ρ) (upd f 10 x) := (cOb_Rg (ρ := ρ) h _).symm ▸ rfl
theorem set_Sh_1_ {ω : Om} {σ : Nat} (h : σ < 4) (f : Nat → Int32) {x : Int32} : (Sum.inr (2, (F_Sh ω (48 + 2 * σ) f).set 1 (.int x)) : va_E) = cellK ω (48 + 2 * σ) (upd f 1 x) := (cOb_Sh (σ := σ) h _).symm ▸ rfl
theorem set_Sh_2_ {ω : Om} {σ : Nat} (h : σ < 4) (f : Nat → Int32) {x : Int32} : (Sum.inr (2, (F_Sh ω (48 + 2 * σ) f).set 2 (.int x)) : va_E) = cellK ω (48 + 2 * σ) (upd f 2 x) := (cOb_Sh (σ := σ) h _).symm ▸ rfl
theorem set_Tx_3_ {ω : Om} {τ : Nat} (h : τ < 6) (f : Nat → Int32) {x : Int32} : (Sum.inr (3, (F_Tx ω (30 + 3 * τ) f).set 3 (.int x)) : va_E) = cellK ω (30 + 3 * τ) (upd f 3 x) := (cOb_Tx (τ := τ) h _).symm ▸ rfl
theorem set_Ha_7_ {ω : Om} (f : Nat → Int32) {x : Int32} : (Sum.inr (4, (F_Ha ω f).set 7 (.int x)) : va_E) = cellK ω 0 (upd f 7 x) := rfl
theorem set_Ha_8_ {ω : Om} (f : Nat → Int32) {x : Int32} : (Sum.inr (4, (F_Ha ω f).set 8 (.int x)) : va_E) = cellK ω 0 (upd f 8 x) := rfl
theorem set_Ha_9_ {ω : Om} (f : Nat → Int32) {x : Int32} : (Sum.inr (4, (F_Ha ω f).set 9 (.int x)) : va_E) = cellK ω 0 (upd f 9 x) := rfl
theorem set_Rd_1_ {ω : Om} (f : Nat → Int32) {x : Int32} : (Sum.inr (0, (F_Rd ω f).set 1 (.int x)) : va_E) = cellK ω 26 (upd f 1 x) := rfl
theorem set_Rd_2_ {ω : Om} (f : Nat → Int32) {x : Int32} : (Sum.inr (0, (F_Rd ω f).set 2 (.int x)) : va_E) = cellK ω 26 (upd f 2 x) := rfl
theorem set_Rd_3_ {ω : Om} (f : Nat → Int32) {x : Int32} : (Sum.inr (0, (F_Rd ω f).set 3 (.int x)) : va_E) = cellK ω 26 (upd f 3 x) := rfl
theorem set_Rd_4_ {ω : Om} (f : Nat → Int32) {x : Int32} : (Sum.inr (0, (F_Rd ω f).set 4 (.int x)) : va_E) = cellK ω 26 (upd f 4 x) := rfl
theorem set_Rd_5_ {ω : Om} (f : Nat → Int32) {x : Int32} : (Sum.inr (0, (F_Rd ω f).set 5 (.int x)) : va_E) = cellK ω 26 (upd f 5 x) := rfl
theorem set_Mo_0_ {ω : Om} (f : Nat → Int32) {x : Int32} : (Sum.inr (5, (F_Mo ω f).set 0 (.int x)) : va_E) = cellK ω 56 (upd f 0 x) := rfl
theorem set_Mo_5_ {ω : Om} (f : Nat → Int32) {x : Int32} : (Sum.inr (5, (F_Mo ω f).set 5 (.int x)) : va_E) = cellK ω 56 (upd f 5 x) := rfl
theorem set_Mo_7_ {ω : Om} (f : Nat → Int32) {x : Int32} : (Sum.inr (5, (F_Mo ω f).set 7 (.int x)) : va_E) = cellK ω 56 (upd f 7 x) := rfl
theorem set_Mo_10_ {ω : Om} (f : Nat → Int32) {x : Int32} : (Sum.inr (5, (F_Mo ω f).set 10 (.int x)) : va_E) = cellK ω 56 (upd f 10 x) := rfl
theorem set_Mo_11_ {ω : Om} (f : Nat → Int32) {x : Int32} : (Sum.inr (5, (F_Mo ω f).set 11 (.int x)) : va_E) = cellK ω 56 (upd f 11 x) := rfl
theorem set_Mo_12_ {ω : Om} (f : Nat → Int32) {x : Int32} : (Sum.inr (5, (F_Mo ω f).set 12 (.int x)) : va_E) = cellK ω 56 (upd f 12 x) := rfl
theorem set_Mo_19_ {ω : Om} (f : Nat → Int32) {x : Int32} : (Sum.inr (5, (F_Mo ω f).set 19 (.int x)) : va_E) = cellK ω 56 (upd f 19 x) := rfl
theorem set_Mo_20_ {ω : Om} (f : Nat → Int32) {x : Int32} : (Sum.inr (5, (F_Mo ω f).set 20 (.int x)) : va_E) = cellK ω 56 (upd f 20 x) := rfl
theorem set_Mo_21_ {ω : Om} (f : Nat → Int32) {x : Int32} : (Sum.inr (5, (F_Mo ω f).set 21 (.int x)) : va_E) = cellK ω 56 (upd f 21 x) := rfl
theorem set_Mo_22_ {ω : Om} (f : Nat → Int32) {x : Int32} : (Sum.inr (5, (F_Mo ω f).set 22 (.int x)) : va_E) = cellK ω 56 (upd f 22 x) := rfl
theorem set_Mo_25_ {ω : Om} (f : Nat → Int32) {x : Int32} : (Sum.inr (5, (F_Mo ω f).set 25 (.int x)) : va_E) = cellK ω 56 (upd f 25 x) := rfl
theorem set_Mo_26_ {ω : Om} (f : Nat → Int32) {x : Int32} : (Sum.inr (5, (F_Mo ω f).set 26 (.int x)) : va_E) = cellK ω 56 (upd f 26 x) := rfl
theorem set_Mo_27_ {ω : Om} (f : Nat → Int32) {x : Int32} : (Sum.inr (5, (F_Mo ω f).set 27 (.int x)) : va_E) = cellK ω 56 (upd f 27 x) := rfl
theorem set_Mo_31_ {ω : Om} (f : Nat → Int32) {x : Int32} : (Sum.inr (5, (F_Mo ω f).set 31 (.int x)) : va_E) = cellK ω 56 (upd f 31 x) := rfl
theorem set_Rd_6 {ω : Om} {τ : Nat} (h : τ < 6) (f : Nat → Int32) : (Sum.inr (0, (F_Rd ω f).set 6 (.ref (oA ω (30 + 3 * τ)))) : va_E) = cellK ω 26 (upd f 6 (nI (τ + 1))) := by
  rw [← rfo_put h]
  rfl
theorem ic_0 : Int32.ofInt (0) = (0 : Int32) := by decide
theorem ic_1 : Int32.ofInt (1) = (1 : Int32) := by decide
theorem b8_6 : (Int8.ofInt (6)).toInt32 = (6 : Int32) := by decide
theorem ic_5 : Int32.ofInt (5) = (5 : Int32) := by decide
theorem ic_3 : Int32.ofInt (3) = (3 : Int32) := by decide
theorem ic_2 : Int32.ofInt (2) = (2 : Int32) := by decide
theorem b8_97 : (Int8.ofInt (97)).toInt32 = (97 : Int32) := by decide
theorem b8_122 : (Int8.ofInt (122)).toInt32 = (122 : Int32) := by decide
theorem b8_m2 : (Int8.ofInt (-2)).toInt32 = (-2 : Int32) := by decide
theorem b8_m14 : (Int8.ofInt (-14)).toInt32 = (-14 : Int32) := by decide
theorem b8_m13 : (Int8.ofInt (-13)).toInt32 = (-13 : Int32) := by decide
theorem b8_m12 : (Int8.ofInt (-12)).toInt32 = (-12 : Int32) := by decide
theorem b8_m11 : (Int8.ofInt (-11)).toInt32 = (-11 : Int32) := by decide
theorem b8_m10 : (Int8.ofInt (-10)).toInt32 = (-10 : Int32) := by decide
theorem b8_m9 : (Int8.ofInt (-9)).toInt32 = (-9 : Int32) := by decide
theorem b8_m8 : (Int8.ofInt (-8)).toInt32 = (-8 : Int32) := by decide
theorem b8_m7 : (Int8.ofInt (-7)).toInt32 = (-7 : Int32) := by decide
theorem b8_m6 : (Int8.ofInt (-6)).toInt32 = (-6 : Int32) := by decide
theorem b8_m5 : (Int8.ofInt (-5)).toInt32 = (-5 : Int32) := by decide
theorem b8_m4 : (Int8.ofInt (-4)).toInt32 = (-4 : Int32) := by decide
theorem b8_m3 : (Int8.ofInt (-3)).toInt32 = (-3 : Int32) := by decide
theorem b8_48 : (Int8.ofInt (48)).toInt32 = (48 : Int32) := by decide
theorem b8_57 : (Int8.ofInt (57)).toInt32 = (57 : Int32) := by decide
theorem ic_4 : Int32.ofInt (4) = (4 : Int32) := by decide
theorem b8_10 : (Int8.ofInt (10)).toInt32 = (10 : Int32) := by decide
theorem b8_m22 : (Int8.ofInt (-22)).toInt32 = (-22 : Int32) := by decide
theorem b8_m21 : (Int8.ofInt (-21)).toInt32 = (-21 : Int32) := by decide
theorem b8_m17 : (Int8.ofInt (-17)).toInt32 = (-17 : Int32) := by decide
theorem b8_m19 : (Int8.ofInt (-19)).toInt32 = (-19 : Int32) := by decide
theorem b8_m18 : (Int8.ofInt (-18)).toInt32 = (-18 : Int32) := by decide
theorem b8_m20 : (Int8.ofInt (-20)).toInt32 = (-20 : Int32) := by decide
theorem b8_m16 : (Int8.ofInt (-16)).toInt32 = (-16 : Int32) := by decide
theorem b8_m15 : (Int8.ofInt (-15)).toInt32 = (-15 : Int32) := by decide
theorem ic_m1 : Int32.ofInt (-1) = (-1 : Int32) := by decide
theorem b8_32 : (Int8.ofInt (32)).toInt32 = (32 : Int32) := by decide
theorem b8_36 : (Int8.ofInt (36)).toInt32 = (36 : Int32) := by decide
theorem b8_100 : (Int8.ofInt (100)).toInt32 = (100 : Int32) := by decide
theorem b8_8 : (Int8.ofInt (8)).toInt32 = (8 : Int32) := by decide
theorem b8_64 : (Int8.ofInt (64)).toInt32 = (64 : Int32) := by decide
theorem b8_99 : (Int8.ofInt (99)).toInt32 = (99 : Int32) := by decide
theorem b8_m99 : (Int8.ofInt (-99)).toInt32 = (-99 : Int32) := by decide
theorem b8_m23 : (Int8.ofInt (-23)).toInt32 = (-23 : Int32) := by decide
theorem b16_255 : (Int16.ofInt (255)).toInt32 = (255 : Int32) := by decide
theorem b16_160 : (Int16.ofInt (160)).toInt32 = (160 : Int32) := by decide
theorem b16_m1000 : (Int16.ofInt (-1000)).toInt32 = (-1000 : Int32) := by decide
theorem b8_59 : (Int8.ofInt (59)).toInt32 = (59 : Int32) := by decide
theorem b8_63 : (Int8.ofInt (63)).toInt32 = (63 : Int32) := by decide
theorem b16_9999 : (Int16.ofInt (9999)).toInt32 = (9999 : Int32) := by decide
theorem b16_1000 : (Int16.ofInt (1000)).toInt32 = (1000 : Int32) := by decide
theorem b16_999 : (Int16.ofInt (999)).toInt32 = (999 : Int32) := by decide
theorem b8_60 : (Int8.ofInt (60)).toInt32 = (60 : Int32) := by decide
theorem b8_16 : (Int8.ofInt (16)).toInt32 = (16 : Int32) := by decide
theorem b8_40 : (Int8.ofInt (40)).toInt32 = (40 : Int32) := by decide
theorem b8_20 : (Int8.ofInt (20)).toInt32 = (20 : Int32) := by decide
theorem b8_11 : (Int8.ofInt (11)).toInt32 = (11 : Int32) := by decide
theorem b8_12 : (Int8.ofInt (12)).toInt32 = (12 : Int32) := by decide
theorem b8_41 : (Int8.ofInt (41)).toInt32 = (41 : Int32) := by decide
theorem b8_43 : (Int8.ofInt (43)).toInt32 = (43 : Int32) := by decide
theorem b8_45 : (Int8.ofInt (45)).toInt32 = (45 : Int32) := by decide
theorem b8_42 : (Int8.ofInt (42)).toInt32 = (42 : Int32) := by decide
theorem b8_61 : (Int8.ofInt (61)).toInt32 = (61 : Int32) := by decide
theorem b8_9 : (Int8.ofInt (9)).toInt32 = (9 : Int32) := by decide
theorem b8_13 : (Int8.ofInt (13)).toInt32 = (13 : Int32) := by decide
theorem b8_15 : (Int8.ofInt (15)).toInt32 = (15 : Int32) := by decide
theorem b8_17 : (Int8.ofInt (17)).toInt32 = (17 : Int32) := by decide
theorem b8_18 : (Int8.ofInt (18)).toInt32 = (18 : Int32) := by decide
theorem b8_7 : (Int8.ofInt (7)).toInt32 = (7 : Int32) := by decide
theorem b16_200 : (Int16.ofInt (200)).toInt32 = (200 : Int32) := by decide
theorem b8_19 : (Int8.ofInt (19)).toInt32 = (19 : Int32) := by decide
theorem b8_14 : (Int8.ofInt (14)).toInt32 = (14 : Int32) := by decide
theorem b8_m100 : (Int8.ofInt (-100)).toInt32 = (-100 : Int32) := by decide
theorem b8_24 : (Int8.ofInt (24)).toInt32 = (24 : Int32) := by decide
theorem b8_30 : (Int8.ofInt (30)).toInt32 = (30 : Int32) := by decide
theorem b8_39 : (Int8.ofInt (39)).toInt32 = (39 : Int32) := by decide
theorem ic_7 : Int32.ofInt (7) = (7 : Int32) := by decide
theorem in_X1 : ∀ w ∈ u_ws RX1 TX1 7, w ∈ TT := by decide +kernel
theorem in_X2 : ∀ w ∈ u_ws RX2 TX2 11, w ∈ TT := by decide +kernel
theorem in_X3 : ∀ w ∈ u_ws RX3 TX3 3, w ∈ TT := by decide +kernel
theorem in_X4 : ∀ w ∈ u_ws RX4 TX4 4, w ∈ TT := by decide +kernel
theorem in_X6 : ∀ w ∈ u_ws RX6 TX6 10, w ∈ TT := by decide +kernel
theorem in_X7 : ∀ w ∈ u_ws RX7 TX7 32, w ∈ TT := by decide +kernel
theorem w_56 : Cond.initialized "HatsInRing" ∈ TT := TT_in (i := 56) (by decide +kernel) (by decide +kernel)
theorem w_392 : Cond.code yX6_within cX6_within 3 (some .boolean) ∈ TT := TT_in (i := 392) (by decide +kernel) (by decide +kernel)
theorem w_391 : Cond.static yX6_within ∈ TT := TT_in (i := 391) (by decide +kernel) (by decide +kernel)
theorem w_707 : Cond.fieldLink yX0_isOne.cls 13 "HatsInRing$Kinds" "ABOVE" "[I" ∈ TT := TT_in (i := 707) (by decide +kernel) (by decide +kernel)
theorem w_176 : Cond.fieldLink yX4_clear.cls 21 (TX4 3).1 (TX4 3).2.1 (TX4 3).2.2.1 ∈ TT := TT_in (i := 176) (by decide +kernel) (by decide +kernel)
theorem w_146 : Cond.fieldLink yX1_spells.cls 25 (TX1 2).1 (TX1 2).2.1 (TX1 2).2.2.1 ∈ TT := TT_in (i := 146) (by decide +kernel) (by decide +kernel)
theorem w_147 : Cond.fieldLink yX1_spells.cls 83 (TX1 3).1 (TX1 3).2.1 (TX1 3).2.2.1 ∈ TT := TT_in (i := 147) (by decide +kernel) (by decide +kernel)
theorem w_280 : Cond.methodLink yX1_spells.cls 131 yJ0_length_8abf5 ∈ TT := TT_in (i := 280) (by decide +kernel) (by decide +kernel)
theorem w_61 : Cond.initialized "java/lang/String" ∈ TT := TT_in (i := 61) (by decide +kernel) (by decide +kernel)
theorem w_208 : Cond.code yJ0_length_8abf5 cJ0_length_8abf5 1 (some .int) ∈ TT := TT_in (i := 208) (by decide +kernel) (by decide +kernel)
theorem w_206 : Cond.instanceMethod yJ0_length_8abf5 ∈ TT := TT_in (i := 206) (by decide +kernel) (by decide +kernel)
theorem w_207 : Cond.selects yJ0_length_8abf5.cls yJ0_length_8abf5 yJ0_length_8abf5 ∈ TT := TT_in (i := 207) (by decide +kernel) (by decide +kernel)
theorem w_144 : Cond.fieldLink yX1_spells.cls 9 (TX1 0).1 (TX1 0).2.1 (TX1 0).2.2.1 ∈ TT := TT_in (i := 144) (by decide +kernel) (by decide +kernel)
theorem w_281 : Cond.methodLink yX1_spells.cls 136 yJ0_charAt_5068e ∈ TT := TT_in (i := 281) (by decide +kernel) (by decide +kernel)
theorem w_218 : Cond.code yJ0_charAt_5068e cJ0_charAt_5068e 2 (some .char) ∈ TT := TT_in (i := 218) (by decide +kernel) (by decide +kernel)
theorem w_216 : Cond.instanceMethod yJ0_charAt_5068e ∈ TT := TT_in (i := 216) (by decide +kernel) (by decide +kernel)
theorem w_217 : Cond.selects yJ0_charAt_5068e.cls yJ0_charAt_5068e yJ0_charAt_5068e ∈ TT := TT_in (i := 217) (by decide +kernel) (by decide +kernel)
theorem w_145 : Cond.fieldLink yX1_nextWord.cls 21 (TX1 1).1 (TX1 1).2.1 (TX1 1).2.2.1 ∈ TT := TT_in (i := 145) (by decide +kernel) (by decide +kernel)
theorem w_276 : Cond.methodLink yX1_nextWord.cls 105 yX1_spells ∈ TT := TT_in (i := 276) (by decide +kernel) (by decide +kernel)
theorem w_58 : Cond.initialized "HatsInRing$Reader" ∈ TT := TT_in (i := 58) (by decide +kernel) (by decide +kernel)
theorem w_279 : Cond.code yX1_spells cX1_spells 3 (some .boolean) ∈ TT := TT_in (i := 279) (by decide +kernel) (by decide +kernel)
theorem w_278 : Cond.instanceMethod yX1_spells ∈ TT := TT_in (i := 278) (by decide +kernel) (by decide +kernel)
theorem w_2 : Cond.selects yX1_spells.cls yX1_spells yX1_spells ∈ TT := TT_in (i := 2) (by decide +kernel) (by decide +kernel)
theorem w_268 : Cond.methodLink yX1_nextWord.cls 86 yX1_isLetter ∈ TT := TT_in (i := 268) (by decide +kernel) (by decide +kernel)
theorem w_270 : Cond.code yX1_isLetter cX1_isLetter 1 (some .boolean) ∈ TT := TT_in (i := 270) (by decide +kernel) (by decide +kernel)
theorem w_269 : Cond.static yX1_isLetter ∈ TT := TT_in (i := 269) (by decide +kernel) (by decide +kernel)
theorem w_293 : Cond.methodLink yX1_nextNumber.cls 93 yX1_isDigit ∈ TT := TT_in (i := 293) (by decide +kernel) (by decide +kernel)
theorem w_295 : Cond.code yX1_isDigit cX1_isDigit 1 (some .boolean) ∈ TT := TT_in (i := 295) (by decide +kernel) (by decide +kernel)
theorem w_294 : Cond.static yX1_isDigit ∈ TT := TT_in (i := 294) (by decide +kernel) (by decide +kernel)
theorem w_300 : Cond.methodLink yX1_next.cls 99 yX5_ofSign ∈ TT := TT_in (i := 300) (by decide +kernel) (by decide +kernel)
theorem w_66 : Cond.initialized "HatsInRing$Token" ∈ TT := TT_in (i := 66) (by decide +kernel) (by decide +kernel)
theorem w_302 : Cond.code yX5_ofSign cX5_ofSign 1 (some .int) ∈ TT := TT_in (i := 302) (by decide +kernel) (by decide +kernel)
theorem w_301 : Cond.static yX5_ofSign ∈ TT := TT_in (i := 301) (by decide +kernel) (by decide +kernel)
theorem w_148 : Cond.fieldLink yX1_next.cls 55 (TX1 4).1 (TX1 4).2.1 (TX1 4).2.2.1 ∈ TT := TT_in (i := 148) (by decide +kernel) (by decide +kernel)
theorem w_296 : Cond.methodLink yX1_next.cls 96 yX1_nextNumber ∈ TT := TT_in (i := 296) (by decide +kernel) (by decide +kernel)
theorem w_299 : Cond.code yX1_nextNumber cX1_nextNumber 2 (some .int) ∈ TT := TT_in (i := 299) (by decide +kernel) (by decide +kernel)
theorem w_298 : Cond.instanceMethod yX1_nextNumber ∈ TT := TT_in (i := 298) (by decide +kernel) (by decide +kernel)
theorem w_3 : Cond.selects yX1_nextNumber.cls yX1_nextNumber yX1_nextNumber ∈ TT := TT_in (i := 3) (by decide +kernel) (by decide +kernel)
theorem w_271 : Cond.methodLink yX1_next.cls 89 yX1_nextWord ∈ TT := TT_in (i := 271) (by decide +kernel) (by decide +kernel)
theorem w_274 : Cond.code yX1_nextWord cX1_nextWord 1 (some .int) ∈ TT := TT_in (i := 274) (by decide +kernel) (by decide +kernel)
theorem w_273 : Cond.instanceMethod yX1_nextWord ∈ TT := TT_in (i := 273) (by decide +kernel) (by decide +kernel)
theorem w_1 : Cond.selects yX1_nextWord.cls yX1_nextWord yX1_nextWord ∈ TT := TT_in (i := 1) (by decide +kernel) (by decide +kernel)
theorem w_149 : Cond.fieldLink yX1_refuse.cls 28 (TX1 5).1 (TX1 5).2.1 (TX1 5).2.2.1 ∈ TT := TT_in (i := 149) (by decide +kernel) (by decide +kernel)
theorem w_307 : Cond.methodLink yX1_expect.cls 58 yX1_refuse ∈ TT := TT_in (i := 307) (by decide +kernel) (by decide +kernel)
theorem w_310 : Cond.code yX1_refuse cX1_refuse 1 none ∈ TT := TT_in (i := 310) (by decide +kernel) (by decide +kernel)
theorem w_309 : Cond.instanceMethod yX1_refuse ∈ TT := TT_in (i := 309) (by decide +kernel) (by decide +kernel)
theorem w_5 : Cond.selects yX1_refuse.cls yX1_refuse yX1_refuse ∈ TT := TT_in (i := 5) (by decide +kernel) (by decide +kernel)
theorem w_264 : Cond.methodLink yX1_expect.cls 40 yX1_next ∈ TT := TT_in (i := 264) (by decide +kernel) (by decide +kernel)
theorem w_267 : Cond.code yX1_next cX1_next 1 none ∈ TT := TT_in (i := 267) (by decide +kernel) (by decide +kernel)
theorem w_266 : Cond.instanceMethod yX1_next ∈ TT := TT_in (i := 266) (by decide +kernel) (by decide +kernel)
theorem w_0 : Cond.selects yX1_next.cls yX1_next yX1_next ∈ TT := TT_in (i := 0) (by decide +kernel) (by decide +kernel)
theorem w_174 : Cond.fieldLink yX4_write.cls 9 (TX4 1).1 (TX4 1).2.1 (TX4 1).2.2.1 ∈ TT := TT_in (i := 174) (by decide +kernel) (by decide +kernel)
theorem w_175 : Cond.fieldLink yX4_endPart.cls 15 (TX4 2).1 (TX4 2).2.1 (TX4 2).2.2.1 ∈ TT := TT_in (i := 175) (by decide +kernel) (by decide +kernel)
theorem w_89 : Cond.fieldLink yX2_become.cls 9 (TX2 1).1 (TX2 1).2.1 (TX2 1).2.2.1 ∈ TT := TT_in (i := 89) (by decide +kernel) (by decide +kernel)
theorem w_528 : Cond.methodLink yX2_become.cls 37 arraycopyName ∈ TT := TT_in (i := 528) (by decide +kernel) (by decide +kernel)
theorem w_530 : Cond.native arraycopyName ∈ TT := TT_in (i := 530) (by decide +kernel) (by decide +kernel)
theorem w_529 : Cond.static arraycopyName ∈ TT := TT_in (i := 529) (by decide +kernel) (by decide +kernel)
theorem w_69 : Cond.initialized "java/lang/System" ∈ TT := TT_in (i := 69) (by decide +kernel) (by decide +kernel)
theorem w_91 : Cond.fieldLink yX2_become.cls 15 (TX2 2).1 (TX2 2).2.1 (TX2 2).2.2.1 ∈ TT := TT_in (i := 91) (by decide +kernel) (by decide +kernel)
theorem w_94 : Cond.fieldLink yX2_become.cls 18 (TX2 3).1 (TX2 3).2.1 (TX2 3).2.2.1 ∈ TT := TT_in (i := 94) (by decide +kernel) (by decide +kernel)
theorem w_96 : Cond.fieldLink yX2_become.cls 21 (TX2 4).1 (TX2 4).2.1 (TX2 4).2.2.1 ∈ TT := TT_in (i := 96) (by decide +kernel) (by decide +kernel)
theorem w_99 : Cond.fieldLink yX2_become.cls 24 (TX2 5).1 (TX2 5).2.1 (TX2 5).2.2.1 ∈ TT := TT_in (i := 99) (by decide +kernel) (by decide +kernel)
theorem w_102 : Cond.fieldLink yX2_become.cls 27 (TX2 6).1 (TX2 6).2.1 (TX2 6).2.2.1 ∈ TT := TT_in (i := 102) (by decide +kernel) (by decide +kernel)
theorem w_105 : Cond.fieldLink yX2_become.cls 30 (TX2 7).1 (TX2 7).2.1 (TX2 7).2.2.1 ∈ TT := TT_in (i := 105) (by decide +kernel) (by decide +kernel)
theorem w_108 : Cond.fieldLink yX2_become.cls 43 (TX2 8).1 (TX2 8).2.1 (TX2 8).2.2.1 ∈ TT := TT_in (i := 108) (by decide +kernel) (by decide +kernel)
theorem w_110 : Cond.fieldLink yX2_become.cls 47 (TX2 9).1 (TX2 9).2.1 (TX2 9).2.2.1 ∈ TT := TT_in (i := 110) (by decide +kernel) (by decide +kernel)
theorem w_113 : Cond.fieldLink yX2_become.cls 50 (TX2 10).1 (TX2 10).2.1 (TX2 10).2.2.1 ∈ TT := TT_in (i := 113) (by decide +kernel) (by decide +kernel)
theorem w_464 : Cond.methodLink yX2_far.cls 53 Lib.Math.abs.name ∈ TT := TT_in (i := 464) (by decide +kernel) (by decide +kernel)
theorem w_465 : Cond.static Lib.Math.abs.name ∈ TT := TT_in (i := 465) (by decide +kernel) (by decide +kernel)
theorem w_65 : Cond.initialized "java/lang/Math" ∈ TT := TT_in (i := 65) (by decide +kernel) (by decide +kernel)
theorem w_466 : Cond.code Lib.Math.abs.name Lib.Math.abs.code 1 (some .int) ∈ TT := TT_in (i := 466) (by decide +kernel) (by decide +kernel)
theorem w_460 : Cond.methodLink yX2_nearest.cls 59 yX2_far ∈ TT := TT_in (i := 460) (by decide +kernel) (by decide +kernel)
theorem w_57 : Cond.initialized "HatsInRing$Ring" ∈ TT := TT_in (i := 57) (by decide +kernel) (by decide +kernel)
theorem w_463 : Cond.code yX2_far cX2_far 3 (some .int) ∈ TT := TT_in (i := 463) (by decide +kernel) (by decide +kernel)
theorem w_461 : Cond.instanceMethod yX2_far ∈ TT := TT_in (i := 461) (by decide +kernel) (by decide +kernel)
theorem w_462 : Cond.selects yX2_far.cls yX2_far yX2_far ∈ TT := TT_in (i := 462) (by decide +kernel) (by decide +kernel)
theorem w_92 : Cond.fieldLink yX4_fact.cls 66 (TX2 2).1 (TX2 2).2.1 (TX2 2).2.2.1 ∈ TT := TT_in (i := 92) (by decide +kernel) (by decide +kernel)
theorem w_97 : Cond.fieldLink yX4_fact.cls 48 (TX2 4).1 (TX2 4).2.1 (TX2 4).2.2.1 ∈ TT := TT_in (i := 97) (by decide +kernel) (by decide +kernel)
theorem w_100 : Cond.fieldLink yX4_fact.cls 53 (TX2 5).1 (TX2 5).2.1 (TX2 5).2.2.1 ∈ TT := TT_in (i := 100) (by decide +kernel) (by decide +kernel)
theorem w_111 : Cond.fieldLink yX4_fact.cls 56 (TX2 9).1 (TX2 9).2.1 (TX2 9).2.2.1 ∈ TT := TT_in (i := 111) (by decide +kernel) (by decide +kernel)
theorem w_420 : Cond.methodLink yX4_fact.cls 59 yX2_upCount ∈ TT := TT_in (i := 420) (by decide +kernel) (by decide +kernel)
theorem w_385 : Cond.code yX2_upCount cX2_upCount 3 (some .int) ∈ TT := TT_in (i := 385) (by decide +kernel) (by decide +kernel)
theorem w_383 : Cond.instanceMethod yX2_upCount ∈ TT := TT_in (i := 383) (by decide +kernel) (by decide +kernel)
theorem w_384 : Cond.selects yX2_upCount.cls yX2_upCount yX2_upCount ∈ TT := TT_in (i := 384) (by decide +kernel) (by decide +kernel)
theorem w_103 : Cond.fieldLink yX4_fact.cls 63 (TX2 6).1 (TX2 6).2.1 (TX2 6).2.2.1 ∈ TT := TT_in (i := 103) (by decide +kernel) (by decide +kernel)
theorem w_173 : Cond.fieldLink yX4_says.cls 18 (TX4 0).1 (TX4 0).2.1 (TX4 0).2.2.1 ∈ TT := TT_in (i := 173) (by decide +kernel) (by decide +kernel)
theorem w_424 : Cond.methodLink yX4_says.cls 39 Lib.Math.min.name ∈ TT := TT_in (i := 424) (by decide +kernel) (by decide +kernel)
theorem w_258 : Cond.static Lib.Math.min.name ∈ TT := TT_in (i := 258) (by decide +kernel) (by decide +kernel)
theorem w_259 : Cond.code Lib.Math.min.name Lib.Math.min.code 2 (some .int) ∈ TT := TT_in (i := 259) (by decide +kernel) (by decide +kernel)
theorem w_425 : Cond.methodLink yX4_says.cls 45 Lib.Math.max.name ∈ TT := TT_in (i := 425) (by decide +kernel) (by decide +kernel)
theorem w_426 : Cond.static Lib.Math.max.name ∈ TT := TT_in (i := 426) (by decide +kernel) (by decide +kernel)
theorem w_427 : Cond.code Lib.Math.max.name Lib.Math.max.code 2 (some .int) ∈ TT := TT_in (i := 427) (by decide +kernel) (by decide +kernel)
theorem w_421 : Cond.methodLink yX4_says.cls 35 yX4_joined ∈ TT := TT_in (i := 421) (by decide +kernel) (by decide +kernel)
theorem w_59 : Cond.initialized "HatsInRing$Text" ∈ TT := TT_in (i := 59) (by decide +kernel) (by decide +kernel)
theorem w_423 : Cond.code yX4_joined cX4_joined 3 (some .int) ∈ TT := TT_in (i := 423) (by decide +kernel) (by decide +kernel)
theorem w_422 : Cond.static yX4_joined ∈ TT := TT_in (i := 422) (by decide +kernel) (by decide +kernel)
theorem w_417 : Cond.methodLink yX4_says.cls 31 yX4_fact ∈ TT := TT_in (i := 417) (by decide +kernel) (by decide +kernel)
theorem w_419 : Cond.code yX4_fact cX4_fact 3 (some .int) ∈ TT := TT_in (i := 419) (by decide +kernel) (by decide +kernel)
theorem w_418 : Cond.static yX4_fact ∈ TT := TT_in (i := 418) (by decide +kernel) (by decide +kernel)
theorem w_416 : Cond.methodLink yX4_says.cls 25 yX5_isName ∈ TT := TT_in (i := 416) (by decide +kernel) (by decide +kernel)
theorem w_341 : Cond.code yX5_isName cX5_isName 1 (some .boolean) ∈ TT := TT_in (i := 341) (by decide +kernel) (by decide +kernel)
theorem w_340 : Cond.static yX5_isName ∈ TT := TT_in (i := 340) (by decide +kernel) (by decide +kernel)
theorem w_88 : Cond.fieldLink yX2_goes.cls 33 (TX2 0).1 (TX2 0).2.1 (TX2 0).2.2.1 ∈ TT := TT_in (i := 88) (by decide +kernel) (by decide +kernel)
theorem w_452 : Cond.methodLink yX2_goes.cls 63 yX4_says ∈ TT := TT_in (i := 452) (by decide +kernel) (by decide +kernel)
theorem w_415 : Cond.code yX4_says cX4_says 8 (some .int) ∈ TT := TT_in (i := 415) (by decide +kernel) (by decide +kernel)
theorem w_413 : Cond.instanceMethod yX4_says ∈ TT := TT_in (i := 413) (by decide +kernel) (by decide +kernel)
theorem w_414 : Cond.selects yX4_says.cls yX4_says yX4_says ∈ TT := TT_in (i := 414) (by decide +kernel) (by decide +kernel)
theorem w_453 : Cond.methodLink yX2_goes.cls 69 yX0_goes ∈ TT := TT_in (i := 453) (by decide +kernel) (by decide +kernel)
theorem w_68 : Cond.initialized "HatsInRing$Kinds" ∈ TT := TT_in (i := 68) (by decide +kernel) (by decide +kernel)
theorem w_455 : Cond.code yX0_goes cX0_goes 4 (some .boolean) ∈ TT := TT_in (i := 455) (by decide +kernel) (by decide +kernel)
theorem w_454 : Cond.static yX0_goes ∈ TT := TT_in (i := 454) (by decide +kernel) (by decide +kernel)
theorem w_482 : Cond.methodLink yX2_hits.cls 75 yX0_hits ∈ TT := TT_in (i := 482) (by decide +kernel) (by decide +kernel)
theorem w_484 : Cond.code yX0_hits cX0_hits 6 (some .int) ∈ TT := TT_in (i := 484) (by decide +kernel) (by decide +kernel)
theorem w_483 : Cond.static yX0_hits ∈ TT := TT_in (i := 483) (by decide +kernel) (by decide +kernel)
theorem w_471 : Cond.methodLink yX2_soft.cls 79 yX0_soft ∈ TT := TT_in (i := 471) (by decide +kernel) (by decide +kernel)
theorem w_473 : Cond.code yX0_soft cX0_soft 3 (some .int) ∈ TT := TT_in (i := 473) (by decide +kernel) (by decide +kernel)
theorem w_472 : Cond.static yX0_soft ∈ TT := TT_in (i := 472) (by decide +kernel) (by decide +kernel)
theorem w_488 : Cond.methodLink yX2_blow.cls 83 Lib.Math.min.name ∈ TT := TT_in (i := 488) (by decide +kernel) (by decide +kernel)
theorem w_489 : Cond.methodLink yX2_blow.cls 86 Lib.Math.max.name ∈ TT := TT_in (i := 489) (by decide +kernel) (by decide +kernel)
theorem w_505 : Cond.methodLink yX2_play.cls 99 yX2_hits ∈ TT := TT_in (i := 505) (by decide +kernel) (by decide +kernel)
theorem w_481 : Cond.code yX2_hits cX2_hits 3 (some .int) ∈ TT := TT_in (i := 481) (by decide +kernel) (by decide +kernel)
theorem w_479 : Cond.instanceMethod yX2_hits ∈ TT := TT_in (i := 479) (by decide +kernel) (by decide +kernel)
theorem w_480 : Cond.selects yX2_hits.cls yX2_hits yX2_hits ∈ TT := TT_in (i := 480) (by decide +kernel) (by decide +kernel)
theorem w_506 : Cond.methodLink yX2_play.cls 101 yX2_soft ∈ TT := TT_in (i := 506) (by decide +kernel) (by decide +kernel)
theorem w_470 : Cond.code yX2_soft cX2_soft 2 (some .int) ∈ TT := TT_in (i := 470) (by decide +kernel) (by decide +kernel)
theorem w_468 : Cond.instanceMethod yX2_soft ∈ TT := TT_in (i := 468) (by decide +kernel) (by decide +kernel)
theorem w_469 : Cond.selects yX2_soft.cls yX2_soft yX2_soft ∈ TT := TT_in (i := 469) (by decide +kernel) (by decide +kernel)
theorem w_507 : Cond.methodLink yX2_play.cls 103 yX2_blow ∈ TT := TT_in (i := 507) (by decide +kernel) (by decide +kernel)
theorem w_487 : Cond.code yX2_blow cX2_blow 2 (some .int) ∈ TT := TT_in (i := 487) (by decide +kernel) (by decide +kernel)
theorem w_486 : Cond.static yX2_blow ∈ TT := TT_in (i := 486) (by decide +kernel) (by decide +kernel)
theorem w_508 : Cond.methodLink yX2_play.cls 106 yX2_land ∈ TT := TT_in (i := 508) (by decide +kernel) (by decide +kernel)
theorem w_511 : Cond.code yX2_land cX2_land 4 none ∈ TT := TT_in (i := 511) (by decide +kernel) (by decide +kernel)
theorem w_510 : Cond.instanceMethod yX2_land ∈ TT := TT_in (i := 510) (by decide +kernel) (by decide +kernel)
theorem w_14 : Cond.selects yX2_land.cls yX2_land yX2_land ∈ TT := TT_in (i := 14) (by decide +kernel) (by decide +kernel)
theorem w_501 : Cond.methodLink yX2_play.cls 95 yX2_step ∈ TT := TT_in (i := 501) (by decide +kernel) (by decide +kernel)
theorem w_504 : Cond.code yX2_step cX2_step 5 none ∈ TT := TT_in (i := 504) (by decide +kernel) (by decide +kernel)
theorem w_503 : Cond.instanceMethod yX2_step ∈ TT := TT_in (i := 503) (by decide +kernel) (by decide +kernel)
theorem w_13 : Cond.selects yX2_step.cls yX2_step yX2_step ∈ TT := TT_in (i := 13) (by decide +kernel) (by decide +kernel)
theorem w_499 : Cond.methodLink yX2_play.cls 89 yX2_goes ∈ TT := TT_in (i := 499) (by decide +kernel) (by decide +kernel)
theorem w_451 : Cond.code yX2_goes cX2_goes 2 (some .boolean) ∈ TT := TT_in (i := 451) (by decide +kernel) (by decide +kernel)
theorem w_449 : Cond.instanceMethod yX2_goes ∈ TT := TT_in (i := 449) (by decide +kernel) (by decide +kernel)
theorem w_450 : Cond.selects yX2_goes.cls yX2_goes yX2_goes ∈ TT := TT_in (i := 450) (by decide +kernel) (by decide +kernel)
theorem w_500 : Cond.methodLink yX2_play.cls 92 yX2_nearest ∈ TT := TT_in (i := 500) (by decide +kernel) (by decide +kernel)
theorem w_459 : Cond.code yX2_nearest cX2_nearest 5 (some .int) ∈ TT := TT_in (i := 459) (by decide +kernel) (by decide +kernel)
theorem w_457 : Cond.instanceMethod yX2_nearest ∈ TT := TT_in (i := 457) (by decide +kernel) (by decide +kernel)
theorem w_458 : Cond.selects yX2_nearest.cls yX2_nearest yX2_nearest ∈ TT := TT_in (i := 458) (by decide +kernel) (by decide +kernel)
theorem w_193 : Cond.fieldLink yX3_isMissing.cls 15 (TX3 1).1 (TX3 1).2.1 (TX3 1).2.2.1 ∈ TT := TT_in (i := 193) (by decide +kernel) (by decide +kernel)
theorem w_195 : Cond.fieldLink yX3_become.cls 19 (TX3 2).1 (TX3 2).2.1 (TX3 2).2.2.1 ∈ TT := TT_in (i := 195) (by decide +kernel) (by decide +kernel)
theorem w_191 : Cond.fieldLink yX3_become.cls 9 (TX3 0).1 (TX3 0).2.1 (TX3 0).2.2.1 ∈ TT := TT_in (i := 191) (by decide +kernel) (by decide +kernel)
theorem w_647 : Cond.methodLink yX3_become.cls 22 yJ7_fill_53178 ∈ TT := TT_in (i := 647) (by decide +kernel) (by decide +kernel)
theorem w_71 : Cond.initialized "java/util/Arrays" ∈ TT := TT_in (i := 71) (by decide +kernel) (by decide +kernel)
theorem w_649 : Cond.code yJ7_fill_53178 cJ7_fill_53178 4 none ∈ TT := TT_in (i := 649) (by decide +kernel) (by decide +kernel)
theorem w_648 : Cond.static yJ7_fill_53178 ∈ TT := TT_in (i := 648) (by decide +kernel) (by decide +kernel)
theorem w_354 : Cond.fieldLink yX6_count.cls 83 (TX6 8).1 (TX6 8).2.1 (TX6 8).2.2.1 ∈ TT := TT_in (i := 354) (by decide +kernel) (by decide +kernel)
theorem w_347 : Cond.fieldLink yX6_count.cls 20 (TX6 1).1 (TX6 1).2.1 (TX6 1).2.2.1 ∈ TT := TT_in (i := 347) (by decide +kernel) (by decide +kernel)
theorem w_112 : Cond.fieldLink yX6_count.cls 80 (TX2 10).1 (TX2 10).2.1 (TX2 10).2.2.1 ∈ TT := TT_in (i := 112) (by decide +kernel) (by decide +kernel)
theorem w_353 : Cond.fieldLink yX6_count.cls 67 (TX6 7).1 (TX6 7).2.1 (TX6 7).2.2.1 ∈ TT := TT_in (i := 353) (by decide +kernel) (by decide +kernel)
theorem w_382 : Cond.methodLink yX6_count.cls 77 yX2_upCount ∈ TT := TT_in (i := 382) (by decide +kernel) (by decide +kernel)
theorem w_109 : Cond.fieldLink yX6_count.cls 74 (TX2 9).1 (TX2 9).2.1 (TX2 9).2.2.1 ∈ TT := TT_in (i := 109) (by decide +kernel) (by decide +kernel)
theorem w_107 : Cond.fieldLink yX6_count.cls 71 (TX2 8).1 (TX2 8).2.1 (TX2 8).2.2.1 ∈ TT := TT_in (i := 107) (by decide +kernel) (by decide +kernel)
theorem w_390 : Cond.methodLink yX6_isByte.cls 86 yX6_within ∈ TT := TT_in (i := 390) (by decide +kernel) (by decide +kernel)
theorem w_393 : Cond.methodLink yX6_feed.cls 90 yX6_isByte ∈ TT := TT_in (i := 393) (by decide +kernel) (by decide +kernel)
theorem w_395 : Cond.code yX6_isByte cX6_isByte 1 (some .boolean) ∈ TT := TT_in (i := 395) (by decide +kernel) (by decide +kernel)
theorem w_394 : Cond.static yX6_isByte ∈ TT := TT_in (i := 394) (by decide +kernel) (by decide +kernel)
theorem w_351 : Cond.fieldLink yX6_feed.cls 37 (TX6 5).1 (TX6 5).2.1 (TX6 5).2.2.1 ∈ TT := TT_in (i := 351) (by decide +kernel) (by decide +kernel)
theorem w_408 : Cond.methodLink yX6_asks.cls 94 yX6_isHat ∈ TT := TT_in (i := 408) (by decide +kernel) (by decide +kernel)
theorem w_411 : Cond.code yX6_isHat cX6_isHat 2 (some .boolean) ∈ TT := TT_in (i := 411) (by decide +kernel) (by decide +kernel)
theorem w_410 : Cond.instanceMethod yX6_isHat ∈ TT := TT_in (i := 410) (by decide +kernel) (by decide +kernel)
theorem w_12 : Cond.selects yX6_isHat.cls yX6_isHat yX6_isHat ∈ TT := TT_in (i := 12) (by decide +kernel) (by decide +kernel)
theorem w_346 : Cond.fieldLink yX6_asks.cls 11 (TX6 0).1 (TX6 0).2.1 (TX6 0).2.2.1 ∈ TT := TT_in (i := 346) (by decide +kernel) (by decide +kernel)
theorem w_412 : Cond.methodLink yX6_asks.cls 97 yX4_says ∈ TT := TT_in (i := 412) (by decide +kernel) (by decide +kernel)
theorem w_432 : Cond.methodLink yX6_hat.cls 101 yX2_add ∈ TT := TT_in (i := 432) (by decide +kernel) (by decide +kernel)
theorem w_435 : Cond.code yX2_add cX2_add 5 none ∈ TT := TT_in (i := 435) (by decide +kernel) (by decide +kernel)
theorem w_433 : Cond.instanceMethod yX2_add ∈ TT := TT_in (i := 433) (by decide +kernel) (by decide +kernel)
theorem w_434 : Cond.selects yX2_add.cls yX2_add yX2_add ∈ TT := TT_in (i := 434) (by decide +kernel) (by decide +kernel)
theorem w_440 : Cond.methodLink yX6_put.cls 105 yX2_rowOf ∈ TT := TT_in (i := 440) (by decide +kernel) (by decide +kernel)
theorem w_443 : Cond.code yX2_rowOf cX2_rowOf 2 (some (.array .int)) ∈ TT := TT_in (i := 443) (by decide +kernel) (by decide +kernel)
theorem w_441 : Cond.instanceMethod yX2_rowOf ∈ TT := TT_in (i := 441) (by decide +kernel) (by decide +kernel)
theorem w_442 : Cond.selects yX2_rowOf.cls yX2_rowOf yX2_rowOf ∈ TT := TT_in (i := 442) (by decide +kernel) (by decide +kernel)
theorem w_467 : Cond.methodLink yX6_told.cls 122 yX2_soft ∈ TT := TT_in (i := 467) (by decide +kernel) (by decide +kernel)
theorem w_456 : Cond.methodLink yX6_told.cls 118 yX2_nearest ∈ TT := TT_in (i := 456) (by decide +kernel) (by decide +kernel)
theorem w_448 : Cond.methodLink yX6_told.cls 115 yX2_goes ∈ TT := TT_in (i := 448) (by decide +kernel) (by decide +kernel)
theorem w_93 : Cond.fieldLink yX6_told.cls 112 (TX2 2).1 (TX2 2).2.1 (TX2 2).2.2.1 ∈ TT := TT_in (i := 93) (by decide +kernel) (by decide +kernel)
theorem w_90 : Cond.fieldLink yX6_told.cls 109 (TX2 1).1 (TX2 1).2.1 (TX2 1).2.2.1 ∈ TT := TT_in (i := 90) (by decide +kernel) (by decide +kernel)
theorem w_106 : Cond.fieldLink yX6_duel.cls 135 (TX2 7).1 (TX2 7).2.1 (TX2 7).2.2.1 ∈ TT := TT_in (i := 106) (by decide +kernel) (by decide +kernel)
theorem w_490 : Cond.methodLink yX6_duel.cls 132 yX2_far ∈ TT := TT_in (i := 490) (by decide +kernel) (by decide +kernel)
theorem w_478 : Cond.methodLink yX6_duel.cls 125 yX2_hits ∈ TT := TT_in (i := 478) (by decide +kernel) (by decide +kernel)
theorem w_485 : Cond.methodLink yX6_duel.cls 129 yX2_blow ∈ TT := TT_in (i := 485) (by decide +kernel) (by decide +kernel)
theorem w_495 : Cond.methodLink yX6_round.cls 138 yX2_play ∈ TT := TT_in (i := 495) (by decide +kernel) (by decide +kernel)
theorem w_498 : Cond.code yX2_play cX2_play 4 (some .int) ∈ TT := TT_in (i := 498) (by decide +kernel) (by decide +kernel)
theorem w_496 : Cond.instanceMethod yX2_play ∈ TT := TT_in (i := 496) (by decide +kernel) (by decide +kernel)
theorem w_497 : Cond.selects yX2_play.cls yX2_play yX2_play ∈ TT := TT_in (i := 497) (by decide +kernel) (by decide +kernel)
theorem w_348 : Cond.fieldLink yX6_imagine.cls 24 (TX6 2).1 (TX6 2).2.1 (TX6 2).2.2.1 ∈ TT := TT_in (i := 348) (by decide +kernel) (by decide +kernel)
theorem w_524 : Cond.methodLink yX6_imagine.cls 211 yX2_become ∈ TT := TT_in (i := 524) (by decide +kernel) (by decide +kernel)
theorem w_527 : Cond.code yX2_become cX2_become 2 none ∈ TT := TT_in (i := 527) (by decide +kernel) (by decide +kernel)
theorem w_525 : Cond.instanceMethod yX2_become ∈ TT := TT_in (i := 525) (by decide +kernel) (by decide +kernel)
theorem w_526 : Cond.selects yX2_become.cls yX2_become yX2_become ∈ TT := TT_in (i := 526) (by decide +kernel) (by decide +kernel)
theorem w_520 : Cond.methodLink yX6_run.cls 141 yX6_imagine ∈ TT := TT_in (i := 520) (by decide +kernel) (by decide +kernel)
theorem w_523 : Cond.code yX6_imagine cX6_imagine 1 none ∈ TT := TT_in (i := 523) (by decide +kernel) (by decide +kernel)
theorem w_522 : Cond.instanceMethod yX6_imagine ∈ TT := TT_in (i := 522) (by decide +kernel) (by decide +kernel)
theorem w_15 : Cond.selects yX6_imagine.cls yX6_imagine yX6_imagine ∈ TT := TT_in (i := 15) (by decide +kernel) (by decide +kernel)
theorem w_535 : Cond.methodLink yX6_run.cls 156 yX2_tallySum ∈ TT := TT_in (i := 535) (by decide +kernel) (by decide +kernel)
theorem w_538 : Cond.code yX2_tallySum cX2_tallySum 4 (some .int) ∈ TT := TT_in (i := 538) (by decide +kernel) (by decide +kernel)
theorem w_536 : Cond.instanceMethod yX2_tallySum ∈ TT := TT_in (i := 536) (by decide +kernel) (by decide +kernel)
theorem w_537 : Cond.selects yX2_tallySum.cls yX2_tallySum yX2_tallySum ∈ TT := TT_in (i := 537) (by decide +kernel) (by decide +kernel)
theorem w_531 : Cond.methodLink yX6_run.cls 153 yX2_upBits ∈ TT := TT_in (i := 531) (by decide +kernel) (by decide +kernel)
theorem w_534 : Cond.code yX2_upBits cX2_upBits 3 (some .int) ∈ TT := TT_in (i := 534) (by decide +kernel) (by decide +kernel)
theorem w_532 : Cond.instanceMethod yX2_upBits ∈ TT := TT_in (i := 532) (by decide +kernel) (by decide +kernel)
theorem w_533 : Cond.selects yX2_upBits.cls yX2_upBits yX2_upBits ∈ TT := TT_in (i := 533) (by decide +kernel) (by decide +kernel)
theorem w_104 : Cond.fieldLink yX6_run.cls 150 (TX2 6).1 (TX2 6).2.1 (TX2 6).2.2.1 ∈ TT := TT_in (i := 104) (by decide +kernel) (by decide +kernel)
theorem w_98 : Cond.fieldLink yX6_run.cls 147 (TX2 4).1 (TX2 4).2.1 (TX2 4).2.2.1 ∈ TT := TT_in (i := 98) (by decide +kernel) (by decide +kernel)
theorem w_95 : Cond.fieldLink yX6_run.cls 144 (TX2 3).1 (TX2 3).2.1 (TX2 3).2.2.1 ∈ TT := TT_in (i := 95) (by decide +kernel) (by decide +kernel)
theorem w_547 : Cond.methodLink yX6_end.cls 159 yX2_mostFelt ∈ TT := TT_in (i := 547) (by decide +kernel) (by decide +kernel)
theorem w_550 : Cond.code yX2_mostFelt cX2_mostFelt 4 (some .int) ∈ TT := TT_in (i := 550) (by decide +kernel) (by decide +kernel)
theorem w_548 : Cond.instanceMethod yX2_mostFelt ∈ TT := TT_in (i := 548) (by decide +kernel) (by decide +kernel)
theorem w_549 : Cond.selects yX2_mostFelt.cls yX2_mostFelt yX2_mostFelt ∈ TT := TT_in (i := 549) (by decide +kernel) (by decide +kernel)
theorem w_551 : Cond.methodLink yX6_end.cls 162 yX6_lowestBit ∈ TT := TT_in (i := 551) (by decide +kernel) (by decide +kernel)
theorem w_553 : Cond.code yX6_lowestBit cX6_lowestBit 2 (some .int) ∈ TT := TT_in (i := 553) (by decide +kernel) (by decide +kernel)
theorem w_552 : Cond.static yX6_lowestBit ∈ TT := TT_in (i := 552) (by decide +kernel) (by decide +kernel)
theorem w_569 : Cond.constant yJ6_bitCount_0f7a4.cls 265 (1431655765 : Int32) ∈ TT := TT_in (i := 569) (by decide +kernel) (by decide +kernel)
theorem w_570 : Cond.constant yJ6_bitCount_0f7a4.cls 266 (858993459 : Int32) ∈ TT := TT_in (i := 570) (by decide +kernel) (by decide +kernel)
theorem w_571 : Cond.constant yJ6_bitCount_0f7a4.cls 267 (252645135 : Int32) ∈ TT := TT_in (i := 571) (by decide +kernel) (by decide +kernel)
theorem w_566 : Cond.methodLink yX6_beaten.cls 172 yJ6_bitCount_0f7a4 ∈ TT := TT_in (i := 566) (by decide +kernel) (by decide +kernel)
theorem w_70 : Cond.initialized "java/lang/Integer" ∈ TT := TT_in (i := 70) (by decide +kernel) (by decide +kernel)
theorem w_568 : Cond.code yJ6_bitCount_0f7a4 cJ6_bitCount_0f7a4 1 (some .int) ∈ TT := TT_in (i := 568) (by decide +kernel) (by decide +kernel)
theorem w_567 : Cond.static yJ6_bitCount_0f7a4 ∈ TT := TT_in (i := 567) (by decide +kernel) (by decide +kernel)
theorem w_558 : Cond.methodLink yX6_beaten.cls 165 yX2_leaveOnly ∈ TT := TT_in (i := 558) (by decide +kernel) (by decide +kernel)
theorem w_561 : Cond.code yX2_leaveOnly cX2_leaveOnly 4 none ∈ TT := TT_in (i := 561) (by decide +kernel) (by decide +kernel)
theorem w_559 : Cond.instanceMethod yX2_leaveOnly ∈ TT := TT_in (i := 559) (by decide +kernel) (by decide +kernel)
theorem w_560 : Cond.selects yX2_leaveOnly.cls yX2_leaveOnly yX2_leaveOnly ∈ TT := TT_in (i := 560) (by decide +kernel) (by decide +kernel)
theorem w_562 : Cond.methodLink yX6_beaten.cls 169 yX6_feltBehind ∈ TT := TT_in (i := 562) (by decide +kernel) (by decide +kernel)
theorem w_565 : Cond.code yX6_feltBehind cX6_feltBehind 4 (some .int) ∈ TT := TT_in (i := 565) (by decide +kernel) (by decide +kernel)
theorem w_564 : Cond.instanceMethod yX6_feltBehind ∈ TT := TT_in (i := 564) (by decide +kernel) (by decide +kernel)
theorem w_16 : Cond.selects yX6_feltBehind.cls yX6_feltBehind yX6_feltBehind ∈ TT := TT_in (i := 16) (by decide +kernel) (by decide +kernel)
theorem w_595 : Cond.constantLong yX6_lowestTerms.cls 184 (-4611686018427387904 : Int64) ∈ TT := TT_in (i := 595) (by decide +kernel) (by decide +kernel)
theorem w_588 : Cond.methodLink yX6_betting.cls 177 yX2_feltSum ∈ TT := TT_in (i := 588) (by decide +kernel) (by decide +kernel)
theorem w_591 : Cond.code yX2_feltSum cX2_feltSum 3 (some .int) ∈ TT := TT_in (i := 591) (by decide +kernel) (by decide +kernel)
theorem w_589 : Cond.instanceMethod yX2_feltSum ∈ TT := TT_in (i := 589) (by decide +kernel) (by decide +kernel)
theorem w_590 : Cond.selects yX2_feltSum.cls yX2_feltSum yX2_feltSum ∈ TT := TT_in (i := 590) (by decide +kernel) (by decide +kernel)
theorem w_592 : Cond.methodLink yX6_betting.cls 180 yX6_lowestTerms ∈ TT := TT_in (i := 592) (by decide +kernel) (by decide +kernel)
theorem w_594 : Cond.code yX6_lowestTerms cX6_lowestTerms 4 (some .long) ∈ TT := TT_in (i := 594) (by decide +kernel) (by decide +kernel)
theorem w_593 : Cond.static yX6_lowestTerms ∈ TT := TT_in (i := 593) (by decide +kernel) (by decide +kernel)
theorem w_608 : Cond.methodLink yX6_refusalOf.cls 197 yX6_isSheet ∈ TT := TT_in (i := 608) (by decide +kernel) (by decide +kernel)
theorem w_610 : Cond.code yX6_isSheet cX6_isSheet 1 (some .boolean) ∈ TT := TT_in (i := 610) (by decide +kernel) (by decide +kernel)
theorem w_609 : Cond.static yX6_isSheet ∈ TT := TT_in (i := 609) (by decide +kernel) (by decide +kernel)
theorem w_352 : Cond.fieldLink yX6_refusalOf.cls 43 (TX6 6).1 (TX6 6).2.1 (TX6 6).2.2.1 ∈ TT := TT_in (i := 352) (by decide +kernel) (by decide +kernel)
theorem w_611 : Cond.methodLink yX6_refusalOf.cls 221 yX3_isMissing ∈ TT := TT_in (i := 611) (by decide +kernel) (by decide +kernel)
theorem w_60 : Cond.initialized "HatsInRing$Sheet" ∈ TT := TT_in (i := 60) (by decide +kernel) (by decide +kernel)
theorem w_614 : Cond.code yX3_isMissing cX3_isMissing 1 (some .boolean) ∈ TT := TT_in (i := 614) (by decide +kernel) (by decide +kernel)
theorem w_612 : Cond.instanceMethod yX3_isMissing ∈ TT := TT_in (i := 612) (by decide +kernel) (by decide +kernel)
theorem w_613 : Cond.selects yX3_isMissing.cls yX3_isMissing yX3_isMissing ∈ TT := TT_in (i := 613) (by decide +kernel) (by decide +kernel)
theorem w_196 : Cond.fieldLink yX6_refusalOf.cls 225 (TX3 2).1 (TX3 2).2.1 (TX3 2).2.2.1 ∈ TT := TT_in (i := 196) (by decide +kernel) (by decide +kernel)
theorem w_604 : Cond.methodLink yX6_refusalOf_.cls 195 yX6_refusalOf ∈ TT := TT_in (i := 604) (by decide +kernel) (by decide +kernel)
theorem w_607 : Cond.code yX6_refusalOf cX6_refusalOf 2 (some .int) ∈ TT := TT_in (i := 607) (by decide +kernel) (by decide +kernel)
theorem w_606 : Cond.instanceMethod yX6_refusalOf ∈ TT := TT_in (i := 606) (by decide +kernel) (by decide +kernel)
theorem w_18 : Cond.selects yX6_refusalOf.cls yX6_refusalOf yX6_refusalOf ∈ TT := TT_in (i := 18) (by decide +kernel) (by decide +kernel)
theorem w_192 : Cond.fieldLink yX6_firstOtherwise.cls 203 (TX3 0).1 (TX3 0).2.1 (TX3 0).2.2.1 ∈ TT := TT_in (i := 192) (by decide +kernel) (by decide +kernel)
theorem w_600 : Cond.methodLink yX6_judge.cls 186 yX6_refusalOf_ ∈ TT := TT_in (i := 600) (by decide +kernel) (by decide +kernel)
theorem w_603 : Cond.code yX6_refusalOf_ cX6_refusalOf_ 4 (some .int) ∈ TT := TT_in (i := 603) (by decide +kernel) (by decide +kernel)
theorem w_602 : Cond.instanceMethod yX6_refusalOf_ ∈ TT := TT_in (i := 602) (by decide +kernel) (by decide +kernel)
theorem w_17 : Cond.selects yX6_refusalOf_.cls yX6_refusalOf_ yX6_refusalOf_ ∈ TT := TT_in (i := 17) (by decide +kernel) (by decide +kernel)
theorem w_615 : Cond.methodLink yX6_judge.cls 189 yX6_firstOtherwise ∈ TT := TT_in (i := 615) (by decide +kernel) (by decide +kernel)
theorem w_618 : Cond.code yX6_firstOtherwise cX6_firstOtherwise 5 (some .int) ∈ TT := TT_in (i := 618) (by decide +kernel) (by decide +kernel)
theorem w_617 : Cond.instanceMethod yX6_firstOtherwise ∈ TT := TT_in (i := 617) (by decide +kernel) (by decide +kernel)
theorem w_19 : Cond.selects yX6_firstOtherwise.cls yX6_firstOtherwise yX6_firstOtherwise ∈ TT := TT_in (i := 19) (by decide +kernel) (by decide +kernel)
theorem w_101 : Cond.fieldLink yX6_states.cls 192 (TX2 5).1 (TX2 5).2.1 (TX2 5).2.2.1 ∈ TT := TT_in (i := 101) (by decide +kernel) (by decide +kernel)
theorem w_643 : Cond.methodLink yX6_film.cls 200 yX3_become ∈ TT := TT_in (i := 643) (by decide +kernel) (by decide +kernel)
theorem w_646 : Cond.code yX3_become cX3_become 3 none ∈ TT := TT_in (i := 646) (by decide +kernel) (by decide +kernel)
theorem w_644 : Cond.instanceMethod yX3_become ∈ TT := TT_in (i := 644) (by decide +kernel) (by decide +kernel)
theorem w_645 : Cond.selects yX3_become.cls yX3_become yX3_become ∈ TT := TT_in (i := 645) (by decide +kernel) (by decide +kernel)
theorem w_659 : Cond.constantLong yX6_imagineDrawn.cls 248 (48271 : Int64) ∈ TT := TT_in (i := 659) (by decide +kernel) (by decide +kernel)
theorem w_660 : Cond.constantLong yX6_imagineDrawn.cls 250 (2147483647 : Int64) ∈ TT := TT_in (i := 660) (by decide +kernel) (by decide +kernel)
theorem w_661 : Cond.constantLong yX6_imagineDrawn.cls 252 (64 : Int64) ∈ TT := TT_in (i := 661) (by decide +kernel) (by decide +kernel)
theorem w_654 : Cond.constant yX6_drawn.cls 206 (99999 : Int32) ∈ TT := TT_in (i := 654) (by decide +kernel) (by decide +kernel)
theorem w_655 : Cond.methodLink yX6_drawn.cls 207 yX6_imagineDrawn ∈ TT := TT_in (i := 655) (by decide +kernel) (by decide +kernel)
theorem w_658 : Cond.code yX6_imagineDrawn cX6_imagineDrawn 5 none ∈ TT := TT_in (i := 658) (by decide +kernel) (by decide +kernel)
theorem w_657 : Cond.instanceMethod yX6_imagineDrawn ∈ TT := TT_in (i := 657) (by decide +kernel) (by decide +kernel)
theorem w_20 : Cond.selects yX6_imagineDrawn.cls yX6_imagineDrawn yX6_imagineDrawn ∈ TT := TT_in (i := 20) (by decide +kernel) (by decide +kernel)
theorem w_349 : Cond.fieldLink yX6_image.cls 27 (TX6 3).1 (TX6 3).2.1 (TX6 3).2.2.1 ∈ TT := TT_in (i := 349) (by decide +kernel) (by decide +kernel)
theorem w_355 : Cond.fieldLink yX6_image.cls 214 (TX6 9).1 (TX6 9).2.1 (TX6 9).2.2.1 ∈ TT := TT_in (i := 355) (by decide +kernel) (by decide +kernel)
theorem w_678 : Cond.methodLink yX6_sheet.cls 218 yX6_isSort ∈ TT := TT_in (i := 678) (by decide +kernel) (by decide +kernel)
theorem w_680 : Cond.code yX6_isSort cX6_isSort 1 (some .boolean) ∈ TT := TT_in (i := 680) (by decide +kernel) (by decide +kernel)
theorem w_679 : Cond.static yX6_isSort ∈ TT := TT_in (i := 679) (by decide +kernel) (by decide +kernel)
theorem w_685 : Cond.methodLink yX6_cell.cls 226 yX3_write ∈ TT := TT_in (i := 685) (by decide +kernel) (by decide +kernel)
theorem w_688 : Cond.code yX3_write cX3_write 3 none ∈ TT := TT_in (i := 688) (by decide +kernel) (by decide +kernel)
theorem w_686 : Cond.instanceMethod yX3_write ∈ TT := TT_in (i := 686) (by decide +kernel) (by decide +kernel)
theorem w_687 : Cond.selects yX3_write.cls yX3_write yX3_write ∈ TT := TT_in (i := 687) (by decide +kernel) (by decide +kernel)
theorem w_194 : Cond.fieldLink yX6_copy.cls 229 (TX3 1).1 (TX3 1).2.1 (TX3 1).2.2.1 ∈ TT := TT_in (i := 194) (by decide +kernel) (by decide +kernel)
theorem w_693 : Cond.methodLink yX6_copy.cls 232 arraycopyName ∈ TT := TT_in (i := 693) (by decide +kernel) (by decide +kernel)
theorem w_698 : Cond.methodLink yX6_hatsBy.cls 238 yX6_hat ∈ TT := TT_in (i := 698) (by decide +kernel) (by decide +kernel)
theorem w_431 : Cond.code yX6_hat cX6_hat 4 (some .int) ∈ TT := TT_in (i := 431) (by decide +kernel) (by decide +kernel)
theorem w_429 : Cond.instanceMethod yX6_hat ∈ TT := TT_in (i := 429) (by decide +kernel) (by decide +kernel)
theorem w_430 : Cond.selects yX6_hat.cls yX6_hat yX6_hat ∈ TT := TT_in (i := 430) (by decide +kernel) (by decide +kernel)
theorem w_703 : Cond.methodLink yX6_taken.cls 242 yX0_isOne ∈ TT := TT_in (i := 703) (by decide +kernel) (by decide +kernel)
theorem w_705 : Cond.code yX0_isOne cX0_isOne 4 (some .boolean) ∈ TT := TT_in (i := 705) (by decide +kernel) (by decide +kernel)
theorem w_704 : Cond.static yX0_isOne ∈ TT := TT_in (i := 704) (by decide +kernel) (by decide +kernel)
theorem w_762 : Cond.fieldLink yX7_isOne.cls 72 (TX7 0).1 (TX7 0).2.1 (TX7 0).2.2.1 ∈ TT := TT_in (i := 762) (by decide +kernel) (by decide +kernel)
theorem w_723 : Cond.methodLink yX7_isOne.cls 75 yX7_in ∈ TT := TT_in (i := 723) (by decide +kernel) (by decide +kernel)
theorem w_67 : Cond.initialized "HatsInRingModel" ∈ TT := TT_in (i := 67) (by decide +kernel) (by decide +kernel)
theorem w_725 : Cond.code yX7_in cX7_in 3 (some .boolean) ∈ TT := TT_in (i := 725) (by decide +kernel) (by decide +kernel)
theorem w_724 : Cond.static yX7_in ∈ TT := TT_in (i := 724) (by decide +kernel) (by decide +kernel)
theorem w_890 : Cond.methodLink yX7_areTwo.cls 79 yX7_isOne ∈ TT := TT_in (i := 890) (by decide +kernel) (by decide +kernel)
theorem w_893 : Cond.code yX7_isOne cX7_isOne 2 (some .boolean) ∈ TT := TT_in (i := 893) (by decide +kernel) (by decide +kernel)
theorem w_892 : Cond.instanceMethod yX7_isOne ∈ TT := TT_in (i := 892) (by decide +kernel) (by decide +kernel)
theorem w_32 : Cond.selects yX7_isOne.cls yX7_isOne yX7_isOne ∈ TT := TT_in (i := 32) (by decide +kernel) (by decide +kernel)
theorem w_765 : Cond.fieldLink yX7_isUp.cls 16 (TX7 3).1 (TX7 3).2.1 (TX7 3).2.2.1 ∈ TT := TT_in (i := 765) (by decide +kernel) (by decide +kernel)
theorem w_867 : Cond.methodLink yX7_upSet.cls 83 yX7_isUp ∈ TT := TT_in (i := 867) (by decide +kernel) (by decide +kernel)
theorem w_870 : Cond.code yX7_isUp cX7_isUp 2 (some .boolean) ∈ TT := TT_in (i := 870) (by decide +kernel) (by decide +kernel)
theorem w_869 : Cond.instanceMethod yX7_isUp ∈ TT := TT_in (i := 869) (by decide +kernel) (by decide +kernel)
theorem w_31 : Cond.selects yX7_isUp.cls yX7_isUp yX7_isUp ∈ TT := TT_in (i := 31) (by decide +kernel) (by decide +kernel)
theorem w_766 : Cond.fieldLink yX7_talliesAll.cls 19 (TX7 4).1 (TX7 4).2.1 (TX7 4).2.2.1 ∈ TT := TT_in (i := 766) (by decide +kernel) (by decide +kernel)
theorem w_769 : Cond.fieldLink yX7_count.cls 64 (TX7 7).1 (TX7 7).2.1 (TX7 7).2.2.1 ∈ TT := TT_in (i := 769) (by decide +kernel) (by decide +kernel)
theorem w_773 : Cond.fieldLink yX7_count.cls 99 (TX7 11).1 (TX7 11).2.1 (TX7 11).2.2.1 ∈ TT := TT_in (i := 773) (by decide +kernel) (by decide +kernel)
theorem w_772 : Cond.fieldLink yX7_count.cls 96 (TX7 10).1 (TX7 10).2.1 (TX7 10).2.2.1 ∈ TT := TT_in (i := 772) (by decide +kernel) (by decide +kernel)
theorem w_863 : Cond.methodLink yX7_count.cls 89 yX7_upSet ∈ TT := TT_in (i := 863) (by decide +kernel) (by decide +kernel)
theorem w_866 : Cond.code yX7_upSet cX7_upSet 3 (some .int) ∈ TT := TT_in (i := 866) (by decide +kernel) (by decide +kernel)
theorem w_865 : Cond.instanceMethod yX7_upSet ∈ TT := TT_in (i := 865) (by decide +kernel) (by decide +kernel)
theorem w_30 : Cond.selects yX7_upSet.cls yX7_upSet yX7_upSet ∈ TT := TT_in (i := 30) (by decide +kernel) (by decide +kernel)
theorem w_871 : Cond.methodLink yX7_count.cls 92 yX7_onesOf ∈ TT := TT_in (i := 871) (by decide +kernel) (by decide +kernel)
theorem w_873 : Cond.code yX7_onesOf cX7_onesOf 3 (some .int) ∈ TT := TT_in (i := 873) (by decide +kernel) (by decide +kernel)
theorem w_872 : Cond.static yX7_onesOf ∈ TT := TT_in (i := 872) (by decide +kernel) (by decide +kernel)
theorem w_767 : Cond.fieldLink yX7_count.cls 86 (TX7 5).1 (TX7 5).2.1 (TX7 5).2.2.1 ∈ TT := TT_in (i := 767) (by decide +kernel) (by decide +kernel)
theorem w_878 : Cond.methodLink yX7_feed.cls 102 yX7_isByte ∈ TT := TT_in (i := 878) (by decide +kernel) (by decide +kernel)
theorem w_880 : Cond.code yX7_isByte cX7_isByte 1 (some .boolean) ∈ TT := TT_in (i := 880) (by decide +kernel) (by decide +kernel)
theorem w_879 : Cond.static yX7_isByte ∈ TT := TT_in (i := 879) (by decide +kernel) (by decide +kernel)
theorem w_768 : Cond.fieldLink yX7_feed.cls 22 (TX7 6).1 (TX7 6).2.1 (TX7 6).2.2.1 ∈ TT := TT_in (i := 768) (by decide +kernel) (by decide +kernel)
theorem w_785 : Cond.fieldLink yX7_wordFrom.cls 49 (TX7 23).1 (TX7 23).2.1 (TX7 23).2.2.1 ∈ TT := TT_in (i := 785) (by decide +kernel) (by decide +kernel)
theorem w_781 : Cond.fieldLink yX7_next.cls 105 (TX7 19).1 (TX7 19).2.1 (TX7 19).2.2.1 ∈ TT := TT_in (i := 781) (by decide +kernel) (by decide +kernel)
theorem w_782 : Cond.fieldLink yX7_next.cls 108 (TX7 20).1 (TX7 20).2.1 (TX7 20).2.2.1 ∈ TT := TT_in (i := 782) (by decide +kernel) (by decide +kernel)
theorem w_783 : Cond.fieldLink yX7_next.cls 111 (TX7 21).1 (TX7 21).2.1 (TX7 21).2.2.1 ∈ TT := TT_in (i := 783) (by decide +kernel) (by decide +kernel)
theorem w_784 : Cond.fieldLink yX7_next.cls 114 (TX7 22).1 (TX7 22).2.1 (TX7 22).2.2.1 ∈ TT := TT_in (i := 784) (by decide +kernel) (by decide +kernel)
theorem w_726 : Cond.methodLink yX7_next.cls 117 yX7_wordFrom ∈ TT := TT_in (i := 726) (by decide +kernel) (by decide +kernel)
theorem w_729 : Cond.code yX7_wordFrom cX7_wordFrom 6 (some .int) ∈ TT := TT_in (i := 729) (by decide +kernel) (by decide +kernel)
theorem w_728 : Cond.instanceMethod yX7_wordFrom ∈ TT := TT_in (i := 728) (by decide +kernel) (by decide +kernel)
theorem w_22 : Cond.selects yX7_wordFrom.cls yX7_wordFrom yX7_wordFrom ∈ TT := TT_in (i := 22) (by decide +kernel) (by decide +kernel)
theorem w_770 : Cond.fieldLink yX7_puts.cls 25 (TX7 8).1 (TX7 8).2.1 (TX7 8).2.2.1 ∈ TT := TT_in (i := 770) (by decide +kernel) (by decide +kernel)
theorem w_789 : Cond.fieldLink yX7_puts.cls 121 (TX7 27).1 (TX7 27).2.1 (TX7 27).2.2.1 ∈ TT := TT_in (i := 789) (by decide +kernel) (by decide +kernel)
theorem w_787 : Cond.fieldLink yX7_unwinds.cls 124 (TX7 25).1 (TX7 25).2.1 (TX7 25).2.2.1 ∈ TT := TT_in (i := 787) (by decide +kernel) (by decide +kernel)
theorem w_786 : Cond.fieldLink yX7_unwinds.cls 52 (TX7 24).1 (TX7 24).2.1 (TX7 24).2.2.1 ∈ TT := TT_in (i := 786) (by decide +kernel) (by decide +kernel)
theorem w_743 : Cond.methodLink yX7_unwinds.cls 127 yX7_rank ∈ TT := TT_in (i := 743) (by decide +kernel) (by decide +kernel)
theorem w_745 : Cond.code yX7_rank cX7_rank 1 (some .int) ∈ TT := TT_in (i := 745) (by decide +kernel) (by decide +kernel)
theorem w_744 : Cond.static yX7_rank ∈ TT := TT_in (i := 744) (by decide +kernel) (by decide +kernel)
theorem w_788 : Cond.fieldLink yX7_unwinds.cls 130 (TX7 26).1 (TX7 26).2.1 (TX7 26).2.2.1 ∈ TT := TT_in (i := 788) (by decide +kernel) (by decide +kernel)
theorem w_735 : Cond.methodLink yX7_unwinds.cls 133 yX7_puts ∈ TT := TT_in (i := 735) (by decide +kernel) (by decide +kernel)
theorem w_738 : Cond.code yX7_puts cX7_puts 2 none ∈ TT := TT_in (i := 738) (by decide +kernel) (by decide +kernel)
theorem w_737 : Cond.instanceMethod yX7_puts ∈ TT := TT_in (i := 737) (by decide +kernel) (by decide +kernel)
theorem w_24 : Cond.selects yX7_puts.cls yX7_puts yX7_puts ∈ TT := TT_in (i := 24) (by decide +kernel) (by decide +kernel)
theorem w_750 : Cond.methodLink yX7_opensOne.cls 137 yX7_holds ∈ TT := TT_in (i := 750) (by decide +kernel) (by decide +kernel)
theorem w_753 : Cond.code yX7_holds cX7_holds 2 none ∈ TT := TT_in (i := 753) (by decide +kernel) (by decide +kernel)
theorem w_752 : Cond.instanceMethod yX7_holds ∈ TT := TT_in (i := 752) (by decide +kernel) (by decide +kernel)
theorem w_27 : Cond.selects yX7_holds.cls yX7_holds yX7_holds ∈ TT := TT_in (i := 27) (by decide +kernel) (by decide +kernel)
theorem w_739 : Cond.methodLink yX7_between.cls 140 yX7_unwinds ∈ TT := TT_in (i := 739) (by decide +kernel) (by decide +kernel)
theorem w_742 : Cond.code yX7_unwinds cX7_unwinds 3 none ∈ TT := TT_in (i := 742) (by decide +kernel) (by decide +kernel)
theorem w_741 : Cond.instanceMethod yX7_unwinds ∈ TT := TT_in (i := 741) (by decide +kernel) (by decide +kernel)
theorem w_25 : Cond.selects yX7_unwinds.cls yX7_unwinds yX7_unwinds ∈ TT := TT_in (i := 25) (by decide +kernel) (by decide +kernel)
theorem w_719 : Cond.methodLink yX7_eRead.cls 143 yX7_next ∈ TT := TT_in (i := 719) (by decide +kernel) (by decide +kernel)
theorem w_722 : Cond.code yX7_next cX7_next 3 none ∈ TT := TT_in (i := 722) (by decide +kernel) (by decide +kernel)
theorem w_721 : Cond.instanceMethod yX7_next ∈ TT := TT_in (i := 721) (by decide +kernel) (by decide +kernel)
theorem w_21 : Cond.selects yX7_next.cls yX7_next yX7_next ∈ TT := TT_in (i := 21) (by decide +kernel) (by decide +kernel)
theorem w_754 : Cond.methodLink yX7_eRead.cls 150 yX7_signOf ∈ TT := TT_in (i := 754) (by decide +kernel) (by decide +kernel)
theorem w_757 : Cond.code yX7_signOf cX7_signOf 1 (some .int) ∈ TT := TT_in (i := 757) (by decide +kernel) (by decide +kernel)
theorem w_756 : Cond.instanceMethod yX7_signOf ∈ TT := TT_in (i := 756) (by decide +kernel) (by decide +kernel)
theorem w_28 : Cond.selects yX7_signOf.cls yX7_signOf yX7_signOf ∈ TT := TT_in (i := 28) (by decide +kernel) (by decide +kernel)
theorem w_758 : Cond.methodLink yX7_eRead.cls 153 yX7_between ∈ TT := TT_in (i := 758) (by decide +kernel) (by decide +kernel)
theorem w_761 : Cond.code yX7_between cX7_between 2 (some .boolean) ∈ TT := TT_in (i := 761) (by decide +kernel) (by decide +kernel)
theorem w_760 : Cond.instanceMethod yX7_between ∈ TT := TT_in (i := 760) (by decide +kernel) (by decide +kernel)
theorem w_29 : Cond.selects yX7_between.cls yX7_between yX7_between ∈ TT := TT_in (i := 29) (by decide +kernel) (by decide +kernel)
theorem w_734 : Cond.constant yX7_eRead.cls 146 (100000 : Int32) ∈ TT := TT_in (i := 734) (by decide +kernel) (by decide +kernel)
theorem w_746 : Cond.methodLink yX7_eRead.cls 147 yX7_opensOne ∈ TT := TT_in (i := 746) (by decide +kernel) (by decide +kernel)
theorem w_749 : Cond.code yX7_opensOne cX7_opensOne 2 (some .boolean) ∈ TT := TT_in (i := 749) (by decide +kernel) (by decide +kernel)
theorem w_748 : Cond.instanceMethod yX7_opensOne ∈ TT := TT_in (i := 748) (by decide +kernel) (by decide +kernel)
theorem w_26 : Cond.selects yX7_opensOne.cls yX7_opensOne yX7_opensOne ∈ TT := TT_in (i := 26) (by decide +kernel) (by decide +kernel)
theorem w_771 : Cond.fieldLink yX7_text.cls 28 (TX7 9).1 (TX7 9).2.1 (TX7 9).2.2.1 ∈ TT := TT_in (i := 771) (by decide +kernel) (by decide +kernel)
theorem w_730 : Cond.methodLink yX7_text.cls 156 yX7_eRead ∈ TT := TT_in (i := 730) (by decide +kernel) (by decide +kernel)
theorem w_733 : Cond.code yX7_eRead cX7_eRead 4 (some .boolean) ∈ TT := TT_in (i := 733) (by decide +kernel) (by decide +kernel)
theorem w_732 : Cond.instanceMethod yX7_eRead ∈ TT := TT_in (i := 732) (by decide +kernel) (by decide +kernel)
theorem w_23 : Cond.selects yX7_eRead.cls yX7_eRead yX7_eRead ∈ TT := TT_in (i := 23) (by decide +kernel) (by decide +kernel)
theorem w_790 : Cond.fieldLink yX7_says.cls 55 (TX7 28).1 (TX7 28).2.1 (TX7 28).2.2.1 ∈ TT := TT_in (i := 790) (by decide +kernel) (by decide +kernel)
theorem w_791 : Cond.fieldLink yX7_says.cls 58 (TX7 29).1 (TX7 29).2.1 (TX7 29).2.2.1 ∈ TT := TT_in (i := 791) (by decide +kernel) (by decide +kernel)
theorem w_902 : Cond.methodLink yX7_says.cls 160 yX7_two ∈ TT := TT_in (i := 902) (by decide +kernel) (by decide +kernel)
theorem w_904 : Cond.code yX7_two cX7_two 3 (some .int) ∈ TT := TT_in (i := 904) (by decide +kernel) (by decide +kernel)
theorem w_903 : Cond.static yX7_two ∈ TT := TT_in (i := 903) (by decide +kernel) (by decide +kernel)
theorem w_764 : Cond.fieldLink yX7_asksOf.cls 13 (TX7 2).1 (TX7 2).2.1 (TX7 2).2.2.1 ∈ TT := TT_in (i := 764) (by decide +kernel) (by decide +kernel)
theorem w_898 : Cond.methodLink yX7_asksOf.cls 164 yX7_says ∈ TT := TT_in (i := 898) (by decide +kernel) (by decide +kernel)
theorem w_901 : Cond.code yX7_says cX7_says 5 (some .int) ∈ TT := TT_in (i := 901) (by decide +kernel) (by decide +kernel)
theorem w_900 : Cond.instanceMethod yX7_says ∈ TT := TT_in (i := 900) (by decide +kernel) (by decide +kernel)
theorem w_34 : Cond.selects yX7_says.cls yX7_says yX7_says ∈ TT := TT_in (i := 34) (by decide +kernel) (by decide +kernel)
theorem w_905 : Cond.methodLink yX7_asksOf.cls 167 yX7_within ∈ TT := TT_in (i := 905) (by decide +kernel) (by decide +kernel)
theorem w_907 : Cond.code yX7_within cX7_within 3 (some .int) ∈ TT := TT_in (i := 907) (by decide +kernel) (by decide +kernel)
theorem w_906 : Cond.static yX7_within ∈ TT := TT_in (i := 906) (by decide +kernel) (by decide +kernel)
theorem w_894 : Cond.methodLink yX7_asks.cls 170 yX7_asksOf ∈ TT := TT_in (i := 894) (by decide +kernel) (by decide +kernel)
theorem w_897 : Cond.code yX7_asksOf cX7_asksOf 3 (some .int) ∈ TT := TT_in (i := 897) (by decide +kernel) (by decide +kernel)
theorem w_896 : Cond.instanceMethod yX7_asksOf ∈ TT := TT_in (i := 896) (by decide +kernel) (by decide +kernel)
theorem w_33 : Cond.selects yX7_asksOf.cls yX7_asksOf yX7_asksOf ∈ TT := TT_in (i := 33) (by decide +kernel) (by decide +kernel)
theorem w_763 : Cond.fieldLink yX7_hat.cls 7 (TX7 1).1 (TX7 1).2.1 (TX7 1).2.2.1 ∈ TT := TT_in (i := 763) (by decide +kernel) (by decide +kernel)
theorem w_944 : Cond.methodLink yX7_blowOf.cls 173 yX7_hitsOf ∈ TT := TT_in (i := 944) (by decide +kernel) (by decide +kernel)
theorem w_947 : Cond.code yX7_hitsOf cX7_hitsOf 5 (some .int) ∈ TT := TT_in (i := 947) (by decide +kernel) (by decide +kernel)
theorem w_946 : Cond.instanceMethod yX7_hitsOf ∈ TT := TT_in (i := 946) (by decide +kernel) (by decide +kernel)
theorem w_40 : Cond.selects yX7_hitsOf.cls yX7_hitsOf yX7_hitsOf ∈ TT := TT_in (i := 40) (by decide +kernel) (by decide +kernel)
theorem w_932 : Cond.methodLink yX7_blowOf.cls 176 yX7_softOf ∈ TT := TT_in (i := 932) (by decide +kernel) (by decide +kernel)
theorem w_935 : Cond.code yX7_softOf cX7_softOf 3 (some .int) ∈ TT := TT_in (i := 935) (by decide +kernel) (by decide +kernel)
theorem w_934 : Cond.instanceMethod yX7_softOf ∈ TT := TT_in (i := 934) (by decide +kernel) (by decide +kernel)
theorem w_38 : Cond.selects yX7_softOf.cls yX7_softOf yX7_softOf ∈ TT := TT_in (i := 38) (by decide +kernel) (by decide +kernel)
theorem w_928 : Cond.methodLink yX7_nearestOf.cls 179 yX7_farOf ∈ TT := TT_in (i := 928) (by decide +kernel) (by decide +kernel)
theorem w_931 : Cond.code yX7_farOf cX7_farOf 5 (some .int) ∈ TT := TT_in (i := 931) (by decide +kernel) (by decide +kernel)
theorem w_930 : Cond.instanceMethod yX7_farOf ∈ TT := TT_in (i := 930) (by decide +kernel) (by decide +kernel)
theorem w_37 : Cond.selects yX7_farOf.cls yX7_farOf yX7_farOf ∈ TT := TT_in (i := 37) (by decide +kernel) (by decide +kernel)
theorem w_924 : Cond.methodLink yX7_told.cls 185 yX7_nearestOf ∈ TT := TT_in (i := 924) (by decide +kernel) (by decide +kernel)
theorem w_927 : Cond.code yX7_nearestOf cX7_nearestOf 7 (some .int) ∈ TT := TT_in (i := 927) (by decide +kernel) (by decide +kernel)
theorem w_926 : Cond.instanceMethod yX7_nearestOf ∈ TT := TT_in (i := 926) (by decide +kernel) (by decide +kernel)
theorem w_36 : Cond.selects yX7_nearestOf.cls yX7_nearestOf yX7_nearestOf ∈ TT := TT_in (i := 36) (by decide +kernel) (by decide +kernel)
theorem w_920 : Cond.methodLink yX7_told.cls 182 yX7_goes ∈ TT := TT_in (i := 920) (by decide +kernel) (by decide +kernel)
theorem w_923 : Cond.code yX7_goes cX7_goes 3 (some .boolean) ∈ TT := TT_in (i := 923) (by decide +kernel) (by decide +kernel)
theorem w_922 : Cond.instanceMethod yX7_goes ∈ TT := TT_in (i := 922) (by decide +kernel) (by decide +kernel)
theorem w_35 : Cond.selects yX7_goes.cls yX7_goes yX7_goes ∈ TT := TT_in (i := 35) (by decide +kernel) (by decide +kernel)
theorem w_940 : Cond.methodLink yX7_duel.cls 188 yX7_areTwo ∈ TT := TT_in (i := 940) (by decide +kernel) (by decide +kernel)
theorem w_943 : Cond.code yX7_areTwo cX7_areTwo 3 (some .boolean) ∈ TT := TT_in (i := 943) (by decide +kernel) (by decide +kernel)
theorem w_942 : Cond.instanceMethod yX7_areTwo ∈ TT := TT_in (i := 942) (by decide +kernel) (by decide +kernel)
theorem w_39 : Cond.selects yX7_areTwo.cls yX7_areTwo yX7_areTwo ∈ TT := TT_in (i := 39) (by decide +kernel) (by decide +kernel)
theorem w_948 : Cond.methodLink yX7_duel.cls 192 yX7_blowOf ∈ TT := TT_in (i := 948) (by decide +kernel) (by decide +kernel)
theorem w_951 : Cond.code yX7_blowOf cX7_blowOf 3 (some .int) ∈ TT := TT_in (i := 951) (by decide +kernel) (by decide +kernel)
theorem w_950 : Cond.instanceMethod yX7_blowOf ∈ TT := TT_in (i := 950) (by decide +kernel) (by decide +kernel)
theorem w_41 : Cond.selects yX7_blowOf.cls yX7_blowOf yX7_blowOf ∈ TT := TT_in (i := 41) (by decide +kernel) (by decide +kernel)
theorem w_964 : Cond.methodLink yX7_roundOf.cls 199 yX7_hitBy ∈ TT := TT_in (i := 964) (by decide +kernel) (by decide +kernel)
theorem w_967 : Cond.code yX7_hitBy cX7_hitBy 4 (some .boolean) ∈ TT := TT_in (i := 967) (by decide +kernel) (by decide +kernel)
theorem w_966 : Cond.instanceMethod yX7_hitBy ∈ TT := TT_in (i := 966) (by decide +kernel) (by decide +kernel)
theorem w_44 : Cond.selects yX7_hitBy.cls yX7_hitBy yX7_hitBy ∈ TT := TT_in (i := 44) (by decide +kernel) (by decide +kernel)
theorem w_960 : Cond.methodLink yX7_roundOf.cls 195 yX7_steps ∈ TT := TT_in (i := 960) (by decide +kernel) (by decide +kernel)
theorem w_963 : Cond.code yX7_steps cX7_steps 5 none ∈ TT := TT_in (i := 963) (by decide +kernel) (by decide +kernel)
theorem w_962 : Cond.instanceMethod yX7_steps ∈ TT := TT_in (i := 962) (by decide +kernel) (by decide +kernel)
theorem w_43 : Cond.selects yX7_steps.cls yX7_steps yX7_steps ∈ TT := TT_in (i := 43) (by decide +kernel) (by decide +kernel)
theorem w_956 : Cond.methodLink yX7_round.cls 202 yX7_roundOf ∈ TT := TT_in (i := 956) (by decide +kernel) (by decide +kernel)
theorem w_959 : Cond.code yX7_roundOf cX7_roundOf 5 (some .int) ∈ TT := TT_in (i := 959) (by decide +kernel) (by decide +kernel)
theorem w_958 : Cond.instanceMethod yX7_roundOf ∈ TT := TT_in (i := 958) (by decide +kernel) (by decide +kernel)
theorem w_42 : Cond.selects yX7_roundOf.cls yX7_roundOf yX7_roundOf ∈ TT := TT_in (i := 42) (by decide +kernel) (by decide +kernel)
theorem w_792 : Cond.fieldLink yX7_keeps.cls 61 (TX7 30).1 (TX7 30).2.1 (TX7 30).2.2.1 ∈ TT := TT_in (i := 792) (by decide +kernel) (by decide +kernel)
theorem w_976 : Cond.methodLink yX7_run.cls 205 yX7_keeps ∈ TT := TT_in (i := 976) (by decide +kernel) (by decide +kernel)
theorem w_979 : Cond.code yX7_keeps cX7_keeps 2 none ∈ TT := TT_in (i := 979) (by decide +kernel) (by decide +kernel)
theorem w_978 : Cond.instanceMethod yX7_keeps ∈ TT := TT_in (i := 978) (by decide +kernel) (by decide +kernel)
theorem w_45 : Cond.selects yX7_keeps.cls yX7_keeps yX7_keeps ∈ TT := TT_in (i := 45) (by decide +kernel) (by decide +kernel)
theorem w_980 : Cond.methodLink yX7_run.cls 208 yX7_passes ∈ TT := TT_in (i := 980) (by decide +kernel) (by decide +kernel)
theorem w_983 : Cond.code yX7_passes cX7_passes 3 none ∈ TT := TT_in (i := 983) (by decide +kernel) (by decide +kernel)
theorem w_982 : Cond.instanceMethod yX7_passes ∈ TT := TT_in (i := 982) (by decide +kernel) (by decide +kernel)
theorem w_46 : Cond.selects yX7_passes.cls yX7_passes yX7_passes ∈ TT := TT_in (i := 46) (by decide +kernel) (by decide +kernel)
theorem w_988 : Cond.methodLink yX7_run.cls 214 yX7_lays ∈ TT := TT_in (i := 988) (by decide +kernel) (by decide +kernel)
theorem w_991 : Cond.code yX7_lays cX7_lays 2 none ∈ TT := TT_in (i := 991) (by decide +kernel) (by decide +kernel)
theorem w_990 : Cond.instanceMethod yX7_lays ∈ TT := TT_in (i := 990) (by decide +kernel) (by decide +kernel)
theorem w_48 : Cond.selects yX7_lays.cls yX7_lays yX7_lays ∈ TT := TT_in (i := 48) (by decide +kernel) (by decide +kernel)
theorem w_984 : Cond.methodLink yX7_run.cls 211 yX7_talliesAll ∈ TT := TT_in (i := 984) (by decide +kernel) (by decide +kernel)
theorem w_987 : Cond.code yX7_talliesAll cX7_talliesAll 4 (some .int) ∈ TT := TT_in (i := 987) (by decide +kernel) (by decide +kernel)
theorem w_986 : Cond.instanceMethod yX7_talliesAll ∈ TT := TT_in (i := 986) (by decide +kernel) (by decide +kernel)
theorem w_47 : Cond.selects yX7_talliesAll.cls yX7_talliesAll yX7_talliesAll ∈ TT := TT_in (i := 47) (by decide +kernel) (by decide +kernel)
theorem w_1000 : Cond.methodLink yX7_end.cls 217 yX7_mostFelt ∈ TT := TT_in (i := 1000) (by decide +kernel) (by decide +kernel)
theorem w_1003 : Cond.code yX7_mostFelt cX7_mostFelt 4 (some .int) ∈ TT := TT_in (i := 1003) (by decide +kernel) (by decide +kernel)
theorem w_1002 : Cond.instanceMethod yX7_mostFelt ∈ TT := TT_in (i := 1002) (by decide +kernel) (by decide +kernel)
theorem w_49 : Cond.selects yX7_mostFelt.cls yX7_mostFelt yX7_mostFelt ∈ TT := TT_in (i := 49) (by decide +kernel) (by decide +kernel)
theorem w_1012 : Cond.methodLink yX7_toss.cls 220 yX7_feltBehind ∈ TT := TT_in (i := 1012) (by decide +kernel) (by decide +kernel)
theorem w_1015 : Cond.code yX7_feltBehind cX7_feltBehind 4 (some .int) ∈ TT := TT_in (i := 1015) (by decide +kernel) (by decide +kernel)
theorem w_1014 : Cond.instanceMethod yX7_feltBehind ∈ TT := TT_in (i := 1014) (by decide +kernel) (by decide +kernel)
theorem w_50 : Cond.selects yX7_feltBehind.cls yX7_feltBehind yX7_feltBehind ∈ TT := TT_in (i := 50) (by decide +kernel) (by decide +kernel)
theorem w_1031 : Cond.constantLong yX7_betting.cls 227 (-4611686018427387904 : Int64) ∈ TT := TT_in (i := 1031) (by decide +kernel) (by decide +kernel)
theorem w_1028 : Cond.methodLink yX7_betting.cls 223 yX7_lowest ∈ TT := TT_in (i := 1028) (by decide +kernel) (by decide +kernel)
theorem w_1030 : Cond.code yX7_lowest cX7_lowest 11 (some .long) ∈ TT := TT_in (i := 1030) (by decide +kernel) (by decide +kernel)
theorem w_1029 : Cond.static yX7_lowest ∈ TT := TT_in (i := 1029) (by decide +kernel) (by decide +kernel)
theorem w_777 : Cond.fieldLink yX7_sheetWrong.cls 37 (TX7 15).1 (TX7 15).2.1 (TX7 15).2.2.1 ∈ TT := TT_in (i := 777) (by decide +kernel) (by decide +kernel)
theorem w_778 : Cond.fieldLink yX7_sheetWrong.cls 40 (TX7 16).1 (TX7 16).2.1 (TX7 16).2.2.1 ∈ TT := TT_in (i := 778) (by decide +kernel) (by decide +kernel)
theorem w_1040 : Cond.methodLink yX7_toldWrong.cls 229 yX7_sheetWrong ∈ TT := TT_in (i := 1040) (by decide +kernel) (by decide +kernel)
theorem w_1043 : Cond.code yX7_sheetWrong cX7_sheetWrong 2 (some .int) ∈ TT := TT_in (i := 1043) (by decide +kernel) (by decide +kernel)
theorem w_1042 : Cond.instanceMethod yX7_sheetWrong ∈ TT := TT_in (i := 1042) (by decide +kernel) (by decide +kernel)
theorem w_52 : Cond.selects yX7_sheetWrong.cls yX7_sheetWrong yX7_sheetWrong ∈ TT := TT_in (i := 52) (by decide +kernel) (by decide +kernel)
theorem w_779 : Cond.fieldLink yX7_unlike.cls 43 (TX7 17).1 (TX7 17).2.1 (TX7 17).2.2.1 ∈ TT := TT_in (i := 779) (by decide +kernel) (by decide +kernel)
theorem w_1036 : Cond.methodLink yX7_judge.cls 232 yX7_toldWrong ∈ TT := TT_in (i := 1036) (by decide +kernel) (by decide +kernel)
theorem w_1039 : Cond.code yX7_toldWrong cX7_toldWrong 4 (some .int) ∈ TT := TT_in (i := 1039) (by decide +kernel) (by decide +kernel)
theorem w_1038 : Cond.instanceMethod yX7_toldWrong ∈ TT := TT_in (i := 1038) (by decide +kernel) (by decide +kernel)
theorem w_51 : Cond.selects yX7_toldWrong.cls yX7_toldWrong yX7_toldWrong ∈ TT := TT_in (i := 51) (by decide +kernel) (by decide +kernel)
theorem w_1044 : Cond.methodLink yX7_judge.cls 235 yX7_unlike ∈ TT := TT_in (i := 1044) (by decide +kernel) (by decide +kernel)
theorem w_1047 : Cond.code yX7_unlike cX7_unlike 5 (some .int) ∈ TT := TT_in (i := 1047) (by decide +kernel) (by decide +kernel)
theorem w_1046 : Cond.instanceMethod yX7_unlike ∈ TT := TT_in (i := 1046) (by decide +kernel) (by decide +kernel)
theorem w_53 : Cond.selects yX7_unlike.cls yX7_unlike yX7_unlike ∈ TT := TT_in (i := 53) (by decide +kernel) (by decide +kernel)
theorem w_793 : Cond.fieldLink yX7_lotRing.cls 244 (TX7 31).1 (TX7 31).2.1 (TX7 31).2.2.1 ∈ TT := TT_in (i := 793) (by decide +kernel) (by decide +kernel)
theorem w_1081 : Cond.constantLong yX7_lotRing.cls 238 (48271 : Int64) ∈ TT := TT_in (i := 1081) (by decide +kernel) (by decide +kernel)
theorem w_1082 : Cond.constantLong yX7_lotRing.cls 240 (2147483647 : Int64) ∈ TT := TT_in (i := 1082) (by decide +kernel) (by decide +kernel)
theorem w_1083 : Cond.constantLong yX7_lotRing.cls 242 (64 : Int64) ∈ TT := TT_in (i := 1083) (by decide +kernel) (by decide +kernel)
theorem w_1076 : Cond.constant yX7_drawn.cls 247 (99999 : Int32) ∈ TT := TT_in (i := 1076) (by decide +kernel) (by decide +kernel)
theorem w_1077 : Cond.methodLink yX7_drawn.cls 248 yX7_lotRing ∈ TT := TT_in (i := 1077) (by decide +kernel) (by decide +kernel)
theorem w_1080 : Cond.code yX7_lotRing cX7_lotRing 5 (some .int) ∈ TT := TT_in (i := 1080) (by decide +kernel) (by decide +kernel)
theorem w_1079 : Cond.instanceMethod yX7_lotRing ∈ TT := TT_in (i := 1079) (by decide +kernel) (by decide +kernel)
theorem w_54 : Cond.selects yX7_lotRing.cls yX7_lotRing yX7_lotRing ∈ TT := TT_in (i := 54) (by decide +kernel) (by decide +kernel)
theorem w_774 : Cond.fieldLink yX7_image.cls 251 (TX7 12).1 (TX7 12).2.1 (TX7 12).2.2.1 ∈ TT := TT_in (i := 774) (by decide +kernel) (by decide +kernel)
theorem w_776 : Cond.fieldLink yX7_image.cls 34 (TX7 14).1 (TX7 14).2.1 (TX7 14).2.2.1 ∈ TT := TT_in (i := 776) (by decide +kernel) (by decide +kernel)
theorem w_775 : Cond.fieldLink yX7_image.cls 31 (TX7 13).1 (TX7 13).2.1 (TX7 13).2.2.1 ∈ TT := TT_in (i := 775) (by decide +kernel) (by decide +kernel)
theorem w_1112 : Cond.methodLink yX7_hatsBy.cls 255 yX7_hat ∈ TT := TT_in (i := 1112) (by decide +kernel) (by decide +kernel)
theorem w_911 : Cond.code yX7_hat cX7_hat 5 (some .int) ∈ TT := TT_in (i := 911) (by decide +kernel) (by decide +kernel)
theorem w_909 : Cond.instanceMethod yX7_hat ∈ TT := TT_in (i := 909) (by decide +kernel) (by decide +kernel)
theorem w_910 : Cond.selects yX7_hat.cls yX7_hat yX7_hat ∈ TT := TT_in (i := 910) (by decide +kernel) (by decide +kernel)
theorem w_1117 : Cond.methodLink yX7_taken.cls 258 yX7_isUnder ∈ TT := TT_in (i := 1117) (by decide +kernel) (by decide +kernel)
theorem w_1119 : Cond.code yX7_isUnder cX7_isUnder 2 (some .boolean) ∈ TT := TT_in (i := 1119) (by decide +kernel) (by decide +kernel)
theorem w_1118 : Cond.static yX7_isUnder ∈ TT := TT_in (i := 1118) (by decide +kernel) (by decide +kernel)
theorem w_150 : Cond.fieldLink yX1_readOne.cls 31 (TX1 6).1 (TX1 6).2.1 (TX1 6).2.2.1 ∈ TT := TT_in (i := 150) (by decide +kernel) (by decide +kernel)
theorem w_323 : Cond.methodLink yX1_readOne.cls 64 yX4_write ∈ TT := TT_in (i := 323) (by decide +kernel) (by decide +kernel)
theorem w_326 : Cond.code yX4_write cX4_write 2 none ∈ TT := TT_in (i := 326) (by decide +kernel) (by decide +kernel)
theorem w_324 : Cond.instanceMethod yX4_write ∈ TT := TT_in (i := 324) (by decide +kernel) (by decide +kernel)
theorem w_325 : Cond.selects yX4_write.cls yX4_write yX4_write ∈ TT := TT_in (i := 325) (by decide +kernel) (by decide +kernel)
theorem w_339 : Cond.methodLink yX1_readOne.cls 79 yX5_isName ∈ TT := TT_in (i := 339) (by decide +kernel) (by decide +kernel)
theorem w_311 : Cond.methodLink yX1_readOne.cls 49 yX1_readE ∈ TT := TT_in (i := 311) (by decide +kernel) (by decide +kernel)
theorem w_314 : Cond.code yX1_readE cX1_readE 3 none ∈ TT := TT_in (i := 314) (by decide +kernel) (by decide +kernel)
theorem w_313 : Cond.instanceMethod yX1_readE ∈ TT := TT_in (i := 313) (by decide +kernel) (by decide +kernel)
theorem w_6 : Cond.selects yX1_readE.cls yX1_readE yX1_readE ∈ TT := TT_in (i := 6) (by decide +kernel) (by decide +kernel)
theorem w_303 : Cond.methodLink yX1_readOne.cls 45 yX1_expect ∈ TT := TT_in (i := 303) (by decide +kernel) (by decide +kernel)
theorem w_306 : Cond.code yX1_expect cX1_expect 2 none ∈ TT := TT_in (i := 306) (by decide +kernel) (by decide +kernel)
theorem w_305 : Cond.instanceMethod yX1_expect ∈ TT := TT_in (i := 305) (by decide +kernel) (by decide +kernel)
theorem w_4 : Cond.selects yX1_expect.cls yX1_expect yX1_expect ∈ TT := TT_in (i := 4) (by decide +kernel) (by decide +kernel)
theorem w_335 : Cond.methodLink yX1_readOne.cls 76 yX1_readOne ∈ TT := TT_in (i := 335) (by decide +kernel) (by decide +kernel)
theorem w_338 : Cond.code yX1_readOne cX1_readOne 2 none ∈ TT := TT_in (i := 338) (by decide +kernel) (by decide +kernel)
theorem w_337 : Cond.instanceMethod yX1_readOne ∈ TT := TT_in (i := 337) (by decide +kernel) (by decide +kernel)
theorem w_11 : Cond.selects yX1_readOne.cls yX1_readOne yX1_readOne ∈ TT := TT_in (i := 11) (by decide +kernel) (by decide +kernel)
theorem w_331 : Cond.methodLink yX1_readSum.cls 73 yX1_readTerm ∈ TT := TT_in (i := 331) (by decide +kernel) (by decide +kernel)
theorem w_334 : Cond.code yX1_readTerm cX1_readTerm 3 none ∈ TT := TT_in (i := 334) (by decide +kernel) (by decide +kernel)
theorem w_333 : Cond.instanceMethod yX1_readTerm ∈ TT := TT_in (i := 333) (by decide +kernel) (by decide +kernel)
theorem w_10 : Cond.selects yX1_readTerm.cls yX1_readTerm yX1_readTerm ∈ TT := TT_in (i := 10) (by decide +kernel) (by decide +kernel)
theorem w_327 : Cond.methodLink yX1_readNot.cls 70 yX1_readSum ∈ TT := TT_in (i := 327) (by decide +kernel) (by decide +kernel)
theorem w_330 : Cond.code yX1_readSum cX1_readSum 4 none ∈ TT := TT_in (i := 330) (by decide +kernel) (by decide +kernel)
theorem w_329 : Cond.instanceMethod yX1_readSum ∈ TT := TT_in (i := 329) (by decide +kernel) (by decide +kernel)
theorem w_9 : Cond.selects yX1_readSum.cls yX1_readSum yX1_readSum ∈ TT := TT_in (i := 9) (by decide +kernel) (by decide +kernel)
theorem w_319 : Cond.methodLink yX1_readNot.cls 67 yX1_readNot ∈ TT := TT_in (i := 319) (by decide +kernel) (by decide +kernel)
theorem w_322 : Cond.code yX1_readNot cX1_readNot 3 none ∈ TT := TT_in (i := 322) (by decide +kernel) (by decide +kernel)
theorem w_321 : Cond.instanceMethod yX1_readNot ∈ TT := TT_in (i := 321) (by decide +kernel) (by decide +kernel)
theorem w_8 : Cond.selects yX1_readNot.cls yX1_readNot yX1_readNot ∈ TT := TT_in (i := 8) (by decide +kernel) (by decide +kernel)
theorem w_315 : Cond.methodLink yX1_readE.cls 61 yX1_readAnd ∈ TT := TT_in (i := 315) (by decide +kernel) (by decide +kernel)
theorem w_318 : Cond.code yX1_readAnd cX1_readAnd 3 none ∈ TT := TT_in (i := 318) (by decide +kernel) (by decide +kernel)
theorem w_317 : Cond.instanceMethod yX1_readAnd ∈ TT := TT_in (i := 317) (by decide +kernel) (by decide +kernel)
theorem w_7 : Cond.selects yX1_readAnd.cls yX1_readAnd yX1_readAnd ∈ TT := TT_in (i := 7) (by decide +kernel) (by decide +kernel)
theorem w_257 : Cond.methodLink yX1_read.cls 15 Lib.Math.min.name ∈ TT := TT_in (i := 257) (by decide +kernel) (by decide +kernel)
theorem w_260 : Cond.methodLink yX1_read.cls 35 yX4_clear ∈ TT := TT_in (i := 260) (by decide +kernel) (by decide +kernel)
theorem w_263 : Cond.code yX4_clear cX4_clear 1 none ∈ TT := TT_in (i := 263) (by decide +kernel) (by decide +kernel)
theorem w_261 : Cond.instanceMethod yX4_clear ∈ TT := TT_in (i := 261) (by decide +kernel) (by decide +kernel)
theorem w_262 : Cond.selects yX4_clear.cls yX4_clear yX4_clear ∈ TT := TT_in (i := 262) (by decide +kernel) (by decide +kernel)
theorem w_342 : Cond.methodLink yX1_read.cls 52 yX4_endPart ∈ TT := TT_in (i := 342) (by decide +kernel) (by decide +kernel)
theorem w_345 : Cond.code yX4_endPart cX4_endPart 2 none ∈ TT := TT_in (i := 345) (by decide +kernel) (by decide +kernel)
theorem w_343 : Cond.instanceMethod yX4_endPart ∈ TT := TT_in (i := 343) (by decide +kernel) (by decide +kernel)
theorem w_344 : Cond.selects yX4_endPart.cls yX4_endPart yX4_endPart ∈ TT := TT_in (i := 344) (by decide +kernel) (by decide +kernel)
theorem w_350 : Cond.fieldLink yX6_text.cls 33 (TX6 4).1 (TX6 4).2.1 (TX6 4).2.2.1 ∈ TT := TT_in (i := 350) (by decide +kernel) (by decide +kernel)
theorem w_253 : Cond.methodLink yX6_text.cls 63 yX1_read ∈ TT := TT_in (i := 253) (by decide +kernel) (by decide +kernel)
theorem w_256 : Cond.code yX1_read cX1_read 5 (some .int) ∈ TT := TT_in (i := 256) (by decide +kernel) (by decide +kernel)
theorem w_254 : Cond.instanceMethod yX1_read ∈ TT := TT_in (i := 254) (by decide +kernel) (by decide +kernel)
theorem w_255 : Cond.selects yX1_read.cls yX1_read yX1_read ∈ TT := TT_in (i := 255) (by decide +kernel) (by decide +kernel)
theorem w_699 : Cond.methodLink yL_law.cls 158 yX6_taken ∈ TT := TT_in (i := 699) (by decide +kernel) (by decide +kernel)
theorem w_702 : Cond.code yX6_taken cX6_taken 5 (some .int) ∈ TT := TT_in (i := 702) (by decide +kernel) (by decide +kernel)
theorem w_700 : Cond.instanceMethod yX6_taken ∈ TT := TT_in (i := 700) (by decide +kernel) (by decide +kernel)
theorem w_701 : Cond.selects yX6_taken.cls yX6_taken yX6_taken ∈ TT := TT_in (i := 701) (by decide +kernel) (by decide +kernel)
theorem w_1113 : Cond.methodLink yL_law.cls 161 yX7_taken ∈ TT := TT_in (i := 1113) (by decide +kernel) (by decide +kernel)
theorem w_1116 : Cond.code yX7_taken cX7_taken 3 (some .int) ∈ TT := TT_in (i := 1116) (by decide +kernel) (by decide +kernel)
theorem w_1114 : Cond.instanceMethod yX7_taken ∈ TT := TT_in (i := 1114) (by decide +kernel) (by decide +kernel)
theorem w_1115 : Cond.selects yX7_taken.cls yX7_taken yX7_taken ∈ TT := TT_in (i := 1115) (by decide +kernel) (by decide +kernel)
theorem w_694 : Cond.methodLink yL_law.cls 154 yX6_hatsBy ∈ TT := TT_in (i := 694) (by decide +kernel) (by decide +kernel)
theorem w_697 : Cond.code yX6_hatsBy cX6_hatsBy 9 (some .int) ∈ TT := TT_in (i := 697) (by decide +kernel) (by decide +kernel)
theorem w_695 : Cond.instanceMethod yX6_hatsBy ∈ TT := TT_in (i := 695) (by decide +kernel) (by decide +kernel)
theorem w_696 : Cond.selects yX6_hatsBy.cls yX6_hatsBy yX6_hatsBy ∈ TT := TT_in (i := 696) (by decide +kernel) (by decide +kernel)
theorem w_1108 : Cond.methodLink yL_law.cls 157 yX7_hatsBy ∈ TT := TT_in (i := 1108) (by decide +kernel) (by decide +kernel)
theorem w_1111 : Cond.code yX7_hatsBy cX7_hatsBy 9 (some .int) ∈ TT := TT_in (i := 1111) (by decide +kernel) (by decide +kernel)
theorem w_1109 : Cond.instanceMethod yX7_hatsBy ∈ TT := TT_in (i := 1109) (by decide +kernel) (by decide +kernel)
theorem w_1110 : Cond.selects yX7_hatsBy.cls yX7_hatsBy yX7_hatsBy ∈ TT := TT_in (i := 1110) (by decide +kernel) (by decide +kernel)
theorem w_689 : Cond.methodLink yL_law.cls 149 yX6_copy ∈ TT := TT_in (i := 689) (by decide +kernel) (by decide +kernel)
theorem w_692 : Cond.code yX6_copy cX6_copy 8 (some .int) ∈ TT := TT_in (i := 692) (by decide +kernel) (by decide +kernel)
theorem w_690 : Cond.instanceMethod yX6_copy ∈ TT := TT_in (i := 690) (by decide +kernel) (by decide +kernel)
theorem w_691 : Cond.selects yX6_copy.cls yX6_copy yX6_copy ∈ TT := TT_in (i := 691) (by decide +kernel) (by decide +kernel)
theorem w_1104 : Cond.methodLink yL_law.cls 153 yX7_copy ∈ TT := TT_in (i := 1104) (by decide +kernel) (by decide +kernel)
theorem w_1107 : Cond.code yX7_copy cX7_copy 10 (some .int) ∈ TT := TT_in (i := 1107) (by decide +kernel) (by decide +kernel)
theorem w_1105 : Cond.instanceMethod yX7_copy ∈ TT := TT_in (i := 1105) (by decide +kernel) (by decide +kernel)
theorem w_1106 : Cond.selects yX7_copy.cls yX7_copy yX7_copy ∈ TT := TT_in (i := 1106) (by decide +kernel) (by decide +kernel)
theorem w_681 : Cond.methodLink yL_law.cls 145 yX6_cell ∈ TT := TT_in (i := 681) (by decide +kernel) (by decide +kernel)
theorem w_684 : Cond.code yX6_cell cX6_cell 4 (some .int) ∈ TT := TT_in (i := 684) (by decide +kernel) (by decide +kernel)
theorem w_682 : Cond.instanceMethod yX6_cell ∈ TT := TT_in (i := 682) (by decide +kernel) (by decide +kernel)
theorem w_683 : Cond.selects yX6_cell.cls yX6_cell yX6_cell ∈ TT := TT_in (i := 683) (by decide +kernel) (by decide +kernel)
theorem w_1100 : Cond.methodLink yL_law.cls 148 yX7_cell ∈ TT := TT_in (i := 1100) (by decide +kernel) (by decide +kernel)
theorem w_1103 : Cond.code yX7_cell cX7_cell 4 (some .int) ∈ TT := TT_in (i := 1103) (by decide +kernel) (by decide +kernel)
theorem w_1101 : Cond.instanceMethod yX7_cell ∈ TT := TT_in (i := 1101) (by decide +kernel) (by decide +kernel)
theorem w_1102 : Cond.selects yX7_cell.cls yX7_cell yX7_cell ∈ TT := TT_in (i := 1102) (by decide +kernel) (by decide +kernel)
theorem w_674 : Cond.methodLink yL_law.cls 141 yX6_sheet ∈ TT := TT_in (i := 674) (by decide +kernel) (by decide +kernel)
theorem w_677 : Cond.code yX6_sheet cX6_sheet 5 (some .int) ∈ TT := TT_in (i := 677) (by decide +kernel) (by decide +kernel)
theorem w_675 : Cond.instanceMethod yX6_sheet ∈ TT := TT_in (i := 675) (by decide +kernel) (by decide +kernel)
theorem w_676 : Cond.selects yX6_sheet.cls yX6_sheet yX6_sheet ∈ TT := TT_in (i := 676) (by decide +kernel) (by decide +kernel)
theorem w_1096 : Cond.methodLink yL_law.cls 144 yX7_sheet ∈ TT := TT_in (i := 1096) (by decide +kernel) (by decide +kernel)
theorem w_1099 : Cond.code yX7_sheet cX7_sheet 5 (some .int) ∈ TT := TT_in (i := 1099) (by decide +kernel) (by decide +kernel)
theorem w_1097 : Cond.instanceMethod yX7_sheet ∈ TT := TT_in (i := 1097) (by decide +kernel) (by decide +kernel)
theorem w_1098 : Cond.selects yX7_sheet.cls yX7_sheet yX7_sheet ∈ TT := TT_in (i := 1098) (by decide +kernel) (by decide +kernel)
theorem w_670 : Cond.methodLink yL_law.cls 137 yX6_back ∈ TT := TT_in (i := 670) (by decide +kernel) (by decide +kernel)
theorem w_673 : Cond.code yX6_back cX6_back 1 (some .int) ∈ TT := TT_in (i := 673) (by decide +kernel) (by decide +kernel)
theorem w_671 : Cond.instanceMethod yX6_back ∈ TT := TT_in (i := 671) (by decide +kernel) (by decide +kernel)
theorem w_672 : Cond.selects yX6_back.cls yX6_back yX6_back ∈ TT := TT_in (i := 672) (by decide +kernel) (by decide +kernel)
theorem w_1092 : Cond.methodLink yL_law.cls 140 yX7_back ∈ TT := TT_in (i := 1092) (by decide +kernel) (by decide +kernel)
theorem w_1095 : Cond.code yX7_back cX7_back 2 (some .int) ∈ TT := TT_in (i := 1095) (by decide +kernel) (by decide +kernel)
theorem w_1093 : Cond.instanceMethod yX7_back ∈ TT := TT_in (i := 1093) (by decide +kernel) (by decide +kernel)
theorem w_1094 : Cond.selects yX7_back.cls yX7_back yX7_back ∈ TT := TT_in (i := 1094) (by decide +kernel) (by decide +kernel)
theorem w_666 : Cond.methodLink yL_law.cls 133 yX6_image ∈ TT := TT_in (i := 666) (by decide +kernel) (by decide +kernel)
theorem w_669 : Cond.code yX6_image cX6_image 1 (some .int) ∈ TT := TT_in (i := 669) (by decide +kernel) (by decide +kernel)
theorem w_667 : Cond.instanceMethod yX6_image ∈ TT := TT_in (i := 667) (by decide +kernel) (by decide +kernel)
theorem w_668 : Cond.selects yX6_image.cls yX6_image yX6_image ∈ TT := TT_in (i := 668) (by decide +kernel) (by decide +kernel)
theorem w_1088 : Cond.methodLink yL_law.cls 136 yX7_image ∈ TT := TT_in (i := 1088) (by decide +kernel) (by decide +kernel)
theorem w_1091 : Cond.code yX7_image cX7_image 2 (some .int) ∈ TT := TT_in (i := 1091) (by decide +kernel) (by decide +kernel)
theorem w_1089 : Cond.instanceMethod yX7_image ∈ TT := TT_in (i := 1089) (by decide +kernel) (by decide +kernel)
theorem w_1090 : Cond.selects yX7_image.cls yX7_image yX7_image ∈ TT := TT_in (i := 1090) (by decide +kernel) (by decide +kernel)
theorem w_662 : Cond.methodLink yL_law.cls 128 yX6_odds ∈ TT := TT_in (i := 662) (by decide +kernel) (by decide +kernel)
theorem w_665 : Cond.code yX6_odds cX6_odds 7 (some .long) ∈ TT := TT_in (i := 665) (by decide +kernel) (by decide +kernel)
theorem w_663 : Cond.instanceMethod yX6_odds ∈ TT := TT_in (i := 663) (by decide +kernel) (by decide +kernel)
theorem w_664 : Cond.selects yX6_odds.cls yX6_odds yX6_odds ∈ TT := TT_in (i := 664) (by decide +kernel) (by decide +kernel)
theorem w_1084 : Cond.methodLink yL_law.cls 132 yX7_odds ∈ TT := TT_in (i := 1084) (by decide +kernel) (by decide +kernel)
theorem w_1087 : Cond.code yX7_odds cX7_odds 8 (some .long) ∈ TT := TT_in (i := 1087) (by decide +kernel) (by decide +kernel)
theorem w_1085 : Cond.instanceMethod yX7_odds ∈ TT := TT_in (i := 1085) (by decide +kernel) (by decide +kernel)
theorem w_1086 : Cond.selects yX7_odds.cls yX7_odds yX7_odds ∈ TT := TT_in (i := 1086) (by decide +kernel) (by decide +kernel)
theorem w_650 : Cond.methodLink yL_law.cls 124 yX6_drawn ∈ TT := TT_in (i := 650) (by decide +kernel) (by decide +kernel)
theorem w_653 : Cond.code yX6_drawn cX6_drawn 3 (some .int) ∈ TT := TT_in (i := 653) (by decide +kernel) (by decide +kernel)
theorem w_651 : Cond.instanceMethod yX6_drawn ∈ TT := TT_in (i := 651) (by decide +kernel) (by decide +kernel)
theorem w_652 : Cond.selects yX6_drawn.cls yX6_drawn yX6_drawn ∈ TT := TT_in (i := 652) (by decide +kernel) (by decide +kernel)
theorem w_1072 : Cond.methodLink yL_law.cls 127 yX7_drawn ∈ TT := TT_in (i := 1072) (by decide +kernel) (by decide +kernel)
theorem w_1075 : Cond.code yX7_drawn cX7_drawn 4 (some .int) ∈ TT := TT_in (i := 1075) (by decide +kernel) (by decide +kernel)
theorem w_1073 : Cond.instanceMethod yX7_drawn ∈ TT := TT_in (i := 1073) (by decide +kernel) (by decide +kernel)
theorem w_1074 : Cond.selects yX7_drawn.cls yX7_drawn yX7_drawn ∈ TT := TT_in (i := 1074) (by decide +kernel) (by decide +kernel)
theorem w_639 : Cond.methodLink yL_law.cls 120 yX6_film ∈ TT := TT_in (i := 639) (by decide +kernel) (by decide +kernel)
theorem w_642 : Cond.code yX6_film cX6_film 5 (some .int) ∈ TT := TT_in (i := 642) (by decide +kernel) (by decide +kernel)
theorem w_640 : Cond.instanceMethod yX6_film ∈ TT := TT_in (i := 640) (by decide +kernel) (by decide +kernel)
theorem w_641 : Cond.selects yX6_film.cls yX6_film yX6_film ∈ TT := TT_in (i := 641) (by decide +kernel) (by decide +kernel)
theorem w_1068 : Cond.methodLink yL_law.cls 123 yX7_film ∈ TT := TT_in (i := 1068) (by decide +kernel) (by decide +kernel)
theorem w_1071 : Cond.code yX7_film cX7_film 5 (some .int) ∈ TT := TT_in (i := 1071) (by decide +kernel) (by decide +kernel)
theorem w_1069 : Cond.instanceMethod yX7_film ∈ TT := TT_in (i := 1069) (by decide +kernel) (by decide +kernel)
theorem w_1070 : Cond.selects yX7_film.cls yX7_film yX7_film ∈ TT := TT_in (i := 1070) (by decide +kernel) (by decide +kernel)
theorem w_635 : Cond.methodLink yL_law.cls 116 yX6_laws ∈ TT := TT_in (i := 635) (by decide +kernel) (by decide +kernel)
theorem w_638 : Cond.code yX6_laws cX6_laws 6 (some .int) ∈ TT := TT_in (i := 638) (by decide +kernel) (by decide +kernel)
theorem w_636 : Cond.instanceMethod yX6_laws ∈ TT := TT_in (i := 636) (by decide +kernel) (by decide +kernel)
theorem w_637 : Cond.selects yX6_laws.cls yX6_laws yX6_laws ∈ TT := TT_in (i := 637) (by decide +kernel) (by decide +kernel)
theorem w_1064 : Cond.methodLink yL_law.cls 119 yX7_laws ∈ TT := TT_in (i := 1064) (by decide +kernel) (by decide +kernel)
theorem w_1067 : Cond.code yX7_laws cX7_laws 7 (some .int) ∈ TT := TT_in (i := 1067) (by decide +kernel) (by decide +kernel)
theorem w_1065 : Cond.instanceMethod yX7_laws ∈ TT := TT_in (i := 1065) (by decide +kernel) (by decide +kernel)
theorem w_1066 : Cond.selects yX7_laws.cls yX7_laws yX7_laws ∈ TT := TT_in (i := 1066) (by decide +kernel) (by decide +kernel)
theorem w_631 : Cond.methodLink yL_law.cls 112 yX6_whose ∈ TT := TT_in (i := 631) (by decide +kernel) (by decide +kernel)
theorem w_634 : Cond.code yX6_whose cX6_whose 5 (some .int) ∈ TT := TT_in (i := 634) (by decide +kernel) (by decide +kernel)
theorem w_632 : Cond.instanceMethod yX6_whose ∈ TT := TT_in (i := 632) (by decide +kernel) (by decide +kernel)
theorem w_633 : Cond.selects yX6_whose.cls yX6_whose yX6_whose ∈ TT := TT_in (i := 633) (by decide +kernel) (by decide +kernel)
theorem w_1060 : Cond.methodLink yL_law.cls 115 yX7_whose ∈ TT := TT_in (i := 1060) (by decide +kernel) (by decide +kernel)
theorem w_1063 : Cond.code yX7_whose cX7_whose 5 (some .int) ∈ TT := TT_in (i := 1063) (by decide +kernel) (by decide +kernel)
theorem w_1061 : Cond.instanceMethod yX7_whose ∈ TT := TT_in (i := 1061) (by decide +kernel) (by decide +kernel)
theorem w_1062 : Cond.selects yX7_whose.cls yX7_whose yX7_whose ∈ TT := TT_in (i := 1062) (by decide +kernel) (by decide +kernel)
theorem w_627 : Cond.methodLink yL_law.cls 108 yX6_places ∈ TT := TT_in (i := 627) (by decide +kernel) (by decide +kernel)
theorem w_630 : Cond.code yX6_places cX6_places 6 (some .long) ∈ TT := TT_in (i := 630) (by decide +kernel) (by decide +kernel)
theorem w_628 : Cond.instanceMethod yX6_places ∈ TT := TT_in (i := 628) (by decide +kernel) (by decide +kernel)
theorem w_629 : Cond.selects yX6_places.cls yX6_places yX6_places ∈ TT := TT_in (i := 629) (by decide +kernel) (by decide +kernel)
theorem w_1056 : Cond.methodLink yL_law.cls 111 yX7_places ∈ TT := TT_in (i := 1056) (by decide +kernel) (by decide +kernel)
theorem w_1059 : Cond.code yX7_places cX7_places 7 (some .long) ∈ TT := TT_in (i := 1059) (by decide +kernel) (by decide +kernel)
theorem w_1057 : Cond.instanceMethod yX7_places ∈ TT := TT_in (i := 1057) (by decide +kernel) (by decide +kernel)
theorem w_1058 : Cond.selects yX7_places.cls yX7_places yX7_places ∈ TT := TT_in (i := 1058) (by decide +kernel) (by decide +kernel)
theorem w_623 : Cond.methodLink yL_law.cls 104 yX6_states ∈ TT := TT_in (i := 623) (by decide +kernel) (by decide +kernel)
theorem w_626 : Cond.code yX6_states cX6_states 10 (some .int) ∈ TT := TT_in (i := 626) (by decide +kernel) (by decide +kernel)
theorem w_624 : Cond.instanceMethod yX6_states ∈ TT := TT_in (i := 624) (by decide +kernel) (by decide +kernel)
theorem w_625 : Cond.selects yX6_states.cls yX6_states yX6_states ∈ TT := TT_in (i := 625) (by decide +kernel) (by decide +kernel)
theorem w_1052 : Cond.methodLink yL_law.cls 107 yX7_states ∈ TT := TT_in (i := 1052) (by decide +kernel) (by decide +kernel)
theorem w_1055 : Cond.code yX7_states cX7_states 11 (some .int) ∈ TT := TT_in (i := 1055) (by decide +kernel) (by decide +kernel)
theorem w_1053 : Cond.instanceMethod yX7_states ∈ TT := TT_in (i := 1053) (by decide +kernel) (by decide +kernel)
theorem w_1054 : Cond.selects yX7_states.cls yX7_states yX7_states ∈ TT := TT_in (i := 1054) (by decide +kernel) (by decide +kernel)
theorem w_619 : Cond.methodLink yL_law.cls 99 yX6_kinds ∈ TT := TT_in (i := 619) (by decide +kernel) (by decide +kernel)
theorem w_622 : Cond.code yX6_kinds cX6_kinds 9 (some .int) ∈ TT := TT_in (i := 622) (by decide +kernel) (by decide +kernel)
theorem w_620 : Cond.instanceMethod yX6_kinds ∈ TT := TT_in (i := 620) (by decide +kernel) (by decide +kernel)
theorem w_621 : Cond.selects yX6_kinds.cls yX6_kinds yX6_kinds ∈ TT := TT_in (i := 621) (by decide +kernel) (by decide +kernel)
theorem w_1048 : Cond.methodLink yL_law.cls 103 yX7_kinds ∈ TT := TT_in (i := 1048) (by decide +kernel) (by decide +kernel)
theorem w_1051 : Cond.code yX7_kinds cX7_kinds 10 (some .int) ∈ TT := TT_in (i := 1051) (by decide +kernel) (by decide +kernel)
theorem w_1049 : Cond.instanceMethod yX7_kinds ∈ TT := TT_in (i := 1049) (by decide +kernel) (by decide +kernel)
theorem w_1050 : Cond.selects yX7_kinds.cls yX7_kinds yX7_kinds ∈ TT := TT_in (i := 1050) (by decide +kernel) (by decide +kernel)
theorem w_596 : Cond.methodLink yL_law.cls 95 yX6_judge ∈ TT := TT_in (i := 596) (by decide +kernel) (by decide +kernel)
theorem w_599 : Cond.code yX6_judge cX6_judge 4 (some .int) ∈ TT := TT_in (i := 599) (by decide +kernel) (by decide +kernel)
theorem w_597 : Cond.instanceMethod yX6_judge ∈ TT := TT_in (i := 597) (by decide +kernel) (by decide +kernel)
theorem w_598 : Cond.selects yX6_judge.cls yX6_judge yX6_judge ∈ TT := TT_in (i := 598) (by decide +kernel) (by decide +kernel)
theorem w_1032 : Cond.methodLink yL_law.cls 98 yX7_judge ∈ TT := TT_in (i := 1032) (by decide +kernel) (by decide +kernel)
theorem w_1035 : Cond.code yX7_judge cX7_judge 4 (some .int) ∈ TT := TT_in (i := 1035) (by decide +kernel) (by decide +kernel)
theorem w_1033 : Cond.instanceMethod yX7_judge ∈ TT := TT_in (i := 1033) (by decide +kernel) (by decide +kernel)
theorem w_1034 : Cond.selects yX7_judge.cls yX7_judge yX7_judge ∈ TT := TT_in (i := 1034) (by decide +kernel) (by decide +kernel)
theorem w_584 : Cond.methodLink yL_law.cls 90 yX6_betting ∈ TT := TT_in (i := 584) (by decide +kernel) (by decide +kernel)
theorem w_587 : Cond.code yX6_betting cX6_betting 3 (some .long) ∈ TT := TT_in (i := 587) (by decide +kernel) (by decide +kernel)
theorem w_585 : Cond.instanceMethod yX6_betting ∈ TT := TT_in (i := 585) (by decide +kernel) (by decide +kernel)
theorem w_586 : Cond.selects yX6_betting.cls yX6_betting yX6_betting ∈ TT := TT_in (i := 586) (by decide +kernel) (by decide +kernel)
theorem w_1024 : Cond.methodLink yL_law.cls 94 yX7_betting ∈ TT := TT_in (i := 1024) (by decide +kernel) (by decide +kernel)
theorem w_1027 : Cond.code yX7_betting cX7_betting 5 (some .long) ∈ TT := TT_in (i := 1027) (by decide +kernel) (by decide +kernel)
theorem w_1025 : Cond.instanceMethod yX7_betting ∈ TT := TT_in (i := 1025) (by decide +kernel) (by decide +kernel)
theorem w_1026 : Cond.selects yX7_betting.cls yX7_betting yX7_betting ∈ TT := TT_in (i := 1026) (by decide +kernel) (by decide +kernel)
theorem w_580 : Cond.methodLink yL_law.cls 86 yX6_lasts ∈ TT := TT_in (i := 580) (by decide +kernel) (by decide +kernel)
theorem w_583 : Cond.code yX6_lasts cX6_lasts 4 (some .int) ∈ TT := TT_in (i := 583) (by decide +kernel) (by decide +kernel)
theorem w_581 : Cond.instanceMethod yX6_lasts ∈ TT := TT_in (i := 581) (by decide +kernel) (by decide +kernel)
theorem w_582 : Cond.selects yX6_lasts.cls yX6_lasts yX6_lasts ∈ TT := TT_in (i := 582) (by decide +kernel) (by decide +kernel)
theorem w_1020 : Cond.methodLink yL_law.cls 89 yX7_lasts ∈ TT := TT_in (i := 1020) (by decide +kernel) (by decide +kernel)
theorem w_1023 : Cond.code yX7_lasts cX7_lasts 5 (some .int) ∈ TT := TT_in (i := 1023) (by decide +kernel) (by decide +kernel)
theorem w_1021 : Cond.instanceMethod yX7_lasts ∈ TT := TT_in (i := 1021) (by decide +kernel) (by decide +kernel)
theorem w_1022 : Cond.selects yX7_lasts.cls yX7_lasts yX7_lasts ∈ TT := TT_in (i := 1022) (by decide +kernel) (by decide +kernel)
theorem w_576 : Cond.methodLink yL_law.cls 82 yX6_rid ∈ TT := TT_in (i := 576) (by decide +kernel) (by decide +kernel)
theorem w_579 : Cond.code yX6_rid cX6_rid 8 (some .int) ∈ TT := TT_in (i := 579) (by decide +kernel) (by decide +kernel)
theorem w_577 : Cond.instanceMethod yX6_rid ∈ TT := TT_in (i := 577) (by decide +kernel) (by decide +kernel)
theorem w_578 : Cond.selects yX6_rid.cls yX6_rid yX6_rid ∈ TT := TT_in (i := 578) (by decide +kernel) (by decide +kernel)
theorem w_1016 : Cond.methodLink yL_law.cls 85 yX7_rid ∈ TT := TT_in (i := 1016) (by decide +kernel) (by decide +kernel)
theorem w_1019 : Cond.code yX7_rid cX7_rid 8 (some .int) ∈ TT := TT_in (i := 1019) (by decide +kernel) (by decide +kernel)
theorem w_1017 : Cond.instanceMethod yX7_rid ∈ TT := TT_in (i := 1017) (by decide +kernel) (by decide +kernel)
theorem w_1018 : Cond.selects yX7_rid.cls yX7_rid yX7_rid ∈ TT := TT_in (i := 1018) (by decide +kernel) (by decide +kernel)
theorem w_572 : Cond.methodLink yL_law.cls 78 yX6_toss ∈ TT := TT_in (i := 572) (by decide +kernel) (by decide +kernel)
theorem w_575 : Cond.code yX6_toss cX6_toss 8 (some .int) ∈ TT := TT_in (i := 575) (by decide +kernel) (by decide +kernel)
theorem w_573 : Cond.instanceMethod yX6_toss ∈ TT := TT_in (i := 573) (by decide +kernel) (by decide +kernel)
theorem w_574 : Cond.selects yX6_toss.cls yX6_toss yX6_toss ∈ TT := TT_in (i := 574) (by decide +kernel) (by decide +kernel)
theorem w_1008 : Cond.methodLink yL_law.cls 81 yX7_toss ∈ TT := TT_in (i := 1008) (by decide +kernel) (by decide +kernel)
theorem w_1011 : Cond.code yX7_toss cX7_toss 8 (some .int) ∈ TT := TT_in (i := 1011) (by decide +kernel) (by decide +kernel)
theorem w_1009 : Cond.instanceMethod yX7_toss ∈ TT := TT_in (i := 1009) (by decide +kernel) (by decide +kernel)
theorem w_1010 : Cond.selects yX7_toss.cls yX7_toss yX7_toss ∈ TT := TT_in (i := 1010) (by decide +kernel) (by decide +kernel)
theorem w_554 : Cond.methodLink yL_law.cls 74 yX6_beaten ∈ TT := TT_in (i := 554) (by decide +kernel) (by decide +kernel)
theorem w_557 : Cond.code yX6_beaten cX6_beaten 5 (some .int) ∈ TT := TT_in (i := 557) (by decide +kernel) (by decide +kernel)
theorem w_555 : Cond.instanceMethod yX6_beaten ∈ TT := TT_in (i := 555) (by decide +kernel) (by decide +kernel)
theorem w_556 : Cond.selects yX6_beaten.cls yX6_beaten yX6_beaten ∈ TT := TT_in (i := 556) (by decide +kernel) (by decide +kernel)
theorem w_1004 : Cond.methodLink yL_law.cls 77 yX7_beaten ∈ TT := TT_in (i := 1004) (by decide +kernel) (by decide +kernel)
theorem w_1007 : Cond.code yX7_beaten cX7_beaten 6 (some .int) ∈ TT := TT_in (i := 1007) (by decide +kernel) (by decide +kernel)
theorem w_1005 : Cond.instanceMethod yX7_beaten ∈ TT := TT_in (i := 1005) (by decide +kernel) (by decide +kernel)
theorem w_1006 : Cond.selects yX7_beaten.cls yX7_beaten yX7_beaten ∈ TT := TT_in (i := 1006) (by decide +kernel) (by decide +kernel)
theorem w_543 : Cond.methodLink yL_law.cls 70 yX6_end ∈ TT := TT_in (i := 543) (by decide +kernel) (by decide +kernel)
theorem w_546 : Cond.code yX6_end cX6_end 6 (some .int) ∈ TT := TT_in (i := 546) (by decide +kernel) (by decide +kernel)
theorem w_544 : Cond.instanceMethod yX6_end ∈ TT := TT_in (i := 544) (by decide +kernel) (by decide +kernel)
theorem w_545 : Cond.selects yX6_end.cls yX6_end yX6_end ∈ TT := TT_in (i := 545) (by decide +kernel) (by decide +kernel)
theorem w_996 : Cond.methodLink yL_law.cls 73 yX7_end ∈ TT := TT_in (i := 996) (by decide +kernel) (by decide +kernel)
theorem w_999 : Cond.code yX7_end cX7_end 7 (some .int) ∈ TT := TT_in (i := 999) (by decide +kernel) (by decide +kernel)
theorem w_997 : Cond.instanceMethod yX7_end ∈ TT := TT_in (i := 997) (by decide +kernel) (by decide +kernel)
theorem w_998 : Cond.selects yX7_end.cls yX7_end yX7_end ∈ TT := TT_in (i := 998) (by decide +kernel) (by decide +kernel)
theorem w_539 : Cond.methodLink yL_law.cls 66 yX6_when ∈ TT := TT_in (i := 539) (by decide +kernel) (by decide +kernel)
theorem w_542 : Cond.code yX6_when cX6_when 3 (some .int) ∈ TT := TT_in (i := 542) (by decide +kernel) (by decide +kernel)
theorem w_540 : Cond.instanceMethod yX6_when ∈ TT := TT_in (i := 540) (by decide +kernel) (by decide +kernel)
theorem w_541 : Cond.selects yX6_when.cls yX6_when yX6_when ∈ TT := TT_in (i := 541) (by decide +kernel) (by decide +kernel)
theorem w_992 : Cond.methodLink yL_law.cls 69 yX7_when ∈ TT := TT_in (i := 992) (by decide +kernel) (by decide +kernel)
theorem w_995 : Cond.code yX7_when cX7_when 5 (some .int) ∈ TT := TT_in (i := 995) (by decide +kernel) (by decide +kernel)
theorem w_993 : Cond.instanceMethod yX7_when ∈ TT := TT_in (i := 993) (by decide +kernel) (by decide +kernel)
theorem w_994 : Cond.selects yX7_when.cls yX7_when yX7_when ∈ TT := TT_in (i := 994) (by decide +kernel) (by decide +kernel)
theorem w_516 : Cond.methodLink yL_law.cls 62 yX6_run ∈ TT := TT_in (i := 516) (by decide +kernel) (by decide +kernel)
theorem w_519 : Cond.code yX6_run cX6_run 8 (some .int) ∈ TT := TT_in (i := 519) (by decide +kernel) (by decide +kernel)
theorem w_517 : Cond.instanceMethod yX6_run ∈ TT := TT_in (i := 517) (by decide +kernel) (by decide +kernel)
theorem w_518 : Cond.selects yX6_run.cls yX6_run yX6_run ∈ TT := TT_in (i := 518) (by decide +kernel) (by decide +kernel)
theorem w_972 : Cond.methodLink yL_law.cls 65 yX7_run ∈ TT := TT_in (i := 972) (by decide +kernel) (by decide +kernel)
theorem w_975 : Cond.code yX7_run cX7_run 5 (some .int) ∈ TT := TT_in (i := 975) (by decide +kernel) (by decide +kernel)
theorem w_973 : Cond.instanceMethod yX7_run ∈ TT := TT_in (i := 973) (by decide +kernel) (by decide +kernel)
theorem w_974 : Cond.selects yX7_run.cls yX7_run yX7_run ∈ TT := TT_in (i := 974) (by decide +kernel) (by decide +kernel)
theorem w_512 : Cond.methodLink yL_law.cls 58 yX6_bell ∈ TT := TT_in (i := 512) (by decide +kernel) (by decide +kernel)
theorem w_515 : Cond.code yX6_bell cX6_bell 3 (some .int) ∈ TT := TT_in (i := 515) (by decide +kernel) (by decide +kernel)
theorem w_513 : Cond.instanceMethod yX6_bell ∈ TT := TT_in (i := 513) (by decide +kernel) (by decide +kernel)
theorem w_514 : Cond.selects yX6_bell.cls yX6_bell yX6_bell ∈ TT := TT_in (i := 514) (by decide +kernel) (by decide +kernel)
theorem w_968 : Cond.methodLink yL_law.cls 61 yX7_bell ∈ TT := TT_in (i := 968) (by decide +kernel) (by decide +kernel)
theorem w_971 : Cond.code yX7_bell cX7_bell 3 (some .int) ∈ TT := TT_in (i := 971) (by decide +kernel) (by decide +kernel)
theorem w_969 : Cond.instanceMethod yX7_bell ∈ TT := TT_in (i := 969) (by decide +kernel) (by decide +kernel)
theorem w_970 : Cond.selects yX7_bell.cls yX7_bell yX7_bell ∈ TT := TT_in (i := 970) (by decide +kernel) (by decide +kernel)
theorem w_491 : Cond.methodLink yL_law.cls 54 yX6_round ∈ TT := TT_in (i := 491) (by decide +kernel) (by decide +kernel)
theorem w_494 : Cond.code yX6_round cX6_round 1 (some .int) ∈ TT := TT_in (i := 494) (by decide +kernel) (by decide +kernel)
theorem w_492 : Cond.instanceMethod yX6_round ∈ TT := TT_in (i := 492) (by decide +kernel) (by decide +kernel)
theorem w_493 : Cond.selects yX6_round.cls yX6_round yX6_round ∈ TT := TT_in (i := 493) (by decide +kernel) (by decide +kernel)
theorem w_952 : Cond.methodLink yL_law.cls 57 yX7_round ∈ TT := TT_in (i := 952) (by decide +kernel) (by decide +kernel)
theorem w_955 : Cond.code yX7_round cX7_round 1 (some .int) ∈ TT := TT_in (i := 955) (by decide +kernel) (by decide +kernel)
theorem w_953 : Cond.instanceMethod yX7_round ∈ TT := TT_in (i := 953) (by decide +kernel) (by decide +kernel)
theorem w_954 : Cond.selects yX7_round.cls yX7_round yX7_round ∈ TT := TT_in (i := 954) (by decide +kernel) (by decide +kernel)
theorem w_474 : Cond.methodLink yL_law.cls 50 yX6_duel ∈ TT := TT_in (i := 474) (by decide +kernel) (by decide +kernel)
theorem w_477 : Cond.code yX6_duel cX6_duel 4 (some .int) ∈ TT := TT_in (i := 477) (by decide +kernel) (by decide +kernel)
theorem w_475 : Cond.instanceMethod yX6_duel ∈ TT := TT_in (i := 475) (by decide +kernel) (by decide +kernel)
theorem w_476 : Cond.selects yX6_duel.cls yX6_duel yX6_duel ∈ TT := TT_in (i := 476) (by decide +kernel) (by decide +kernel)
theorem w_936 : Cond.methodLink yL_law.cls 53 yX7_duel ∈ TT := TT_in (i := 936) (by decide +kernel) (by decide +kernel)
theorem w_939 : Cond.code yX7_duel cX7_duel 4 (some .int) ∈ TT := TT_in (i := 939) (by decide +kernel) (by decide +kernel)
theorem w_937 : Cond.instanceMethod yX7_duel ∈ TT := TT_in (i := 937) (by decide +kernel) (by decide +kernel)
theorem w_938 : Cond.selects yX7_duel.cls yX7_duel yX7_duel ∈ TT := TT_in (i := 938) (by decide +kernel) (by decide +kernel)
theorem w_444 : Cond.methodLink yL_law.cls 46 yX6_told ∈ TT := TT_in (i := 444) (by decide +kernel) (by decide +kernel)
theorem w_447 : Cond.code yX6_told cX6_told 4 (some .int) ∈ TT := TT_in (i := 447) (by decide +kernel) (by decide +kernel)
theorem w_445 : Cond.instanceMethod yX6_told ∈ TT := TT_in (i := 445) (by decide +kernel) (by decide +kernel)
theorem w_446 : Cond.selects yX6_told.cls yX6_told yX6_told ∈ TT := TT_in (i := 446) (by decide +kernel) (by decide +kernel)
theorem w_916 : Cond.methodLink yL_law.cls 49 yX7_told ∈ TT := TT_in (i := 916) (by decide +kernel) (by decide +kernel)
theorem w_919 : Cond.code yX7_told cX7_told 3 (some .int) ∈ TT := TT_in (i := 919) (by decide +kernel) (by decide +kernel)
theorem w_917 : Cond.instanceMethod yX7_told ∈ TT := TT_in (i := 917) (by decide +kernel) (by decide +kernel)
theorem w_918 : Cond.selects yX7_told.cls yX7_told yX7_told ∈ TT := TT_in (i := 918) (by decide +kernel) (by decide +kernel)
theorem w_436 : Cond.methodLink yL_law.cls 42 yX6_put ∈ TT := TT_in (i := 436) (by decide +kernel) (by decide +kernel)
theorem w_439 : Cond.code yX6_put cX6_put 6 (some .int) ∈ TT := TT_in (i := 439) (by decide +kernel) (by decide +kernel)
theorem w_437 : Cond.instanceMethod yX6_put ∈ TT := TT_in (i := 437) (by decide +kernel) (by decide +kernel)
theorem w_438 : Cond.selects yX6_put.cls yX6_put yX6_put ∈ TT := TT_in (i := 438) (by decide +kernel) (by decide +kernel)
theorem w_912 : Cond.methodLink yL_law.cls 45 yX7_put ∈ TT := TT_in (i := 912) (by decide +kernel) (by decide +kernel)
theorem w_915 : Cond.code yX7_put cX7_put 5 (some .int) ∈ TT := TT_in (i := 915) (by decide +kernel) (by decide +kernel)
theorem w_913 : Cond.instanceMethod yX7_put ∈ TT := TT_in (i := 913) (by decide +kernel) (by decide +kernel)
theorem w_914 : Cond.selects yX7_put.cls yX7_put yX7_put ∈ TT := TT_in (i := 914) (by decide +kernel) (by decide +kernel)
theorem w_428 : Cond.methodLink yL_law.cls 37 yX6_hat ∈ TT := TT_in (i := 428) (by decide +kernel) (by decide +kernel)
theorem w_908 : Cond.methodLink yL_law.cls 41 yX7_hat ∈ TT := TT_in (i := 908) (by decide +kernel) (by decide +kernel)
theorem w_404 : Cond.methodLink yL_law.cls 32 yX6_asks ∈ TT := TT_in (i := 404) (by decide +kernel) (by decide +kernel)
theorem w_407 : Cond.code yX6_asks cX6_asks 3 (some .int) ∈ TT := TT_in (i := 407) (by decide +kernel) (by decide +kernel)
theorem w_405 : Cond.instanceMethod yX6_asks ∈ TT := TT_in (i := 405) (by decide +kernel) (by decide +kernel)
theorem w_406 : Cond.selects yX6_asks.cls yX6_asks yX6_asks ∈ TT := TT_in (i := 406) (by decide +kernel) (by decide +kernel)
theorem w_886 : Cond.methodLink yL_law.cls 36 yX7_asks ∈ TT := TT_in (i := 886) (by decide +kernel) (by decide +kernel)
theorem w_889 : Cond.code yX7_asks cX7_asks 3 (some .int) ∈ TT := TT_in (i := 889) (by decide +kernel) (by decide +kernel)
theorem w_887 : Cond.instanceMethod yX7_asks ∈ TT := TT_in (i := 887) (by decide +kernel) (by decide +kernel)
theorem w_888 : Cond.selects yX7_asks.cls yX7_asks yX7_asks ∈ TT := TT_in (i := 888) (by decide +kernel) (by decide +kernel)
theorem w_400 : Cond.methodLink yL_law.cls 28 yX6_force ∈ TT := TT_in (i := 400) (by decide +kernel) (by decide +kernel)
theorem w_403 : Cond.code yX6_force cX6_force 3 (some .int) ∈ TT := TT_in (i := 403) (by decide +kernel) (by decide +kernel)
theorem w_401 : Cond.instanceMethod yX6_force ∈ TT := TT_in (i := 401) (by decide +kernel) (by decide +kernel)
theorem w_402 : Cond.selects yX6_force.cls yX6_force yX6_force ∈ TT := TT_in (i := 402) (by decide +kernel) (by decide +kernel)
theorem w_882 : Cond.methodLink yL_law.cls 31 yX7_force ∈ TT := TT_in (i := 882) (by decide +kernel) (by decide +kernel)
theorem w_885 : Cond.code yX7_force cX7_force 3 (some .int) ∈ TT := TT_in (i := 885) (by decide +kernel) (by decide +kernel)
theorem w_883 : Cond.instanceMethod yX7_force ∈ TT := TT_in (i := 883) (by decide +kernel) (by decide +kernel)
theorem w_884 : Cond.selects yX7_force.cls yX7_force yX7_force ∈ TT := TT_in (i := 884) (by decide +kernel) (by decide +kernel)
theorem w_396 : Cond.methodLink yL_law.cls 23 yX6_text ∈ TT := TT_in (i := 396) (by decide +kernel) (by decide +kernel)
theorem w_399 : Cond.code yX6_text cX6_text 2 (some .int) ∈ TT := TT_in (i := 399) (by decide +kernel) (by decide +kernel)
theorem w_397 : Cond.instanceMethod yX6_text ∈ TT := TT_in (i := 397) (by decide +kernel) (by decide +kernel)
theorem w_398 : Cond.selects yX6_text.cls yX6_text yX6_text ∈ TT := TT_in (i := 398) (by decide +kernel) (by decide +kernel)
theorem w_881 : Cond.methodLink yL_law.cls 27 yX7_text ∈ TT := TT_in (i := 881) (by decide +kernel) (by decide +kernel)
theorem w_718 : Cond.code yX7_text cX7_text 3 (some .int) ∈ TT := TT_in (i := 718) (by decide +kernel) (by decide +kernel)
theorem w_716 : Cond.instanceMethod yX7_text ∈ TT := TT_in (i := 716) (by decide +kernel) (by decide +kernel)
theorem w_717 : Cond.selects yX7_text.cls yX7_text yX7_text ∈ TT := TT_in (i := 717) (by decide +kernel) (by decide +kernel)
theorem w_386 : Cond.methodLink yL_law.cls 18 yX6_feed ∈ TT := TT_in (i := 386) (by decide +kernel) (by decide +kernel)
theorem w_389 : Cond.code yX6_feed cX6_feed 8 (some .int) ∈ TT := TT_in (i := 389) (by decide +kernel) (by decide +kernel)
theorem w_387 : Cond.instanceMethod yX6_feed ∈ TT := TT_in (i := 387) (by decide +kernel) (by decide +kernel)
theorem w_388 : Cond.selects yX6_feed.cls yX6_feed yX6_feed ∈ TT := TT_in (i := 388) (by decide +kernel) (by decide +kernel)
theorem w_874 : Cond.methodLink yL_law.cls 22 yX7_feed ∈ TT := TT_in (i := 874) (by decide +kernel) (by decide +kernel)
theorem w_877 : Cond.code yX7_feed cX7_feed 8 (some .int) ∈ TT := TT_in (i := 877) (by decide +kernel) (by decide +kernel)
theorem w_875 : Cond.instanceMethod yX7_feed ∈ TT := TT_in (i := 875) (by decide +kernel) (by decide +kernel)
theorem w_876 : Cond.selects yX7_feed.cls yX7_feed yX7_feed ∈ TT := TT_in (i := 876) (by decide +kernel) (by decide +kernel)
theorem w_378 : Cond.methodLink yL_law.cls 13 yX6_count ∈ TT := TT_in (i := 378) (by decide +kernel) (by decide +kernel)
theorem w_381 : Cond.code yX6_count cX6_count 2 (some .int) ∈ TT := TT_in (i := 381) (by decide +kernel) (by decide +kernel)
theorem w_379 : Cond.instanceMethod yX6_count ∈ TT := TT_in (i := 379) (by decide +kernel) (by decide +kernel)
theorem w_380 : Cond.selects yX6_count.cls yX6_count yX6_count ∈ TT := TT_in (i := 380) (by decide +kernel) (by decide +kernel)
theorem w_859 : Cond.methodLink yL_law.cls 17 yX7_count ∈ TT := TT_in (i := 859) (by decide +kernel) (by decide +kernel)
theorem w_862 : Cond.code yX7_count cX7_count 2 (some .int) ∈ TT := TT_in (i := 862) (by decide +kernel) (by decide +kernel)
theorem w_860 : Cond.instanceMethod yX7_count ∈ TT := TT_in (i := 860) (by decide +kernel) (by decide +kernel)
theorem w_861 : Cond.selects yX7_count.cls yX7_count yX7_count ∈ TT := TT_in (i := 861) (by decide +kernel) (by decide +kernel)
theorem md_J0_charAt_5068e : yJ0_charAt_5068e.cls ≠ "java/lang/invoke/MethodHandle" ∧ yJ0_charAt_5068e.cls ≠ "java/lang/invoke/VarHandle" ∧ (parseMethodDescriptor yJ0_charAt_5068e.desc).map (fun d => d.parameters.length) = some 1 := by decide +kernel
theorem md_J0_length_8abf5 : yJ0_length_8abf5.cls ≠ "java/lang/invoke/MethodHandle" ∧ yJ0_length_8abf5.cls ≠ "java/lang/invoke/VarHandle" ∧ (parseMethodDescriptor yJ0_length_8abf5.desc).map (fun d => d.parameters.length) = some 0 := by decide +kernel
theorem md_J6_bitCount_0f7a4 : yJ6_bitCount_0f7a4.cls ≠ "java/lang/invoke/MethodHandle" ∧ yJ6_bitCount_0f7a4.cls ≠ "java/lang/invoke/VarHandle" ∧ (parseMethodDescriptor yJ6_bitCount_0f7a4.desc).map (fun d => d.parameters.length) = some 1 := by decide +kernel
theorem md_J7_fill_53178 : yJ7_fill_53178.cls ≠ "java/lang/invoke/MethodHandle" ∧ yJ7_fill_53178.cls ≠ "java/lang/invoke/VarHandle" ∧ (parseMethodDescriptor yJ7_fill_53178.desc).map (fun d => d.parameters.length) = some 2 := by decide +kernel
theorem md_X0_goes : yX0_goes.cls ≠ "java/lang/invoke/MethodHandle" ∧ yX0_goes.cls ≠ "java/lang/invoke/VarHandle" ∧ (parseMethodDescriptor yX0_goes.desc).map (fun d => d.parameters.length) = some 4 := by decide +kernel
theorem md_X0_hits : yX0_hits.cls ≠ "java/lang/invoke/MethodHandle" ∧ yX0_hits.cls ≠ "java/lang/invoke/VarHandle" ∧ (parseMethodDescriptor yX0_hits.desc).map (fun d => d.parameters.length) = some 5 := by decide +kernel
theorem md_X0_isOne : yX0_isOne.cls ≠ "java/lang/invoke/MethodHandle" ∧ yX0_isOne.cls ≠ "java/lang/invoke/VarHandle" ∧ (parseMethodDescriptor yX0_isOne.desc).map (fun d => d.parameters.length) = some 2 := by decide +kernel
theorem md_X0_soft : yX0_soft.cls ≠ "java/lang/invoke/MethodHandle" ∧ yX0_soft.cls ≠ "java/lang/invoke/VarHandle" ∧ (parseMethodDescriptor yX0_soft.desc).map (fun d => d.parameters.length) = some 3 := by decide +kernel
theorem md_X1_expect : yX1_expect.cls ≠ "java/lang/invoke/MethodHandle" ∧ yX1_expect.cls ≠ "java/lang/invoke/VarHandle" ∧ (parseMethodDescriptor yX1_expect.desc).map (fun d => d.parameters.length) = some 1 := by decide +kernel
theorem md_X1_isDigit : yX1_isDigit.cls ≠ "java/lang/invoke/MethodHandle" ∧ yX1_isDigit.cls ≠ "java/lang/invoke/VarHandle" ∧ (parseMethodDescriptor yX1_isDigit.desc).map (fun d => d.parameters.length) = some 1 := by decide +kernel
theorem md_X1_isLetter : yX1_isLetter.cls ≠ "java/lang/invoke/MethodHandle" ∧ yX1_isLetter.cls ≠ "java/lang/invoke/VarHandle" ∧ (parseMethodDescriptor yX1_isLetter.desc).map (fun d => d.parameters.length) = some 1 := by decide +kernel
theorem md_X1_next : yX1_next.cls ≠ "java/lang/invoke/MethodHandle" ∧ yX1_next.cls ≠ "java/lang/invoke/VarHandle" ∧ (parseMethodDescriptor yX1_next.desc).map (fun d => d.parameters.length) = some 0 := by decide +kernel
theorem md_X1_nextNumber : yX1_nextNumber.cls ≠ "java/lang/invoke/MethodHandle" ∧ yX1_nextNumber.cls ≠ "java/lang/invoke/VarHandle" ∧ (parseMethodDescriptor yX1_nextNumber.desc).map (fun d => d.parameters.length) = some 0 := by decide +kernel
theorem md_X1_nextWord : yX1_nextWord.cls ≠ "java/lang/invoke/MethodHandle" ∧ yX1_nextWord.cls ≠ "java/lang/invoke/VarHandle" ∧ (parseMethodDescriptor yX1_nextWord.desc).map (fun d => d.parameters.length) = some 0 := by decide +kernel
theorem md_X1_read : yX1_read.cls ≠ "java/lang/invoke/MethodHandle" ∧ yX1_read.cls ≠ "java/lang/invoke/VarHandle" ∧ (parseMethodDescriptor yX1_read.desc).map (fun d => d.parameters.length) = some 3 := by decide +kernel
theorem md_X1_readAnd : yX1_readAnd.cls ≠ "java/lang/invoke/MethodHandle" ∧ yX1_readAnd.cls ≠ "java/lang/invoke/VarHandle" ∧ (parseMethodDescriptor yX1_readAnd.desc).map (fun d => d.parameters.length) = some 1 := by decide +kernel
theorem md_X1_readE : yX1_readE.cls ≠ "java/lang/invoke/MethodHandle" ∧ yX1_readE.cls ≠ "java/lang/invoke/VarHandle" ∧ (parseMethodDescriptor yX1_readE.desc).map (fun d => d.parameters.length) = some 1 := by decide +kernel
theorem md_X1_readNot : yX1_readNot.cls ≠ "java/lang/invoke/MethodHandle" ∧ yX1_readNot.cls ≠ "java/lang/invoke/VarHandle" ∧ (parseMethodDescriptor yX1_readNot.desc).map (fun d => d.parameters.length) = some 1 := by decide +kernel
theorem md_X1_readOne : yX1_readOne.cls ≠ "java/lang/invoke/MethodHandle" ∧ yX1_readOne.cls ≠ "java/lang/invoke/VarHandle" ∧ (parseMethodDescriptor yX1_readOne.desc).map (fun d => d.parameters.length) = some 1 := by decide +kernel
theorem md_X1_readSum : yX1_readSum.cls ≠ "java/lang/invoke/MethodHandle" ∧ yX1_readSum.cls ≠ "java/lang/invoke/VarHandle" ∧ (parseMethodDescriptor yX1_readSum.desc).map (fun d => d.parameters.length) = some 1 := by decide +kernel
theorem md_X1_readTerm : yX1_readTerm.cls ≠ "java/lang/invoke/MethodHandle" ∧ yX1_readTerm.cls ≠ "java/lang/invoke/VarHandle" ∧ (parseMethodDescriptor yX1_readTerm.desc).map (fun d => d.parameters.length) = some 1 := by decide +kernel
theorem md_X1_refuse : yX1_refuse.cls ≠ "java/lang/invoke/MethodHandle" ∧ yX1_refuse.cls ≠ "java/lang/invoke/VarHandle" ∧ (parseMethodDescriptor yX1_refuse.desc).map (fun d => d.parameters.length) = some 0 := by decide +kernel
theorem md_X1_spells : yX1_spells.cls ≠ "java/lang/invoke/MethodHandle" ∧ yX1_spells.cls ≠ "java/lang/invoke/VarHandle" ∧ (parseMethodDescriptor yX1_spells.desc).map (fun d => d.parameters.length) = some 1 := by decide +kernel
theorem md_X2_add : yX2_add.cls ≠ "java/lang/invoke/MethodHandle" ∧ yX2_add.cls ≠ "java/lang/invoke/VarHandle" ∧ (parseMethodDescriptor yX2_add.desc).map (fun d => d.parameters.length) = some 3 := by decide +kernel
theorem md_X2_become : yX2_become.cls ≠ "java/lang/invoke/MethodHandle" ∧ yX2_become.cls ≠ "java/lang/invoke/VarHandle" ∧ (parseMethodDescriptor yX2_become.desc).map (fun d => d.parameters.length) = some 1 := by decide +kernel
theorem md_X2_blow : yX2_blow.cls ≠ "java/lang/invoke/MethodHandle" ∧ yX2_blow.cls ≠ "java/lang/invoke/VarHandle" ∧ (parseMethodDescriptor yX2_blow.desc).map (fun d => d.parameters.length) = some 2 := by decide +kernel
theorem md_X2_far : yX2_far.cls ≠ "java/lang/invoke/MethodHandle" ∧ yX2_far.cls ≠ "java/lang/invoke/VarHandle" ∧ (parseMethodDescriptor yX2_far.desc).map (fun d => d.parameters.length) = some 2 := by decide +kernel
theorem md_X2_feltSum : yX2_feltSum.cls ≠ "java/lang/invoke/MethodHandle" ∧ yX2_feltSum.cls ≠ "java/lang/invoke/VarHandle" ∧ (parseMethodDescriptor yX2_feltSum.desc).map (fun d => d.parameters.length) = some 0 := by decide +kernel
theorem md_X2_goes : yX2_goes.cls ≠ "java/lang/invoke/MethodHandle" ∧ yX2_goes.cls ≠ "java/lang/invoke/VarHandle" ∧ (parseMethodDescriptor yX2_goes.desc).map (fun d => d.parameters.length) = some 1 := by decide +kernel
theorem md_X2_hits : yX2_hits.cls ≠ "java/lang/invoke/MethodHandle" ∧ yX2_hits.cls ≠ "java/lang/invoke/VarHandle" ∧ (parseMethodDescriptor yX2_hits.desc).map (fun d => d.parameters.length) = some 2 := by decide +kernel
theorem md_X2_land : yX2_land.cls ≠ "java/lang/invoke/MethodHandle" ∧ yX2_land.cls ≠ "java/lang/invoke/VarHandle" ∧ (parseMethodDescriptor yX2_land.desc).map (fun d => d.parameters.length) = some 3 := by decide +kernel
theorem md_X2_leaveOnly : yX2_leaveOnly.cls ≠ "java/lang/invoke/MethodHandle" ∧ yX2_leaveOnly.cls ≠ "java/lang/invoke/VarHandle" ∧ (parseMethodDescriptor yX2_leaveOnly.desc).map (fun d => d.parameters.length) = some 2 := by decide +kernel
theorem md_X2_mostFelt : yX2_mostFelt.cls ≠ "java/lang/invoke/MethodHandle" ∧ yX2_mostFelt.cls ≠ "java/lang/invoke/VarHandle" ∧ (parseMethodDescriptor yX2_mostFelt.desc).map (fun d => d.parameters.length) = some 0 := by decide +kernel
theorem md_X2_nearest : yX2_nearest.cls ≠ "java/lang/invoke/MethodHandle" ∧ yX2_nearest.cls ≠ "java/lang/invoke/VarHandle" ∧ (parseMethodDescriptor yX2_nearest.desc).map (fun d => d.parameters.length) = some 1 := by decide +kernel
theorem md_X2_play : yX2_play.cls ≠ "java/lang/invoke/MethodHandle" ∧ yX2_play.cls ≠ "java/lang/invoke/VarHandle" ∧ (parseMethodDescriptor yX2_play.desc).map (fun d => d.parameters.length) = some 0 := by decide +kernel
theorem md_X2_rowOf : yX2_rowOf.cls ≠ "java/lang/invoke/MethodHandle" ∧ yX2_rowOf.cls ≠ "java/lang/invoke/VarHandle" ∧ (parseMethodDescriptor yX2_rowOf.desc).map (fun d => d.parameters.length) = some 1 := by decide +kernel
theorem md_X2_soft : yX2_soft.cls ≠ "java/lang/invoke/MethodHandle" ∧ yX2_soft.cls ≠ "java/lang/invoke/VarHandle" ∧ (parseMethodDescriptor yX2_soft.desc).map (fun d => d.parameters.length) = some 1 := by decide +kernel
theorem md_X2_step : yX2_step.cls ≠ "java/lang/invoke/MethodHandle" ∧ yX2_step.cls ≠ "java/lang/invoke/VarHandle" ∧ (parseMethodDescriptor yX2_step.desc).map (fun d => d.parameters.length) = some 2 := by decide +kernel
theorem md_X2_tallySum : yX2_tallySum.cls ≠ "java/lang/invoke/MethodHandle" ∧ yX2_tallySum.cls ≠ "java/lang/invoke/VarHandle" ∧ (parseMethodDescriptor yX2_tallySum.desc).map (fun d => d.parameters.length) = some 0 := by decide +kernel
theorem md_X2_upBits : yX2_upBits.cls ≠ "java/lang/invoke/MethodHandle" ∧ yX2_upBits.cls ≠ "java/lang/invoke/VarHandle" ∧ (parseMethodDescriptor yX2_upBits.desc).map (fun d => d.parameters.length) = some 0 := by decide +kernel
theorem md_X2_upCount : yX2_upCount.cls ≠ "java/lang/invoke/MethodHandle" ∧ yX2_upCount.cls ≠ "java/lang/invoke/VarHandle" ∧ (parseMethodDescriptor yX2_upCount.desc).map (fun d => d.parameters.length) = some 0 := by decide +kernel
theorem md_X3_become : yX3_become.cls ≠ "java/lang/invoke/MethodHandle" ∧ yX3_become.cls ≠ "java/lang/invoke/VarHandle" ∧ (parseMethodDescriptor yX3_become.desc).map (fun d => d.parameters.length) = some 2 := by decide +kernel
theorem md_X3_isMissing : yX3_isMissing.cls ≠ "java/lang/invoke/MethodHandle" ∧ yX3_isMissing.cls ≠ "java/lang/invoke/VarHandle" ∧ (parseMethodDescriptor yX3_isMissing.desc).map (fun d => d.parameters.length) = some 0 := by decide +kernel
theorem md_X3_write : yX3_write.cls ≠ "java/lang/invoke/MethodHandle" ∧ yX3_write.cls ≠ "java/lang/invoke/VarHandle" ∧ (parseMethodDescriptor yX3_write.desc).map (fun d => d.parameters.length) = some 2 := by decide +kernel
theorem md_X4_clear : yX4_clear.cls ≠ "java/lang/invoke/MethodHandle" ∧ yX4_clear.cls ≠ "java/lang/invoke/VarHandle" ∧ (parseMethodDescriptor yX4_clear.desc).map (fun d => d.parameters.length) = some 0 := by decide +kernel
theorem md_X4_endPart : yX4_endPart.cls ≠ "java/lang/invoke/MethodHandle" ∧ yX4_endPart.cls ≠ "java/lang/invoke/VarHandle" ∧ (parseMethodDescriptor yX4_endPart.desc).map (fun d => d.parameters.length) = some 1 := by decide +kernel
theorem md_X4_fact : yX4_fact.cls ≠ "java/lang/invoke/MethodHandle" ∧ yX4_fact.cls ≠ "java/lang/invoke/VarHandle" ∧ (parseMethodDescriptor yX4_fact.desc).map (fun d => d.parameters.length) = some 3 := by decide +kernel
theorem md_X4_joined : yX4_joined.cls ≠ "java/lang/invoke/MethodHandle" ∧ yX4_joined.cls ≠ "java/lang/invoke/VarHandle" ∧ (parseMethodDescriptor yX4_joined.desc).map (fun d => d.parameters.length) = some 3 := by decide +kernel
theorem md_X4_says : yX4_says.cls ≠ "java/lang/invoke/MethodHandle" ∧ yX4_says.cls ≠ "java/lang/invoke/VarHandle" ∧ (parseMethodDescriptor yX4_says.desc).map (fun d => d.parameters.length) = some 3 := by decide +kernel
theorem md_X4_write : yX4_write.cls ≠ "java/lang/invoke/MethodHandle" ∧ yX4_write.cls ≠ "java/lang/invoke/VarHandle" ∧ (parseMethodDescriptor yX4_write.desc).map (fun d => d.parameters.length) = some 1 := by decide +kernel
theorem md_X5_isName : yX5_isName.cls ≠ "java/lang/invoke/MethodHandle" ∧ yX5_isName.cls ≠ "java/lang/invoke/VarHandle" ∧ (parseMethodDescriptor yX5_isName.desc).map (fun d => d.parameters.length) = some 1 := by decide +kernel
theorem md_X5_ofSign : yX5_ofSign.cls ≠ "java/lang/invoke/MethodHandle" ∧ yX5_ofSign.cls ≠ "java/lang/invoke/VarHandle" ∧ (parseMethodDescriptor yX5_ofSign.desc).map (fun d => d.parameters.length) = some 1 := by decide +kernel
theorem md_X6_asks : yX6_asks.cls ≠ "java/lang/invoke/MethodHandle" ∧ yX6_asks.cls ≠ "java/lang/invoke/VarHandle" ∧ (parseMethodDescriptor yX6_asks.desc).map (fun d => d.parameters.length) = some 2 := by decide +kernel
theorem md_X6_back : yX6_back.cls ≠ "java/lang/invoke/MethodHandle" ∧ yX6_back.cls ≠ "java/lang/invoke/VarHandle" ∧ (parseMethodDescriptor yX6_back.desc).map (fun d => d.parameters.length) = some 0 := by decide +kernel
theorem md_X6_beaten : yX6_beaten.cls ≠ "java/lang/invoke/MethodHandle" ∧ yX6_beaten.cls ≠ "java/lang/invoke/VarHandle" ∧ (parseMethodDescriptor yX6_beaten.desc).map (fun d => d.parameters.length) = some 2 := by decide +kernel
theorem md_X6_bell : yX6_bell.cls ≠ "java/lang/invoke/MethodHandle" ∧ yX6_bell.cls ≠ "java/lang/invoke/VarHandle" ∧ (parseMethodDescriptor yX6_bell.desc).map (fun d => d.parameters.length) = some 1 := by decide +kernel
theorem md_X6_betting : yX6_betting.cls ≠ "java/lang/invoke/MethodHandle" ∧ yX6_betting.cls ≠ "java/lang/invoke/VarHandle" ∧ (parseMethodDescriptor yX6_betting.desc).map (fun d => d.parameters.length) = some 2 := by decide +kernel
theorem md_X6_cell : yX6_cell.cls ≠ "java/lang/invoke/MethodHandle" ∧ yX6_cell.cls ≠ "java/lang/invoke/VarHandle" ∧ (parseMethodDescriptor yX6_cell.desc).map (fun d => d.parameters.length) = some 3 := by decide +kernel
theorem md_X6_copy : yX6_copy.cls ≠ "java/lang/invoke/MethodHandle" ∧ yX6_copy.cls ≠ "java/lang/invoke/VarHandle" ∧ (parseMethodDescriptor yX6_copy.desc).map (fun d => d.parameters.length) = some 5 := by decide +kernel
theorem md_X6_count : yX6_count.cls ≠ "java/lang/invoke/MethodHandle" ∧ yX6_count.cls ≠ "java/lang/invoke/VarHandle" ∧ (parseMethodDescriptor yX6_count.desc).map (fun d => d.parameters.length) = some 1 := by decide +kernel
theorem md_X6_drawn : yX6_drawn.cls ≠ "java/lang/invoke/MethodHandle" ∧ yX6_drawn.cls ≠ "java/lang/invoke/VarHandle" ∧ (parseMethodDescriptor yX6_drawn.desc).map (fun d => d.parameters.length) = some 2 := by decide +kernel
theorem md_X6_duel : yX6_duel.cls ≠ "java/lang/invoke/MethodHandle" ∧ yX6_duel.cls ≠ "java/lang/invoke/VarHandle" ∧ (parseMethodDescriptor yX6_duel.desc).map (fun d => d.parameters.length) = some 3 := by decide +kernel
theorem md_X6_end : yX6_end.cls ≠ "java/lang/invoke/MethodHandle" ∧ yX6_end.cls ≠ "java/lang/invoke/VarHandle" ∧ (parseMethodDescriptor yX6_end.desc).map (fun d => d.parameters.length) = some 1 := by decide +kernel
theorem md_X6_feed : yX6_feed.cls ≠ "java/lang/invoke/MethodHandle" ∧ yX6_feed.cls ≠ "java/lang/invoke/VarHandle" ∧ (parseMethodDescriptor yX6_feed.desc).map (fun d => d.parameters.length) = some 6 := by decide +kernel
theorem md_X6_feltBehind : yX6_feltBehind.cls ≠ "java/lang/invoke/MethodHandle" ∧ yX6_feltBehind.cls ≠ "java/lang/invoke/VarHandle" ∧ (parseMethodDescriptor yX6_feltBehind.desc).map (fun d => d.parameters.length) = some 2 := by decide +kernel
theorem md_X6_film : yX6_film.cls ≠ "java/lang/invoke/MethodHandle" ∧ yX6_film.cls ≠ "java/lang/invoke/VarHandle" ∧ (parseMethodDescriptor yX6_film.desc).map (fun d => d.parameters.length) = some 3 := by decide +kernel
theorem md_X6_firstOtherwise : yX6_firstOtherwise.cls ≠ "java/lang/invoke/MethodHandle" ∧ yX6_firstOtherwise.cls ≠ "java/lang/invoke/VarHandle" ∧ (parseMethodDescriptor yX6_firstOtherwise.desc).map (fun d => d.parameters.length) = some 2 := by decide +kernel
theorem md_X6_force : yX6_force.cls ≠ "java/lang/invoke/MethodHandle" ∧ yX6_force.cls ≠ "java/lang/invoke/VarHandle" ∧ (parseMethodDescriptor yX6_force.desc).map (fun d => d.parameters.length) = some 1 := by decide +kernel
theorem md_X6_hat : yX6_hat.cls ≠ "java/lang/invoke/MethodHandle" ∧ yX6_hat.cls ≠ "java/lang/invoke/VarHandle" ∧ (parseMethodDescriptor yX6_hat.desc).map (fun d => d.parameters.length) = some 3 := by decide +kernel
theorem md_X6_hatsBy : yX6_hatsBy.cls ≠ "java/lang/invoke/MethodHandle" ∧ yX6_hatsBy.cls ≠ "java/lang/invoke/VarHandle" ∧ (parseMethodDescriptor yX6_hatsBy.desc).map (fun d => d.parameters.length) = some 4 := by decide +kernel
theorem md_X6_image : yX6_image.cls ≠ "java/lang/invoke/MethodHandle" ∧ yX6_image.cls ≠ "java/lang/invoke/VarHandle" ∧ (parseMethodDescriptor yX6_image.desc).map (fun d => d.parameters.length) = some 0 := by decide +kernel
theorem md_X6_imagine : yX6_imagine.cls ≠ "java/lang/invoke/MethodHandle" ∧ yX6_imagine.cls ≠ "java/lang/invoke/VarHandle" ∧ (parseMethodDescriptor yX6_imagine.desc).map (fun d => d.parameters.length) = some 0 := by decide +kernel
theorem md_X6_imagineDrawn : yX6_imagineDrawn.cls ≠ "java/lang/invoke/MethodHandle" ∧ yX6_imagineDrawn.cls ≠ "java/lang/invoke/VarHandle" ∧ (parseMethodDescriptor yX6_imagineDrawn.desc).map (fun d => d.parameters.length) = some 1 := by decide +kernel
theorem md_X6_isByte : yX6_isByte.cls ≠ "java/lang/invoke/MethodHandle" ∧ yX6_isByte.cls ≠ "java/lang/invoke/VarHandle" ∧ (parseMethodDescriptor yX6_isByte.desc).map (fun d => d.parameters.length) = some 1 := by decide +kernel
theorem md_X6_isHat : yX6_isHat.cls ≠ "java/lang/invoke/MethodHandle" ∧ yX6_isHat.cls ≠ "java/lang/invoke/VarHandle" ∧ (parseMethodDescriptor yX6_isHat.desc).map (fun d => d.parameters.length) = some 1 := by decide +kernel
theorem md_X6_isSheet : yX6_isSheet.cls ≠ "java/lang/invoke/MethodHandle" ∧ yX6_isSheet.cls ≠ "java/lang/invoke/VarHandle" ∧ (parseMethodDescriptor yX6_isSheet.desc).map (fun d => d.parameters.length) = some 1 := by decide +kernel
theorem md_X6_isSort : yX6_isSort.cls ≠ "java/lang/invoke/MethodHandle" ∧ yX6_isSort.cls ≠ "java/lang/invoke/VarHandle" ∧ (parseMethodDescriptor yX6_isSort.desc).map (fun d => d.parameters.length) = some 1 := by decide +kernel
theorem md_X6_judge : yX6_judge.cls ≠ "java/lang/invoke/MethodHandle" ∧ yX6_judge.cls ≠ "java/lang/invoke/VarHandle" ∧ (parseMethodDescriptor yX6_judge.desc).map (fun d => d.parameters.length) = some 2 := by decide +kernel
theorem md_X6_kinds : yX6_kinds.cls ≠ "java/lang/invoke/MethodHandle" ∧ yX6_kinds.cls ≠ "java/lang/invoke/VarHandle" ∧ (parseMethodDescriptor yX6_kinds.desc).map (fun d => d.parameters.length) = some 4 := by decide +kernel
theorem md_X6_lasts : yX6_lasts.cls ≠ "java/lang/invoke/MethodHandle" ∧ yX6_lasts.cls ≠ "java/lang/invoke/VarHandle" ∧ (parseMethodDescriptor yX6_lasts.desc).map (fun d => d.parameters.length) = some 2 := by decide +kernel
theorem md_X6_laws : yX6_laws.cls ≠ "java/lang/invoke/MethodHandle" ∧ yX6_laws.cls ≠ "java/lang/invoke/VarHandle" ∧ (parseMethodDescriptor yX6_laws.desc).map (fun d => d.parameters.length) = some 2 := by decide +kernel
theorem md_X6_lowestBit : yX6_lowestBit.cls ≠ "java/lang/invoke/MethodHandle" ∧ yX6_lowestBit.cls ≠ "java/lang/invoke/VarHandle" ∧ (parseMethodDescriptor yX6_lowestBit.desc).map (fun d => d.parameters.length) = some 1 := by decide +kernel
theorem md_X6_lowestTerms : yX6_lowestTerms.cls ≠ "java/lang/invoke/MethodHandle" ∧ yX6_lowestTerms.cls ≠ "java/lang/invoke/VarHandle" ∧ (parseMethodDescriptor yX6_lowestTerms.desc).map (fun d => d.parameters.length) = some 3 := by decide +kernel
theorem md_X6_odds : yX6_odds.cls ≠ "java/lang/invoke/MethodHandle" ∧ yX6_odds.cls ≠ "java/lang/invoke/VarHandle" ∧ (parseMethodDescriptor yX6_odds.desc).map (fun d => d.parameters.length) = some 4 := by decide +kernel
theorem md_X6_places : yX6_places.cls ≠ "java/lang/invoke/MethodHandle" ∧ yX6_places.cls ≠ "java/lang/invoke/VarHandle" ∧ (parseMethodDescriptor yX6_places.desc).map (fun d => d.parameters.length) = some 2 := by decide +kernel
theorem md_X6_put : yX6_put.cls ≠ "java/lang/invoke/MethodHandle" ∧ yX6_put.cls ≠ "java/lang/invoke/VarHandle" ∧ (parseMethodDescriptor yX6_put.desc).map (fun d => d.parameters.length) = some 3 := by decide +kernel
theorem md_X6_refusalOf : yX6_refusalOf.cls ≠ "java/lang/invoke/MethodHandle" ∧ yX6_refusalOf.cls ≠ "java/lang/invoke/VarHandle" ∧ (parseMethodDescriptor yX6_refusalOf.desc).map (fun d => d.parameters.length) = some 1 := by decide +kernel
theorem md_X6_refusalOf_ : yX6_refusalOf_.cls ≠ "java/lang/invoke/MethodHandle" ∧ yX6_refusalOf_.cls ≠ "java/lang/invoke/VarHandle" ∧ (parseMethodDescriptor yX6_refusalOf_.desc).map (fun d => d.parameters.length) = some 2 := by decide +kernel
theorem md_X6_rid : yX6_rid.cls ≠ "java/lang/invoke/MethodHandle" ∧ yX6_rid.cls ≠ "java/lang/invoke/VarHandle" ∧ (parseMethodDescriptor yX6_rid.desc).map (fun d => d.parameters.length) = some 3 := by decide +kernel
theorem md_X6_round : yX6_round.cls ≠ "java/lang/invoke/MethodHandle" ∧ yX6_round.cls ≠ "java/lang/invoke/VarHandle" ∧ (parseMethodDescriptor yX6_round.desc).map (fun d => d.parameters.length) = some 0 := by decide +kernel
theorem md_X6_run : yX6_run.cls ≠ "java/lang/invoke/MethodHandle" ∧ yX6_run.cls ≠ "java/lang/invoke/VarHandle" ∧ (parseMethodDescriptor yX6_run.desc).map (fun d => d.parameters.length) = some 2 := by decide +kernel
theorem md_X6_sheet : yX6_sheet.cls ≠ "java/lang/invoke/MethodHandle" ∧ yX6_sheet.cls ≠ "java/lang/invoke/VarHandle" ∧ (parseMethodDescriptor yX6_sheet.desc).map (fun d => d.parameters.length) = some 3 := by decide +kernel
theorem md_X6_states : yX6_states.cls ≠ "java/lang/invoke/MethodHandle" ∧ yX6_states.cls ≠ "java/lang/invoke/VarHandle" ∧ (parseMethodDescriptor yX6_states.desc).map (fun d => d.parameters.length) = some 4 := by decide +kernel
theorem md_X6_taken : yX6_taken.cls ≠ "java/lang/invoke/MethodHandle" ∧ yX6_taken.cls ≠ "java/lang/invoke/VarHandle" ∧ (parseMethodDescriptor yX6_taken.desc).map (fun d => d.parameters.length) = some 2 := by decide +kernel
theorem md_X6_text : yX6_text.cls ≠ "java/lang/invoke/MethodHandle" ∧ yX6_text.cls ≠ "java/lang/invoke/VarHandle" ∧ (parseMethodDescriptor yX6_text.desc).map (fun d => d.parameters.length) = some 0 := by decide +kernel
theorem md_X6_told : yX6_told.cls ≠ "java/lang/invoke/MethodHandle" ∧ yX6_told.cls ≠ "java/lang/invoke/VarHandle" ∧ (parseMethodDescriptor yX6_told.desc).map (fun d => d.parameters.length) = some 2 := by decide +kernel
theorem md_X6_toss : yX6_toss.cls ≠ "java/lang/invoke/MethodHandle" ∧ yX6_toss.cls ≠ "java/lang/invoke/VarHandle" ∧ (parseMethodDescriptor yX6_toss.desc).map (fun d => d.parameters.length) = some 3 := by decide +kernel
theorem md_X6_when : yX6_when.cls ≠ "java/lang/invoke/MethodHandle" ∧ yX6_when.cls ≠ "java/lang/invoke/VarHandle" ∧ (parseMethodDescriptor yX6_when.desc).map (fun d => d.parameters.length) = some 1 := by decide +kernel
theorem md_X6_whose : yX6_whose.cls ≠ "java/lang/invoke/MethodHandle" ∧ yX6_whose.cls ≠ "java/lang/invoke/VarHandle" ∧ (parseMethodDescriptor yX6_whose.desc).map (fun d => d.parameters.length) = some 1 := by decide +kernel
theorem md_X6_within : yX6_within.cls ≠ "java/lang/invoke/MethodHandle" ∧ yX6_within.cls ≠ "java/lang/invoke/VarHandle" ∧ (parseMethodDescriptor yX6_within.desc).map (fun d => d.parameters.length) = some 3 := by decide +kernel
theorem md_X7_areTwo : yX7_areTwo.cls ≠ "java/lang/invoke/MethodHandle" ∧ yX7_areTwo.cls ≠ "java/lang/invoke/VarHandle" ∧ (parseMethodDescriptor yX7_areTwo.desc).map (fun d => d.parameters.length) = some 2 := by decide +kernel
theorem md_X7_asks : yX7_asks.cls ≠ "java/lang/invoke/MethodHandle" ∧ yX7_asks.cls ≠ "java/lang/invoke/VarHandle" ∧ (parseMethodDescriptor yX7_asks.desc).map (fun d => d.parameters.length) = some 2 := by decide +kernel
theorem md_X7_asksOf : yX7_asksOf.cls ≠ "java/lang/invoke/MethodHandle" ∧ yX7_asksOf.cls ≠ "java/lang/invoke/VarHandle" ∧ (parseMethodDescriptor yX7_asksOf.desc).map (fun d => d.parameters.length) = some 2 := by decide +kernel
theorem md_X7_back : yX7_back.cls ≠ "java/lang/invoke/MethodHandle" ∧ yX7_back.cls ≠ "java/lang/invoke/VarHandle" ∧ (parseMethodDescriptor yX7_back.desc).map (fun d => d.parameters.length) = some 0 := by decide +kernel
theorem md_X7_beaten : yX7_beaten.cls ≠ "java/lang/invoke/MethodHandle" ∧ yX7_beaten.cls ≠ "java/lang/invoke/VarHandle" ∧ (parseMethodDescriptor yX7_beaten.desc).map (fun d => d.parameters.length) = some 2 := by decide +kernel
theorem md_X7_bell : yX7_bell.cls ≠ "java/lang/invoke/MethodHandle" ∧ yX7_bell.cls ≠ "java/lang/invoke/VarHandle" ∧ (parseMethodDescriptor yX7_bell.desc).map (fun d => d.parameters.length) = some 1 := by decide +kernel
theorem md_X7_betting : yX7_betting.cls ≠ "java/lang/invoke/MethodHandle" ∧ yX7_betting.cls ≠ "java/lang/invoke/VarHandle" ∧ (parseMethodDescriptor yX7_betting.desc).map (fun d => d.parameters.length) = some 2 := by decide +kernel
theorem md_X7_between : yX7_between.cls ≠ "java/lang/invoke/MethodHandle" ∧ yX7_between.cls ≠ "java/lang/invoke/VarHandle" ∧ (parseMethodDescriptor yX7_between.desc).map (fun d => d.parameters.length) = some 1 := by decide +kernel
theorem md_X7_blowOf : yX7_blowOf.cls ≠ "java/lang/invoke/MethodHandle" ∧ yX7_blowOf.cls ≠ "java/lang/invoke/VarHandle" ∧ (parseMethodDescriptor yX7_blowOf.desc).map (fun d => d.parameters.length) = some 2 := by decide +kernel
theorem md_X7_cell : yX7_cell.cls ≠ "java/lang/invoke/MethodHandle" ∧ yX7_cell.cls ≠ "java/lang/invoke/VarHandle" ∧ (parseMethodDescriptor yX7_cell.desc).map (fun d => d.parameters.length) = some 3 := by decide +kernel
theorem md_X7_copy : yX7_copy.cls ≠ "java/lang/invoke/MethodHandle" ∧ yX7_copy.cls ≠ "java/lang/invoke/VarHandle" ∧ (parseMethodDescriptor yX7_copy.desc).map (fun d => d.parameters.length) = some 5 := by decide +kernel
theorem md_X7_count : yX7_count.cls ≠ "java/lang/invoke/MethodHandle" ∧ yX7_count.cls ≠ "java/lang/invoke/VarHandle" ∧ (parseMethodDescriptor yX7_count.desc).map (fun d => d.parameters.length) = some 1 := by decide +kernel
theorem md_X7_drawn : yX7_drawn.cls ≠ "java/lang/invoke/MethodHandle" ∧ yX7_drawn.cls ≠ "java/lang/invoke/VarHandle" ∧ (parseMethodDescriptor yX7_drawn.desc).map (fun d => d.parameters.length) = some 2 := by decide +kernel
theorem md_X7_duel : yX7_duel.cls ≠ "java/lang/invoke/MethodHandle" ∧ yX7_duel.cls ≠ "java/lang/invoke/VarHandle" ∧ (parseMethodDescriptor yX7_duel.desc).map (fun d => d.parameters.length) = some 3 := by decide +kernel
theorem md_X7_eRead : yX7_eRead.cls ≠ "java/lang/invoke/MethodHandle" ∧ yX7_eRead.cls ≠ "java/lang/invoke/VarHandle" ∧ (parseMethodDescriptor yX7_eRead.desc).map (fun d => d.parameters.length) = some 0 := by decide +kernel
theorem md_X7_end : yX7_end.cls ≠ "java/lang/invoke/MethodHandle" ∧ yX7_end.cls ≠ "java/lang/invoke/VarHandle" ∧ (parseMethodDescriptor yX7_end.desc).map (fun d => d.parameters.length) = some 1 := by decide +kernel
theorem md_X7_farOf : yX7_farOf.cls ≠ "java/lang/invoke/MethodHandle" ∧ yX7_farOf.cls ≠ "java/lang/invoke/VarHandle" ∧ (parseMethodDescriptor yX7_farOf.desc).map (fun d => d.parameters.length) = some 2 := by decide +kernel
theorem md_X7_feed : yX7_feed.cls ≠ "java/lang/invoke/MethodHandle" ∧ yX7_feed.cls ≠ "java/lang/invoke/VarHandle" ∧ (parseMethodDescriptor yX7_feed.desc).map (fun d => d.parameters.length) = some 6 := by decide +kernel
theorem md_X7_feltBehind : yX7_feltBehind.cls ≠ "java/lang/invoke/MethodHandle" ∧ yX7_feltBehind.cls ≠ "java/lang/invoke/VarHandle" ∧ (parseMethodDescriptor yX7_feltBehind.desc).map (fun d => d.parameters.length) = some 2 := by decide +kernel
theorem md_X7_film : yX7_film.cls ≠ "java/lang/invoke/MethodHandle" ∧ yX7_film.cls ≠ "java/lang/invoke/VarHandle" ∧ (parseMethodDescriptor yX7_film.desc).map (fun d => d.parameters.length) = some 3 := by decide +kernel
theorem md_X7_force : yX7_force.cls ≠ "java/lang/invoke/MethodHandle" ∧ yX7_force.cls ≠ "java/lang/invoke/VarHandle" ∧ (parseMethodDescriptor yX7_force.desc).map (fun d => d.parameters.length) = some 1 := by decide +kernel
theorem md_X7_goes : yX7_goes.cls ≠ "java/lang/invoke/MethodHandle" ∧ yX7_goes.cls ≠ "java/lang/invoke/VarHandle" ∧ (parseMethodDescriptor yX7_goes.desc).map (fun d => d.parameters.length) = some 1 := by decide +kernel
theorem md_X7_hat : yX7_hat.cls ≠ "java/lang/invoke/MethodHandle" ∧ yX7_hat.cls ≠ "java/lang/invoke/VarHandle" ∧ (parseMethodDescriptor yX7_hat.desc).map (fun d => d.parameters.length) = some 3 := by decide +kernel
theorem md_X7_hatsBy : yX7_hatsBy.cls ≠ "java/lang/invoke/MethodHandle" ∧ yX7_hatsBy.cls ≠ "java/lang/invoke/VarHandle" ∧ (parseMethodDescriptor yX7_hatsBy.desc).map (fun d => d.parameters.length) = some 4 := by decide +kernel
theorem md_X7_hitBy : yX7_hitBy.cls ≠ "java/lang/invoke/MethodHandle" ∧ yX7_hitBy.cls ≠ "java/lang/invoke/VarHandle" ∧ (parseMethodDescriptor yX7_hitBy.desc).map (fun d => d.parameters.length) = some 2 := by decide +kernel
theorem md_X7_hitsOf : yX7_hitsOf.cls ≠ "java/lang/invoke/MethodHandle" ∧ yX7_hitsOf.cls ≠ "java/lang/invoke/VarHandle" ∧ (parseMethodDescriptor yX7_hitsOf.desc).map (fun d => d.parameters.length) = some 2 := by decide +kernel
theorem md_X7_holds : yX7_holds.cls ≠ "java/lang/invoke/MethodHandle" ∧ yX7_holds.cls ≠ "java/lang/invoke/VarHandle" ∧ (parseMethodDescriptor yX7_holds.desc).map (fun d => d.parameters.length) = some 1 := by decide +kernel
theorem md_X7_image : yX7_image.cls ≠ "java/lang/invoke/MethodHandle" ∧ yX7_image.cls ≠ "java/lang/invoke/VarHandle" ∧ (parseMethodDescriptor yX7_image.desc).map (fun d => d.parameters.length) = some 0 := by decide +kernel
theorem md_X7_in : yX7_in.cls ≠ "java/lang/invoke/MethodHandle" ∧ yX7_in.cls ≠ "java/lang/invoke/VarHandle" ∧ (parseMethodDescriptor yX7_in.desc).map (fun d => d.parameters.length) = some 3 := by decide +kernel
theorem md_X7_isByte : yX7_isByte.cls ≠ "java/lang/invoke/MethodHandle" ∧ yX7_isByte.cls ≠ "java/lang/invoke/VarHandle" ∧ (parseMethodDescriptor yX7_isByte.desc).map (fun d => d.parameters.length) = some 1 := by decide +kernel
theorem md_X7_isOne : yX7_isOne.cls ≠ "java/lang/invoke/MethodHandle" ∧ yX7_isOne.cls ≠ "java/lang/invoke/VarHandle" ∧ (parseMethodDescriptor yX7_isOne.desc).map (fun d => d.parameters.length) = some 1 := by decide +kernel
theorem md_X7_isUnder : yX7_isUnder.cls ≠ "java/lang/invoke/MethodHandle" ∧ yX7_isUnder.cls ≠ "java/lang/invoke/VarHandle" ∧ (parseMethodDescriptor yX7_isUnder.desc).map (fun d => d.parameters.length) = some 2 := by decide +kernel
theorem md_X7_isUp : yX7_isUp.cls ≠ "java/lang/invoke/MethodHandle" ∧ yX7_isUp.cls ≠ "java/lang/invoke/VarHandle" ∧ (parseMethodDescriptor yX7_isUp.desc).map (fun d => d.parameters.length) = some 1 := by decide +kernel
theorem md_X7_judge : yX7_judge.cls ≠ "java/lang/invoke/MethodHandle" ∧ yX7_judge.cls ≠ "java/lang/invoke/VarHandle" ∧ (parseMethodDescriptor yX7_judge.desc).map (fun d => d.parameters.length) = some 2 := by decide +kernel
theorem md_X7_keeps : yX7_keeps.cls ≠ "java/lang/invoke/MethodHandle" ∧ yX7_keeps.cls ≠ "java/lang/invoke/VarHandle" ∧ (parseMethodDescriptor yX7_keeps.desc).map (fun d => d.parameters.length) = some 0 := by decide +kernel
theorem md_X7_kinds : yX7_kinds.cls ≠ "java/lang/invoke/MethodHandle" ∧ yX7_kinds.cls ≠ "java/lang/invoke/VarHandle" ∧ (parseMethodDescriptor yX7_kinds.desc).map (fun d => d.parameters.length) = some 4 := by decide +kernel
theorem md_X7_lasts : yX7_lasts.cls ≠ "java/lang/invoke/MethodHandle" ∧ yX7_lasts.cls ≠ "java/lang/invoke/VarHandle" ∧ (parseMethodDescriptor yX7_lasts.desc).map (fun d => d.parameters.length) = some 2 := by decide +kernel
theorem md_X7_laws : yX7_laws.cls ≠ "java/lang/invoke/MethodHandle" ∧ yX7_laws.cls ≠ "java/lang/invoke/VarHandle" ∧ (parseMethodDescriptor yX7_laws.desc).map (fun d => d.parameters.length) = some 2 := by decide +kernel
theorem md_X7_lays : yX7_lays.cls ≠ "java/lang/invoke/MethodHandle" ∧ yX7_lays.cls ≠ "java/lang/invoke/VarHandle" ∧ (parseMethodDescriptor yX7_lays.desc).map (fun d => d.parameters.length) = some 0 := by decide +kernel
theorem md_X7_lotRing : yX7_lotRing.cls ≠ "java/lang/invoke/MethodHandle" ∧ yX7_lotRing.cls ≠ "java/lang/invoke/VarHandle" ∧ (parseMethodDescriptor yX7_lotRing.desc).map (fun d => d.parameters.length) = some 1 := by decide +kernel
theorem md_X7_lowest : yX7_lowest.cls ≠ "java/lang/invoke/MethodHandle" ∧ yX7_lowest.cls ≠ "java/lang/invoke/VarHandle" ∧ (parseMethodDescriptor yX7_lowest.desc).map (fun d => d.parameters.length) = some 3 := by decide +kernel
theorem md_X7_mostFelt : yX7_mostFelt.cls ≠ "java/lang/invoke/MethodHandle" ∧ yX7_mostFelt.cls ≠ "java/lang/invoke/VarHandle" ∧ (parseMethodDescriptor yX7_mostFelt.desc).map (fun d => d.parameters.length) = some 0 := by decide +kernel
theorem md_X7_nearestOf : yX7_nearestOf.cls ≠ "java/lang/invoke/MethodHandle" ∧ yX7_nearestOf.cls ≠ "java/lang/invoke/VarHandle" ∧ (parseMethodDescriptor yX7_nearestOf.desc).map (fun d => d.parameters.length) = some 1 := by decide +kernel
theorem md_X7_next : yX7_next.cls ≠ "java/lang/invoke/MethodHandle" ∧ yX7_next.cls ≠ "java/lang/invoke/VarHandle" ∧ (parseMethodDescriptor yX7_next.desc).map (fun d => d.parameters.length) = some 0 := by decide +kernel
theorem md_X7_odds : yX7_odds.cls ≠ "java/lang/invoke/MethodHandle" ∧ yX7_odds.cls ≠ "java/lang/invoke/VarHandle" ∧ (parseMethodDescriptor yX7_odds.desc).map (fun d => d.parameters.length) = some 4 := by decide +kernel
theorem md_X7_onesOf : yX7_onesOf.cls ≠ "java/lang/invoke/MethodHandle" ∧ yX7_onesOf.cls ≠ "java/lang/invoke/VarHandle" ∧ (parseMethodDescriptor yX7_onesOf.desc).map (fun d => d.parameters.length) = some 1 := by decide +kernel
theorem md_X7_opensOne : yX7_opensOne.cls ≠ "java/lang/invoke/MethodHandle" ∧ yX7_opensOne.cls ≠ "java/lang/invoke/VarHandle" ∧ (parseMethodDescriptor yX7_opensOne.desc).map (fun d => d.parameters.length) = some 1 := by decide +kernel
theorem md_X7_passes : yX7_passes.cls ≠ "java/lang/invoke/MethodHandle" ∧ yX7_passes.cls ≠ "java/lang/invoke/VarHandle" ∧ (parseMethodDescriptor yX7_passes.desc).map (fun d => d.parameters.length) = some 1 := by decide +kernel
theorem md_X7_places : yX7_places.cls ≠ "java/lang/invoke/MethodHandle" ∧ yX7_places.cls ≠ "java/lang/invoke/VarHandle" ∧ (parseMethodDescriptor yX7_places.desc).map (fun d => d.parameters.length) = some 2 := by decide +kernel
theorem md_X7_put : yX7_put.cls ≠ "java/lang/invoke/MethodHandle" ∧ yX7_put.cls ≠ "java/lang/invoke/VarHandle" ∧ (parseMethodDescriptor yX7_put.desc).map (fun d => d.parameters.length) = some 3 := by decide +kernel
theorem md_X7_puts : yX7_puts.cls ≠ "java/lang/invoke/MethodHandle" ∧ yX7_puts.cls ≠ "java/lang/invoke/VarHandle" ∧ (parseMethodDescriptor yX7_puts.desc).map (fun d => d.parameters.length) = some 1 := by decide +kernel
theorem md_X7_rank : yX7_rank.cls ≠ "java/lang/invoke/MethodHandle" ∧ yX7_rank.cls ≠ "java/lang/invoke/VarHandle" ∧ (parseMethodDescriptor yX7_rank.desc).map (fun d => d.parameters.length) = some 1 := by decide +kernel
theorem md_X7_rid : yX7_rid.cls ≠ "java/lang/invoke/MethodHandle" ∧ yX7_rid.cls ≠ "java/lang/invoke/VarHandle" ∧ (parseMethodDescriptor yX7_rid.desc).map (fun d => d.parameters.length) = some 3 := by decide +kernel
theorem md_X7_round : yX7_round.cls ≠ "java/lang/invoke/MethodHandle" ∧ yX7_round.cls ≠ "java/lang/invoke/VarHandle" ∧ (parseMethodDescriptor yX7_round.desc).map (fun d => d.parameters.length) = some 0 := by decide +kernel
theorem md_X7_roundOf : yX7_roundOf.cls ≠ "java/lang/invoke/MethodHandle" ∧ yX7_roundOf.cls ≠ "java/lang/invoke/VarHandle" ∧ (parseMethodDescriptor yX7_roundOf.desc).map (fun d => d.parameters.length) = some 0 := by decide +kernel
theorem md_X7_run : yX7_run.cls ≠ "java/lang/invoke/MethodHandle" ∧ yX7_run.cls ≠ "java/lang/invoke/VarHandle" ∧ (parseMethodDescriptor yX7_run.desc).map (fun d => d.parameters.length) = some 2 := by decide +kernel
theorem md_X7_says : yX7_says.cls ≠ "java/lang/invoke/MethodHandle" ∧ yX7_says.cls ≠ "java/lang/invoke/VarHandle" ∧ (parseMethodDescriptor yX7_says.desc).map (fun d => d.parameters.length) = some 1 := by decide +kernel
theorem md_X7_sheet : yX7_sheet.cls ≠ "java/lang/invoke/MethodHandle" ∧ yX7_sheet.cls ≠ "java/lang/invoke/VarHandle" ∧ (parseMethodDescriptor yX7_sheet.desc).map (fun d => d.parameters.length) = some 3 := by decide +kernel
theorem md_X7_sheetWrong : yX7_sheetWrong.cls ≠ "java/lang/invoke/MethodHandle" ∧ yX7_sheetWrong.cls ≠ "java/lang/invoke/VarHandle" ∧ (parseMethodDescriptor yX7_sheetWrong.desc).map (fun d => d.parameters.length) = some 1 := by decide +kernel
theorem md_X7_signOf : yX7_signOf.cls ≠ "java/lang/invoke/MethodHandle" ∧ yX7_signOf.cls ≠ "java/lang/invoke/VarHandle" ∧ (parseMethodDescriptor yX7_signOf.desc).map (fun d => d.parameters.length) = some 0 := by decide +kernel
theorem md_X7_softOf : yX7_softOf.cls ≠ "java/lang/invoke/MethodHandle" ∧ yX7_softOf.cls ≠ "java/lang/invoke/VarHandle" ∧ (parseMethodDescriptor yX7_softOf.desc).map (fun d => d.parameters.length) = some 1 := by decide +kernel
theorem md_X7_states : yX7_states.cls ≠ "java/lang/invoke/MethodHandle" ∧ yX7_states.cls ≠ "java/lang/invoke/VarHandle" ∧ (parseMethodDescriptor yX7_states.desc).map (fun d => d.parameters.length) = some 4 := by decide +kernel
theorem md_X7_steps : yX7_steps.cls ≠ "java/lang/invoke/MethodHandle" ∧ yX7_steps.cls ≠ "java/lang/invoke/VarHandle" ∧ (parseMethodDescriptor yX7_steps.desc).map (fun d => d.parameters.length) = some 2 := by decide +kernel
theorem md_X7_taken : yX7_taken.cls ≠ "java/lang/invoke/MethodHandle" ∧ yX7_taken.cls ≠ "java/lang/invoke/VarHandle" ∧ (parseMethodDescriptor yX7_taken.desc).map (fun d => d.parameters.length) = some 2 := by decide +kernel
theorem md_X7_talliesAll : yX7_talliesAll.cls ≠ "java/lang/invoke/MethodHandle" ∧ yX7_talliesAll.cls ≠ "java/lang/invoke/VarHandle" ∧ (parseMethodDescriptor yX7_talliesAll.desc).map (fun d => d.parameters.length) = some 0 := by decide +kernel
theorem md_X7_text : yX7_text.cls ≠ "java/lang/invoke/MethodHandle" ∧ yX7_text.cls ≠ "java/lang/invoke/VarHandle" ∧ (parseMethodDescriptor yX7_text.desc).map (fun d => d.parameters.length) = some 0 := by decide +kernel
theorem md_X7_told : yX7_told.cls ≠ "java/lang/invoke/MethodHandle" ∧ yX7_told.cls ≠ "java/lang/invoke/VarHandle" ∧ (parseMethodDescriptor yX7_told.desc).map (fun d => d.parameters.length) = some 2 := by decide +kernel
theorem md_X7_toldWrong : yX7_toldWrong.cls ≠ "java/lang/invoke/MethodHandle" ∧ yX7_toldWrong.cls ≠ "java/lang/invoke/VarHandle" ∧ (parseMethodDescriptor yX7_toldWrong.desc).map (fun d => d.parameters.length) = some 2 := by decide +kernel
theorem md_X7_toss : yX7_toss.cls ≠ "java/lang/invoke/MethodHandle" ∧ yX7_toss.cls ≠ "java/lang/invoke/VarHandle" ∧ (parseMethodDescriptor yX7_toss.desc).map (fun d => d.parameters.length) = some 3 := by decide +kernel
theorem md_X7_two : yX7_two.cls ≠ "java/lang/invoke/MethodHandle" ∧ yX7_two.cls ≠ "java/lang/invoke/VarHandle" ∧ (parseMethodDescriptor yX7_two.desc).map (fun d => d.parameters.length) = some 3 := by decide +kernel
theorem md_X7_unlike : yX7_unlike.cls ≠ "java/lang/invoke/MethodHandle" ∧ yX7_unlike.cls ≠ "java/lang/invoke/VarHandle" ∧ (parseMethodDescriptor yX7_unlike.desc).map (fun d => d.parameters.length) = some 2 := by decide +kernel
theorem md_X7_unwinds : yX7_unwinds.cls ≠ "java/lang/invoke/MethodHandle" ∧ yX7_unwinds.cls ≠ "java/lang/invoke/VarHandle" ∧ (parseMethodDescriptor yX7_unwinds.desc).map (fun d => d.parameters.length) = some 1 := by decide +kernel
theorem md_X7_upSet : yX7_upSet.cls ≠ "java/lang/invoke/MethodHandle" ∧ yX7_upSet.cls ≠ "java/lang/invoke/VarHandle" ∧ (parseMethodDescriptor yX7_upSet.desc).map (fun d => d.parameters.length) = some 0 := by decide +kernel
theorem md_X7_when : yX7_when.cls ≠ "java/lang/invoke/MethodHandle" ∧ yX7_when.cls ≠ "java/lang/invoke/VarHandle" ∧ (parseMethodDescriptor yX7_when.desc).map (fun d => d.parameters.length) = some 1 := by decide +kernel
theorem md_X7_whose : yX7_whose.cls ≠ "java/lang/invoke/MethodHandle" ∧ yX7_whose.cls ≠ "java/lang/invoke/VarHandle" ∧ (parseMethodDescriptor yX7_whose.desc).map (fun d => d.parameters.length) = some 1 := by decide +kernel
theorem md_X7_within : yX7_within.cls ≠ "java/lang/invoke/MethodHandle" ∧ yX7_within.cls ≠ "java/lang/invoke/VarHandle" ∧ (parseMethodDescriptor yX7_within.desc).map (fun d => d.parameters.length) = some 3 := by decide +kernel
theorem md_X7_wordFrom : yX7_wordFrom.cls ≠ "java/lang/invoke/MethodHandle" ∧ yX7_wordFrom.cls ≠ "java/lang/invoke/VarHandle" ∧ (parseMethodDescriptor yX7_wordFrom.desc).map (fun d => d.parameters.length) = some 2 := by decide +kernel
