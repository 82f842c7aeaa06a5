/-! WORDS of the law (written by program) -/
theorem wl_72 : Cond.classLink yL_law.cls 7 RX6 ∈ TT := TT_in (i := 72) (by decide +kernel) (by decide +kernel)
theorem wl_709 : Cond.classLink yL_law.cls 10 RX7 ∈ TT := TT_in (i := 709) (by decide +kernel) (by decide +kernel)
theorem wl_73 : Cond.instantiable RX6 10 ∈ TT := TT_in (i := 73) (by decide +kernel) (by decide +kernel)
theorem wl_710 : Cond.instantiable RX7 32 ∈ TT := TT_in (i := 710) (by decide +kernel) (by decide +kernel)
theorem wl_56 : Cond.initialized RX6 ∈ TT := TT_in (i := 56) (by decide +kernel) (by decide +kernel)
theorem wl_67 : Cond.initialized RX7 ∈ TT := TT_in (i := 67) (by decide +kernel) (by decide +kernel)
theorem wl_74 : Cond.methodLink yL_law.cls 9 yX6_init ∈ TT := TT_in (i := 74) (by decide +kernel) (by decide +kernel)
theorem wl_711 : Cond.methodLink yL_law.cls 12 yX7_init ∈ TT := TT_in (i := 711) (by decide +kernel) (by decide +kernel)
theorem wl_75 : Cond.instanceMethod yX6_init ∈ TT := TT_in (i := 75) (by decide +kernel) (by decide +kernel)
theorem wl_76 : Cond.code yX6_init cX6_init 3 none ∈ TT := TT_in (i := 76) (by decide +kernel) (by decide +kernel)
theorem wl_712 : Cond.instanceMethod yX7_init ∈ TT := TT_in (i := 712) (by decide +kernel) (by decide +kernel)
set_option maxHeartbeats 4000000 in
set_option maxRecDepth 100000 in
theorem wl_713 : Cond.code yX7_init cX7_init 2 none ∈ TT := TT_in (i := 713) rfl (by decide +kernel)
