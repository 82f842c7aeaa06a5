-- ===== PART A: goes FIRST, ahead of the names: the tables' words, and 'selects' of the private methods out of them =====
/-- a private method of a class that the tables say can be made, by its rows of tables_1 -/
def lw_okq (q : MethodName × Nat) : Prop := (q.1.cls ≠ "java/lang/invoke/MethodHandle" ∧ q.1.cls ≠ "java/lang/invoke/VarHandle") ∧ Cond.instantiable q.1.cls q.2 ∈ tables_1 ∧ Cond.privateMethod q.1 ∈ tables_1 ∧ Cond.instanceMethod q.1 ∈ tables_1
theorem lw_p0 : lw_okq (⟨"HatsInRing$Reader", "next", "()V"⟩, 7) := ⟨⟨by decide +kernel, by decide +kernel⟩, List.mem_of_getElem? (i := 84) (by decide +kernel), List.mem_of_getElem? (i := 210) (by decide +kernel), List.mem_of_getElem? (i := 211) (by decide +kernel)⟩
theorem lw_p1 : lw_okq (⟨"HatsInRing$Reader", "nextWord", "()I"⟩, 7) := ⟨⟨by decide +kernel, by decide +kernel⟩, List.mem_of_getElem? (i := 84) (by decide +kernel), List.mem_of_getElem? (i := 217) (by decide +kernel), List.mem_of_getElem? (i := 218) (by decide +kernel)⟩
theorem lw_p2 : lw_okq (⟨"HatsInRing$Reader", "spells", "(Ljava/lang/String;)Z"⟩, 7) := ⟨⟨by decide +kernel, by decide +kernel⟩, List.mem_of_getElem? (i := 84) (by decide +kernel), List.mem_of_getElem? (i := 222) (by decide +kernel), List.mem_of_getElem? (i := 223) (by decide +kernel)⟩
theorem lw_p3 : lw_okq (⟨"HatsInRing$Reader", "nextNumber", "()I"⟩, 7) := ⟨⟨by decide +kernel, by decide +kernel⟩, List.mem_of_getElem? (i := 84) (by decide +kernel), List.mem_of_getElem? (i := 242) (by decide +kernel), List.mem_of_getElem? (i := 243) (by decide +kernel)⟩
theorem lw_p4 : lw_okq (⟨"HatsInRing$Reader", "expect", "(I)V"⟩, 7) := ⟨⟨by decide +kernel, by decide +kernel⟩, List.mem_of_getElem? (i := 84) (by decide +kernel), List.mem_of_getElem? (i := 249) (by decide +kernel), List.mem_of_getElem? (i := 250) (by decide +kernel)⟩
theorem lw_p5 : lw_okq (⟨"HatsInRing$Reader", "refuse", "()V"⟩, 7) := ⟨⟨by decide +kernel, by decide +kernel⟩, List.mem_of_getElem? (i := 84) (by decide +kernel), List.mem_of_getElem? (i := 253) (by decide +kernel), List.mem_of_getElem? (i := 254) (by decide +kernel)⟩
theorem lw_p6 : lw_okq (⟨"HatsInRing$Reader", "readE", "(I)V"⟩, 7) := ⟨⟨by decide +kernel, by decide +kernel⟩, List.mem_of_getElem? (i := 84) (by decide +kernel), List.mem_of_getElem? (i := 257) (by decide +kernel), List.mem_of_getElem? (i := 258) (by decide +kernel)⟩
theorem lw_p7 : lw_okq (⟨"HatsInRing$Reader", "readAnd", "(I)V"⟩, 7) := ⟨⟨by decide +kernel, by decide +kernel⟩, List.mem_of_getElem? (i := 84) (by decide +kernel), List.mem_of_getElem? (i := 261) (by decide +kernel), List.mem_of_getElem? (i := 262) (by decide +kernel)⟩
theorem lw_p8 : lw_okq (⟨"HatsInRing$Reader", "readNot", "(I)V"⟩, 7) := ⟨⟨by decide +kernel, by decide +kernel⟩, List.mem_of_getElem? (i := 84) (by decide +kernel), List.mem_of_getElem? (i := 265) (by decide +kernel), List.mem_of_getElem? (i := 266) (by decide +kernel)⟩
theorem lw_p9 : lw_okq (⟨"HatsInRing$Reader", "readSum", "(I)V"⟩, 7) := ⟨⟨by decide +kernel, by decide +kernel⟩, List.mem_of_getElem? (i := 84) (by decide +kernel), List.mem_of_getElem? (i := 273) (by decide +kernel), List.mem_of_getElem? (i := 274) (by decide +kernel)⟩
theorem lw_p10 : lw_okq (⟨"HatsInRing$Reader", "readTerm", "(I)V"⟩, 7) := ⟨⟨by decide +kernel, by decide +kernel⟩, List.mem_of_getElem? (i := 84) (by decide +kernel), List.mem_of_getElem? (i := 277) (by decide +kernel), List.mem_of_getElem? (i := 278) (by decide +kernel)⟩
theorem lw_p11 : lw_okq (⟨"HatsInRing$Reader", "readOne", "(I)V"⟩, 7) := ⟨⟨by decide +kernel, by decide +kernel⟩, List.mem_of_getElem? (i := 84) (by decide +kernel), List.mem_of_getElem? (i := 281) (by decide +kernel), List.mem_of_getElem? (i := 282) (by decide +kernel)⟩
theorem lw_p12 : lw_okq (⟨"HatsInRing", "isHat", "(I)Z"⟩, 10) := ⟨⟨by decide +kernel, by decide +kernel⟩, List.mem_of_getElem? (i := 18) (by decide +kernel), List.mem_of_getElem? (i := 354) (by decide +kernel), List.mem_of_getElem? (i := 355) (by decide +kernel)⟩
theorem lw_p13 : lw_okq (⟨"HatsInRing$Ring", "step", "(II)V"⟩, 11) := ⟨⟨by decide +kernel, by decide +kernel⟩, List.mem_of_getElem? (i := 28) (by decide +kernel), List.mem_of_getElem? (i := 447) (by decide +kernel), List.mem_of_getElem? (i := 448) (by decide +kernel)⟩
theorem lw_p14 : lw_okq (⟨"HatsInRing$Ring", "land", "(III)V"⟩, 11) := ⟨⟨by decide +kernel, by decide +kernel⟩, List.mem_of_getElem? (i := 28) (by decide +kernel), List.mem_of_getElem? (i := 454) (by decide +kernel), List.mem_of_getElem? (i := 455) (by decide +kernel)⟩
theorem lw_p15 : lw_okq (⟨"HatsInRing", "imagine", "()V"⟩, 10) := ⟨⟨by decide +kernel, by decide +kernel⟩, List.mem_of_getElem? (i := 18) (by decide +kernel), List.mem_of_getElem? (i := 466) (by decide +kernel), List.mem_of_getElem? (i := 467) (by decide +kernel)⟩
def lw_privs_1 : List (MethodName × Nat) := [(⟨"HatsInRing$Reader", "next", "()V"⟩, 7), (⟨"HatsInRing$Reader", "nextWord", "()I"⟩, 7), (⟨"HatsInRing$Reader", "spells", "(Ljava/lang/String;)Z"⟩, 7), (⟨"HatsInRing$Reader", "nextNumber", "()I"⟩, 7), (⟨"HatsInRing$Reader", "expect", "(I)V"⟩, 7), (⟨"HatsInRing$Reader", "refuse", "()V"⟩, 7), (⟨"HatsInRing$Reader", "readE", "(I)V"⟩, 7), (⟨"HatsInRing$Reader", "readAnd", "(I)V"⟩, 7), (⟨"HatsInRing$Reader", "readNot", "(I)V"⟩, 7), (⟨"HatsInRing$Reader", "readSum", "(I)V"⟩, 7), (⟨"HatsInRing$Reader", "readTerm", "(I)V"⟩, 7), (⟨"HatsInRing$Reader", "readOne", "(I)V"⟩, 7), (⟨"HatsInRing", "isHat", "(I)Z"⟩, 10), (⟨"HatsInRing$Ring", "step", "(II)V"⟩, 11), (⟨"HatsInRing$Ring", "land", "(III)V"⟩, 11), (⟨"HatsInRing", "imagine", "()V"⟩, 10)]
theorem lw_r1 : ∀ q ∈ lw_privs_1, lw_okq q := List.forall_mem_cons.mpr ⟨lw_p0, List.forall_mem_cons.mpr ⟨lw_p1, List.forall_mem_cons.mpr ⟨lw_p2, List.forall_mem_cons.mpr ⟨lw_p3, List.forall_mem_cons.mpr ⟨lw_p4, List.forall_mem_cons.mpr ⟨lw_p5, List.forall_mem_cons.mpr ⟨lw_p6, List.forall_mem_cons.mpr ⟨lw_p7, List.forall_mem_cons.mpr ⟨lw_p8, List.forall_mem_cons.mpr ⟨lw_p9, List.forall_mem_cons.mpr ⟨lw_p10, List.forall_mem_cons.mpr ⟨lw_p11, List.forall_mem_cons.mpr ⟨lw_p12, List.forall_mem_cons.mpr ⟨lw_p13, List.forall_mem_cons.mpr ⟨lw_p14, List.forall_mem_cons.mpr ⟨lw_p15, fun _ h => absurd h List.not_mem_nil⟩⟩⟩⟩⟩⟩⟩⟩⟩⟩⟩⟩⟩⟩⟩⟩
theorem lw_p16 : lw_okq (⟨"HatsInRing", "feltBehind", "(II)I"⟩, 10) := ⟨⟨by decide +kernel, by decide +kernel⟩, List.mem_of_getElem? (i := 18) (by decide +kernel), List.mem_of_getElem? (i := 508) (by decide +kernel), List.mem_of_getElem? (i := 509) (by decide +kernel)⟩
theorem lw_p17 : lw_okq (⟨"HatsInRing", "refusalOf", "(II)I"⟩, 10) := ⟨⟨by decide +kernel, by decide +kernel⟩, List.mem_of_getElem? (i := 18) (by decide +kernel), List.mem_of_getElem? (i := 546) (by decide +kernel), List.mem_of_getElem? (i := 547) (by decide +kernel)⟩
theorem lw_p18 : lw_okq (⟨"HatsInRing", "refusalOf", "(I)I"⟩, 10) := ⟨⟨by decide +kernel, by decide +kernel⟩, List.mem_of_getElem? (i := 18) (by decide +kernel), List.mem_of_getElem? (i := 550) (by decide +kernel), List.mem_of_getElem? (i := 551) (by decide +kernel)⟩
theorem lw_p19 : lw_okq (⟨"HatsInRing", "firstOtherwise", "(II)I"⟩, 10) := ⟨⟨by decide +kernel, by decide +kernel⟩, List.mem_of_getElem? (i := 18) (by decide +kernel), List.mem_of_getElem? (i := 561) (by decide +kernel), List.mem_of_getElem? (i := 562) (by decide +kernel)⟩
theorem lw_p20 : lw_okq (⟨"HatsInRing", "imagineDrawn", "(I)V"⟩, 10) := ⟨⟨by decide +kernel, by decide +kernel⟩, List.mem_of_getElem? (i := 18) (by decide +kernel), List.mem_of_getElem? (i := 601) (by decide +kernel), List.mem_of_getElem? (i := 602) (by decide +kernel)⟩
theorem lw_p21 : lw_okq (⟨"HatsInRingModel", "next", "()V"⟩, 32) := ⟨⟨by decide +kernel, by decide +kernel⟩, List.mem_of_getElem? (i := 655) (by decide +kernel), List.mem_of_getElem? (i := 665) (by decide +kernel), List.mem_of_getElem? (i := 666) (by decide +kernel)⟩
theorem lw_p22 : lw_okq (⟨"HatsInRingModel", "wordFrom", "(II)I"⟩, 32) := ⟨⟨by decide +kernel, by decide +kernel⟩, List.mem_of_getElem? (i := 655) (by decide +kernel), List.mem_of_getElem? (i := 672) (by decide +kernel), List.mem_of_getElem? (i := 673) (by decide +kernel)⟩
theorem lw_p23 : lw_okq (⟨"HatsInRingModel", "eRead", "()Z"⟩, 32) := ⟨⟨by decide +kernel, by decide +kernel⟩, List.mem_of_getElem? (i := 655) (by decide +kernel), List.mem_of_getElem? (i := 676) (by decide +kernel), List.mem_of_getElem? (i := 677) (by decide +kernel)⟩
theorem lw_p24 : lw_okq (⟨"HatsInRingModel", "puts", "(I)V"⟩, 32) := ⟨⟨by decide +kernel, by decide +kernel⟩, List.mem_of_getElem? (i := 655) (by decide +kernel), List.mem_of_getElem? (i := 681) (by decide +kernel), List.mem_of_getElem? (i := 682) (by decide +kernel)⟩
theorem lw_p25 : lw_okq (⟨"HatsInRingModel", "unwinds", "(I)V"⟩, 32) := ⟨⟨by decide +kernel, by decide +kernel⟩, List.mem_of_getElem? (i := 655) (by decide +kernel), List.mem_of_getElem? (i := 685) (by decide +kernel), List.mem_of_getElem? (i := 686) (by decide +kernel)⟩
theorem lw_p26 : lw_okq (⟨"HatsInRingModel", "opensOne", "(I)Z"⟩, 32) := ⟨⟨by decide +kernel, by decide +kernel⟩, List.mem_of_getElem? (i := 655) (by decide +kernel), List.mem_of_getElem? (i := 692) (by decide +kernel), List.mem_of_getElem? (i := 693) (by decide +kernel)⟩
theorem lw_p27 : lw_okq (⟨"HatsInRingModel", "holds", "(I)V"⟩, 32) := ⟨⟨by decide +kernel, by decide +kernel⟩, List.mem_of_getElem? (i := 655) (by decide +kernel), List.mem_of_getElem? (i := 696) (by decide +kernel), List.mem_of_getElem? (i := 697) (by decide +kernel)⟩
theorem lw_p28 : lw_okq (⟨"HatsInRingModel", "signOf", "()I"⟩, 32) := ⟨⟨by decide +kernel, by decide +kernel⟩, List.mem_of_getElem? (i := 655) (by decide +kernel), List.mem_of_getElem? (i := 700) (by decide +kernel), List.mem_of_getElem? (i := 701) (by decide +kernel)⟩
theorem lw_p29 : lw_okq (⟨"HatsInRingModel", "between", "(I)Z"⟩, 32) := ⟨⟨by decide +kernel, by decide +kernel⟩, List.mem_of_getElem? (i := 655) (by decide +kernel), List.mem_of_getElem? (i := 704) (by decide +kernel), List.mem_of_getElem? (i := 705) (by decide +kernel)⟩
theorem lw_p30 : lw_okq (⟨"HatsInRingModel", "upSet", "()I"⟩, 32) := ⟨⟨by decide +kernel, by decide +kernel⟩, List.mem_of_getElem? (i := 655) (by decide +kernel), List.mem_of_getElem? (i := 809) (by decide +kernel), List.mem_of_getElem? (i := 810) (by decide +kernel)⟩
theorem lw_p31 : lw_okq (⟨"HatsInRingModel", "isUp", "(I)Z"⟩, 32) := ⟨⟨by decide +kernel, by decide +kernel⟩, List.mem_of_getElem? (i := 655) (by decide +kernel), List.mem_of_getElem? (i := 813) (by decide +kernel), List.mem_of_getElem? (i := 814) (by decide +kernel)⟩
def lw_privs_2 : List (MethodName × Nat) := [(⟨"HatsInRing", "feltBehind", "(II)I"⟩, 10), (⟨"HatsInRing", "refusalOf", "(II)I"⟩, 10), (⟨"HatsInRing", "refusalOf", "(I)I"⟩, 10), (⟨"HatsInRing", "firstOtherwise", "(II)I"⟩, 10), (⟨"HatsInRing", "imagineDrawn", "(I)V"⟩, 10), (⟨"HatsInRingModel", "next", "()V"⟩, 32), (⟨"HatsInRingModel", "wordFrom", "(II)I"⟩, 32), (⟨"HatsInRingModel", "eRead", "()Z"⟩, 32), (⟨"HatsInRingModel", "puts", "(I)V"⟩, 32), (⟨"HatsInRingModel", "unwinds", "(I)V"⟩, 32), (⟨"HatsInRingModel", "opensOne", "(I)Z"⟩, 32), (⟨"HatsInRingModel", "holds", "(I)V"⟩, 32), (⟨"HatsInRingModel", "signOf", "()I"⟩, 32), (⟨"HatsInRingModel", "between", "(I)Z"⟩, 32), (⟨"HatsInRingModel", "upSet", "()I"⟩, 32), (⟨"HatsInRingModel", "isUp", "(I)Z"⟩, 32)]
theorem lw_r2 : ∀ q ∈ lw_privs_2, lw_okq q := List.forall_mem_cons.mpr ⟨lw_p16, List.forall_mem_cons.mpr ⟨lw_p17, List.forall_mem_cons.mpr ⟨lw_p18, List.forall_mem_cons.mpr ⟨lw_p19, List.forall_mem_cons.mpr ⟨lw_p20, List.forall_mem_cons.mpr ⟨lw_p21, List.forall_mem_cons.mpr ⟨lw_p22, List.forall_mem_cons.mpr ⟨lw_p23, List.forall_mem_cons.mpr ⟨lw_p24, List.forall_mem_cons.mpr ⟨lw_p25, List.forall_mem_cons.mpr ⟨lw_p26, List.forall_mem_cons.mpr ⟨lw_p27, List.forall_mem_cons.mpr ⟨lw_p28, List.forall_mem_cons.mpr ⟨lw_p29, List.forall_mem_cons.mpr ⟨lw_p30, List.forall_mem_cons.mpr ⟨lw_p31, fun _ h => absurd h List.not_mem_nil⟩⟩⟩⟩⟩⟩⟩⟩⟩⟩⟩⟩⟩⟩⟩⟩
theorem lw_p32 : lw_okq (⟨"HatsInRingModel", "isOne", "(I)Z"⟩, 32) := ⟨⟨by decide +kernel, by decide +kernel⟩, List.mem_of_getElem? (i := 655) (by decide +kernel), List.mem_of_getElem? (i := 836) (by decide +kernel), List.mem_of_getElem? (i := 837) (by decide +kernel)⟩
theorem lw_p33 : lw_okq (⟨"HatsInRingModel", "asksOf", "(II)I"⟩, 32) := ⟨⟨by decide +kernel, by decide +kernel⟩, List.mem_of_getElem? (i := 655) (by decide +kernel), List.mem_of_getElem? (i := 840) (by decide +kernel), List.mem_of_getElem? (i := 841) (by decide +kernel)⟩
theorem lw_p34 : lw_okq (⟨"HatsInRingModel", "says", "(I)I"⟩, 32) := ⟨⟨by decide +kernel, by decide +kernel⟩, List.mem_of_getElem? (i := 655) (by decide +kernel), List.mem_of_getElem? (i := 844) (by decide +kernel), List.mem_of_getElem? (i := 845) (by decide +kernel)⟩
theorem lw_p35 : lw_okq (⟨"HatsInRingModel", "goes", "(I)Z"⟩, 32) := ⟨⟨by decide +kernel, by decide +kernel⟩, List.mem_of_getElem? (i := 655) (by decide +kernel), List.mem_of_getElem? (i := 866) (by decide +kernel), List.mem_of_getElem? (i := 867) (by decide +kernel)⟩
theorem lw_p36 : lw_okq (⟨"HatsInRingModel", "nearestOf", "(I)I"⟩, 32) := ⟨⟨by decide +kernel, by decide +kernel⟩, List.mem_of_getElem? (i := 655) (by decide +kernel), List.mem_of_getElem? (i := 870) (by decide +kernel), List.mem_of_getElem? (i := 871) (by decide +kernel)⟩
theorem lw_p37 : lw_okq (⟨"HatsInRingModel", "farOf", "(II)I"⟩, 32) := ⟨⟨by decide +kernel, by decide +kernel⟩, List.mem_of_getElem? (i := 655) (by decide +kernel), List.mem_of_getElem? (i := 874) (by decide +kernel), List.mem_of_getElem? (i := 875) (by decide +kernel)⟩
theorem lw_p38 : lw_okq (⟨"HatsInRingModel", "softOf", "(I)I"⟩, 32) := ⟨⟨by decide +kernel, by decide +kernel⟩, List.mem_of_getElem? (i := 655) (by decide +kernel), List.mem_of_getElem? (i := 878) (by decide +kernel), List.mem_of_getElem? (i := 879) (by decide +kernel)⟩
theorem lw_p39 : lw_okq (⟨"HatsInRingModel", "areTwo", "(II)Z"⟩, 32) := ⟨⟨by decide +kernel, by decide +kernel⟩, List.mem_of_getElem? (i := 655) (by decide +kernel), List.mem_of_getElem? (i := 886) (by decide +kernel), List.mem_of_getElem? (i := 887) (by decide +kernel)⟩
theorem lw_p40 : lw_okq (⟨"HatsInRingModel", "hitsOf", "(II)I"⟩, 32) := ⟨⟨by decide +kernel, by decide +kernel⟩, List.mem_of_getElem? (i := 655) (by decide +kernel), List.mem_of_getElem? (i := 890) (by decide +kernel), List.mem_of_getElem? (i := 891) (by decide +kernel)⟩
theorem lw_p41 : lw_okq (⟨"HatsInRingModel", "blowOf", "(II)I"⟩, 32) := ⟨⟨by decide +kernel, by decide +kernel⟩, List.mem_of_getElem? (i := 655) (by decide +kernel), List.mem_of_getElem? (i := 894) (by decide +kernel), List.mem_of_getElem? (i := 895) (by decide +kernel)⟩
theorem lw_p42 : lw_okq (⟨"HatsInRingModel", "roundOf", "()I"⟩, 32) := ⟨⟨by decide +kernel, by decide +kernel⟩, List.mem_of_getElem? (i := 655) (by decide +kernel), List.mem_of_getElem? (i := 902) (by decide +kernel), List.mem_of_getElem? (i := 903) (by decide +kernel)⟩
theorem lw_p43 : lw_okq (⟨"HatsInRingModel", "steps", "(II)V"⟩, 32) := ⟨⟨by decide +kernel, by decide +kernel⟩, List.mem_of_getElem? (i := 655) (by decide +kernel), List.mem_of_getElem? (i := 906) (by decide +kernel), List.mem_of_getElem? (i := 907) (by decide +kernel)⟩
theorem lw_p44 : lw_okq (⟨"HatsInRingModel", "hitBy", "(II)Z"⟩, 32) := ⟨⟨by decide +kernel, by decide +kernel⟩, List.mem_of_getElem? (i := 655) (by decide +kernel), List.mem_of_getElem? (i := 910) (by decide +kernel), List.mem_of_getElem? (i := 911) (by decide +kernel)⟩
theorem lw_p45 : lw_okq (⟨"HatsInRingModel", "keeps", "()V"⟩, 32) := ⟨⟨by decide +kernel, by decide +kernel⟩, List.mem_of_getElem? (i := 655) (by decide +kernel), List.mem_of_getElem? (i := 922) (by decide +kernel), List.mem_of_getElem? (i := 923) (by decide +kernel)⟩
theorem lw_p46 : lw_okq (⟨"HatsInRingModel", "passes", "(I)V"⟩, 32) := ⟨⟨by decide +kernel, by decide +kernel⟩, List.mem_of_getElem? (i := 655) (by decide +kernel), List.mem_of_getElem? (i := 926) (by decide +kernel), List.mem_of_getElem? (i := 927) (by decide +kernel)⟩
theorem lw_p47 : lw_okq (⟨"HatsInRingModel", "talliesAll", "()I"⟩, 32) := ⟨⟨by decide +kernel, by decide +kernel⟩, List.mem_of_getElem? (i := 655) (by decide +kernel), List.mem_of_getElem? (i := 930) (by decide +kernel), List.mem_of_getElem? (i := 931) (by decide +kernel)⟩
def lw_privs_3 : List (MethodName × Nat) := [(⟨"HatsInRingModel", "isOne", "(I)Z"⟩, 32), (⟨"HatsInRingModel", "asksOf", "(II)I"⟩, 32), (⟨"HatsInRingModel", "says", "(I)I"⟩, 32), (⟨"HatsInRingModel", "goes", "(I)Z"⟩, 32), (⟨"HatsInRingModel", "nearestOf", "(I)I"⟩, 32), (⟨"HatsInRingModel", "farOf", "(II)I"⟩, 32), (⟨"HatsInRingModel", "softOf", "(I)I"⟩, 32), (⟨"HatsInRingModel", "areTwo", "(II)Z"⟩, 32), (⟨"HatsInRingModel", "hitsOf", "(II)I"⟩, 32), (⟨"HatsInRingModel", "blowOf", "(II)I"⟩, 32), (⟨"HatsInRingModel", "roundOf", "()I"⟩, 32), (⟨"HatsInRingModel", "steps", "(II)V"⟩, 32), (⟨"HatsInRingModel", "hitBy", "(II)Z"⟩, 32), (⟨"HatsInRingModel", "keeps", "()V"⟩, 32), (⟨"HatsInRingModel", "passes", "(I)V"⟩, 32), (⟨"HatsInRingModel", "talliesAll", "()I"⟩, 32)]
theorem lw_r3 : ∀ q ∈ lw_privs_3, lw_okq q := List.forall_mem_cons.mpr ⟨lw_p32, List.forall_mem_cons.mpr ⟨lw_p33, List.forall_mem_cons.mpr ⟨lw_p34, List.forall_mem_cons.mpr ⟨lw_p35, List.forall_mem_cons.mpr ⟨lw_p36, List.forall_mem_cons.mpr ⟨lw_p37, List.forall_mem_cons.mpr ⟨lw_p38, List.forall_mem_cons.mpr ⟨lw_p39, List.forall_mem_cons.mpr ⟨lw_p40, List.forall_mem_cons.mpr ⟨lw_p41, List.forall_mem_cons.mpr ⟨lw_p42, List.forall_mem_cons.mpr ⟨lw_p43, List.forall_mem_cons.mpr ⟨lw_p44, List.forall_mem_cons.mpr ⟨lw_p45, List.forall_mem_cons.mpr ⟨lw_p46, List.forall_mem_cons.mpr ⟨lw_p47, fun _ h => absurd h List.not_mem_nil⟩⟩⟩⟩⟩⟩⟩⟩⟩⟩⟩⟩⟩⟩⟩⟩
theorem lw_p48 : lw_okq (⟨"HatsInRingModel", "lays", "()V"⟩, 32) := ⟨⟨by decide +kernel, by decide +kernel⟩, List.mem_of_getElem? (i := 655) (by decide +kernel), List.mem_of_getElem? (i := 934) (by decide +kernel), List.mem_of_getElem? (i := 935) (by decide +kernel)⟩
theorem lw_p49 : lw_okq (⟨"HatsInRingModel", "mostFelt", "()I"⟩, 32) := ⟨⟨by decide +kernel, by decide +kernel⟩, List.mem_of_getElem? (i := 655) (by decide +kernel), List.mem_of_getElem? (i := 946) (by decide +kernel), List.mem_of_getElem? (i := 947) (by decide +kernel)⟩
theorem lw_p50 : lw_okq (⟨"HatsInRingModel", "feltBehind", "(II)I"⟩, 32) := ⟨⟨by decide +kernel, by decide +kernel⟩, List.mem_of_getElem? (i := 655) (by decide +kernel), List.mem_of_getElem? (i := 958) (by decide +kernel), List.mem_of_getElem? (i := 959) (by decide +kernel)⟩
theorem lw_p51 : lw_okq (⟨"HatsInRingModel", "toldWrong", "(II)I"⟩, 32) := ⟨⟨by decide +kernel, by decide +kernel⟩, List.mem_of_getElem? (i := 655) (by decide +kernel), List.mem_of_getElem? (i := 982) (by decide +kernel), List.mem_of_getElem? (i := 983) (by decide +kernel)⟩
theorem lw_p52 : lw_okq (⟨"HatsInRingModel", "sheetWrong", "(I)I"⟩, 32) := ⟨⟨by decide +kernel, by decide +kernel⟩, List.mem_of_getElem? (i := 655) (by decide +kernel), List.mem_of_getElem? (i := 986) (by decide +kernel), List.mem_of_getElem? (i := 987) (by decide +kernel)⟩
theorem lw_p53 : lw_okq (⟨"HatsInRingModel", "unlike", "(II)I"⟩, 32) := ⟨⟨by decide +kernel, by decide +kernel⟩, List.mem_of_getElem? (i := 655) (by decide +kernel), List.mem_of_getElem? (i := 990) (by decide +kernel), List.mem_of_getElem? (i := 991) (by decide +kernel)⟩
theorem lw_p54 : lw_okq (⟨"HatsInRingModel", "lotRing", "(I)I"⟩, 32) := ⟨⟨by decide +kernel, by decide +kernel⟩, List.mem_of_getElem? (i := 655) (by decide +kernel), List.mem_of_getElem? (i := 1023) (by decide +kernel), List.mem_of_getElem? (i := 1024) (by decide +kernel)⟩
def lw_privs_4 : List (MethodName × Nat) := [(⟨"HatsInRingModel", "lays", "()V"⟩, 32), (⟨"HatsInRingModel", "mostFelt", "()I"⟩, 32), (⟨"HatsInRingModel", "feltBehind", "(II)I"⟩, 32), (⟨"HatsInRingModel", "toldWrong", "(II)I"⟩, 32), (⟨"HatsInRingModel", "sheetWrong", "(I)I"⟩, 32), (⟨"HatsInRingModel", "unlike", "(II)I"⟩, 32), (⟨"HatsInRingModel", "lotRing", "(I)I"⟩, 32)]
theorem lw_r4 : ∀ q ∈ lw_privs_4, lw_okq q := List.forall_mem_cons.mpr ⟨lw_p48, List.forall_mem_cons.mpr ⟨lw_p49, List.forall_mem_cons.mpr ⟨lw_p50, List.forall_mem_cons.mpr ⟨lw_p51, List.forall_mem_cons.mpr ⟨lw_p52, List.forall_mem_cons.mpr ⟨lw_p53, List.forall_mem_cons.mpr ⟨lw_p54, fun _ h => absurd h List.not_mem_nil⟩⟩⟩⟩⟩⟩⟩
def lw_privs : List (MethodName × Nat) := lw_privs_1 ++ (lw_privs_2 ++ (lw_privs_3 ++ (lw_privs_4)))
def lw_tbl : List Cond := k2_sels lw_privs ++ tables_1
theorem lw_privs_ok : ∀ q ∈ lw_privs, lw_okq q := by
  show ∀ q ∈ lw_privs_1 ++ (lw_privs_2 ++ (lw_privs_3 ++ (lw_privs_4))), lw_okq q
  exact List.forall_mem_append.mpr ⟨lw_r1, List.forall_mem_append.mpr ⟨lw_r2, List.forall_mem_append.mpr ⟨lw_r3, lw_r4⟩⟩⟩
def RX0 : String := "HatsInRing$Kinds"
def TX0 : u_T := fun k => match k with
  | _ => ("", "", "", false)
def tyX0 : Nat → FieldType := fun k => match k with
  | _ => .int
abbrev wsX00 : List Cond := u_ws RX0 TX0 0
theorem nmX0 : ∀ a, a < 0 → ∀ b, b < 0 → a ≠ b → (TX0 a).2.1 ≠ (TX0 b).2.1 := by decide +kernel
theorem tyX0_ok : ∀ k, k < 0 → parseFieldDescriptor (TX0 k).2.2.1 = some (tyX0 k) := by decide +kernel
abbrev cX0_isOne : ByteArray := prog_2_method_2_code
def yX0_isOne : MethodName := ⟨RX0, "isOne", "(II)Z"⟩
abbrev cX0_goes : ByteArray := prog_2_method_3_code
def yX0_goes : MethodName := ⟨RX0, "goes", "(IIIZ)Z"⟩
abbrev cX0_hits : ByteArray := prog_2_method_4_code
def yX0_hits : MethodName := ⟨RX0, "hits", "(IIIII)I"⟩
abbrev cX0_soft : ByteArray := prog_2_method_5_code
def yX0_soft : MethodName := ⟨RX0, "soft", "(III)I"⟩
def RX1 : String := "HatsInRing$Reader"
def TX1 : u_T := fun k => match k with
  | 0 => ("HatsInRing$Reader", "bytes", "[I", false)
  | 1 => ("HatsInRing$Reader", "size", "I", false)
  | 2 => ("HatsInRing$Reader", "at", "I", false)
  | 3 => ("HatsInRing$Reader", "start", "I", false)
  | 4 => ("HatsInRing$Reader", "token", "I", false)
  | 5 => ("HatsInRing$Reader", "fault", "I", false)
  | _ => ("HatsInRing$Reader", "into", "LHatsInRing$Text;", false)
def tyX1 : Nat → FieldType := fun k => match k with
  | 0 => .array .int
  | 1 => .int
  | 2 => .int
  | 3 => .int
  | 4 => .int
  | 5 => .int
  | _ => .object "HatsInRing$Text"
abbrev wsX10 : List Cond := u_ws RX1 TX1 7
theorem nmX1 : ∀ a, a < 7 → ∀ b, b < 7 → a ≠ b → (TX1 a).2.1 ≠ (TX1 b).2.1 := by decide +kernel
theorem tyX1_ok : ∀ k, k < 7 → parseFieldDescriptor (TX1 k).2.2.1 = some (tyX1 k) := by decide +kernel
abbrev cX1_init : ByteArray := prog_3_method_1_code
def yX1_init : MethodName := ⟨RX1, "<init>", "()V"⟩
abbrev cX1_read : ByteArray := prog_3_method_2_code
def yX1_read : MethodName := ⟨RX1, "read", "([IILHatsInRing$Text;)I"⟩
abbrev cX1_readE : ByteArray := prog_3_method_3_code
def yX1_readE : MethodName := ⟨RX1, "readE", "(I)V"⟩
abbrev cX1_readAnd : ByteArray := prog_3_method_4_code
def yX1_readAnd : MethodName := ⟨RX1, "readAnd", "(I)V"⟩
abbrev cX1_readNot : ByteArray := prog_3_method_5_code
def yX1_readNot : MethodName := ⟨RX1, "readNot", "(I)V"⟩
abbrev cX1_readSum : ByteArray := prog_3_method_6_code
def yX1_readSum : MethodName := ⟨RX1, "readSum", "(I)V"⟩
abbrev cX1_readTerm : ByteArray := prog_3_method_7_code
def yX1_readTerm : MethodName := ⟨RX1, "readTerm", "(I)V"⟩
abbrev cX1_readOne : ByteArray := prog_3_method_8_code
def yX1_readOne : MethodName := ⟨RX1, "readOne", "(I)V"⟩
abbrev cX1_expect : ByteArray := prog_3_method_9_code
def yX1_expect : MethodName := ⟨RX1, "expect", "(I)V"⟩
abbrev cX1_refuse : ByteArray := prog_3_method_10_code
def yX1_refuse : MethodName := ⟨RX1, "refuse", "()V"⟩
abbrev cX1_next : ByteArray := prog_3_method_11_code
def yX1_next : MethodName := ⟨RX1, "next", "()V"⟩
abbrev cX1_nextNumber : ByteArray := prog_3_method_12_code
def yX1_nextNumber : MethodName := ⟨RX1, "nextNumber", "()I"⟩
abbrev cX1_nextWord : ByteArray := prog_3_method_13_code
def yX1_nextWord : MethodName := ⟨RX1, "nextWord", "()I"⟩
abbrev cX1_spells : ByteArray := prog_3_method_14_code
def yX1_spells : MethodName := ⟨RX1, "spells", "(Ljava/lang/String;)Z"⟩
abbrev cX1_isLetter : ByteArray := prog_3_method_15_code
def yX1_isLetter : MethodName := ⟨RX1, "isLetter", "(I)Z"⟩
abbrev cX1_isDigit : ByteArray := prog_3_method_16_code
def yX1_isDigit : MethodName := ⟨RX1, "isDigit", "(I)Z"⟩
def RX2 : String := "HatsInRing$Ring"
def TX2 : u_T := fun k => match k with
  | 0 => ("HatsInRing$Ring", "texts", "[LHatsInRing$Text;", true)
  | 1 => ("HatsInRing$Ring", "kind", "[I", true)
  | 2 => ("HatsInRing$Ring", "more", "[I", true)
  | 3 => ("HatsInRing$Ring", "place", "[I", true)
  | 4 => ("HatsInRing$Ring", "felt", "[I", true)
  | 5 => ("HatsInRing$Ring", "pride", "[I", true)
  | 6 => ("HatsInRing$Ring", "blows", "[I", true)
  | 7 => ("HatsInRing$Ring", "tally", "[I", true)
  | 8 => ("HatsInRing$Ring", "size", "I", false)
  | 9 => ("HatsInRing$Ring", "round", "I", false)
  | _ => ("HatsInRing$Ring", "law", "I", false)
def tyX2 : Nat → FieldType := fun k => match k with
  | 0 => .array (.object "HatsInRing$Text")
  | 1 => .array .int
  | 2 => .array .int
  | 3 => .array .int
  | 4 => .array .int
  | 5 => .array .int
  | 6 => .array .int
  | 7 => .array .int
  | 8 => .int
  | 9 => .int
  | _ => .int
abbrev wsX20 : List Cond := u_ws RX2 TX2 11
theorem nmX2 : ∀ a, a < 11 → ∀ b, b < 11 → a ≠ b → (TX2 a).2.1 ≠ (TX2 b).2.1 := by decide +kernel
theorem tyX2_ok : ∀ k, k < 11 → parseFieldDescriptor (TX2 k).2.2.1 = some (tyX2 k) := by decide +kernel
abbrev cX2_init : ByteArray := prog_4_method_1_code
def yX2_init : MethodName := ⟨RX2, "<init>", "([LHatsInRing$Text;)V"⟩
abbrev cX2_become : ByteArray := prog_4_method_2_code
def yX2_become : MethodName := ⟨RX2, "become", "(LHatsInRing$Ring;)V"⟩
abbrev cX2_add : ByteArray := prog_4_method_3_code
def yX2_add : MethodName := ⟨RX2, "add", "(III)V"⟩
abbrev cX2_rowOf : ByteArray := prog_4_method_4_code
def yX2_rowOf : MethodName := ⟨RX2, "rowOf", "(I)[I"⟩
abbrev cX2_leaveOnly : ByteArray := prog_4_method_5_code
def yX2_leaveOnly : MethodName := ⟨RX2, "leaveOnly", "(II)V"⟩
abbrev cX2_upBits : ByteArray := prog_4_method_6_code
def yX2_upBits : MethodName := ⟨RX2, "upBits", "()I"⟩
abbrev cX2_upCount : ByteArray := prog_4_method_7_code
def yX2_upCount : MethodName := ⟨RX2, "upCount", "()I"⟩
abbrev cX2_feltSum : ByteArray := prog_4_method_8_code
def yX2_feltSum : MethodName := ⟨RX2, "feltSum", "()I"⟩
abbrev cX2_tallySum : ByteArray := prog_4_method_9_code
def yX2_tallySum : MethodName := ⟨RX2, "tallySum", "()I"⟩
abbrev cX2_mostFelt : ByteArray := prog_4_method_10_code
def yX2_mostFelt : MethodName := ⟨RX2, "mostFelt", "()I"⟩
abbrev cX2_far : ByteArray := prog_4_method_11_code
def yX2_far : MethodName := ⟨RX2, "far", "(II)I"⟩
abbrev cX2_nearest : ByteArray := prog_4_method_12_code
def yX2_nearest : MethodName := ⟨RX2, "nearest", "(I)I"⟩
abbrev cX2_goes : ByteArray := prog_4_method_13_code
def yX2_goes : MethodName := ⟨RX2, "goes", "(I)Z"⟩
abbrev cX2_hits : ByteArray := prog_4_method_14_code
def yX2_hits : MethodName := ⟨RX2, "hits", "(II)I"⟩
abbrev cX2_soft : ByteArray := prog_4_method_15_code
def yX2_soft : MethodName := ⟨RX2, "soft", "(I)I"⟩
abbrev cX2_blow : ByteArray := prog_4_method_16_code
def yX2_blow : MethodName := ⟨RX2, "blow", "(II)I"⟩
abbrev cX2_play : ByteArray := prog_4_method_17_code
def yX2_play : MethodName := ⟨RX2, "play", "()I"⟩
abbrev cX2_step : ByteArray := prog_4_method_18_code
def yX2_step : MethodName := ⟨RX2, "step", "(II)V"⟩
abbrev cX2_land : ByteArray := prog_4_method_19_code
def yX2_land : MethodName := ⟨RX2, "land", "(III)V"⟩
def RX3 : String := "HatsInRing$Sheet"
def TX3 : u_T := fun k => match k with
  | 0 => ("HatsInRing$Sheet", "row", "[I", true)
  | 1 => ("HatsInRing$Sheet", "sort", "I", false)
  | _ => ("HatsInRing$Sheet", "size", "I", false)
def tyX3 : Nat → FieldType := fun k => match k with
  | 0 => .array .int
  | 1 => .int
  | _ => .int
abbrev wsX30 : List Cond := u_ws RX3 TX3 3
theorem nmX3 : ∀ a, a < 3 → ∀ b, b < 3 → a ≠ b → (TX3 a).2.1 ≠ (TX3 b).2.1 := by decide +kernel
theorem tyX3_ok : ∀ k, k < 3 → parseFieldDescriptor (TX3 k).2.2.1 = some (tyX3 k) := by decide +kernel
abbrev cX3_init : ByteArray := prog_5_method_1_code
def yX3_init : MethodName := ⟨RX3, "<init>", "()V"⟩
abbrev cX3_isMissing : ByteArray := prog_5_method_2_code
def yX3_isMissing : MethodName := ⟨RX3, "isMissing", "()Z"⟩
abbrev cX3_become : ByteArray := prog_5_method_3_code
def yX3_become : MethodName := ⟨RX3, "become", "(II)V"⟩
abbrev cX3_write : ByteArray := prog_5_method_4_code
def yX3_write : MethodName := ⟨RX3, "write", "(II)V"⟩
def RX4 : String := "HatsInRing$Text"
def TX4 : u_T := fun k => match k with
  | 0 => ("HatsInRing$Text", "stack", "[I", true)
  | 1 => ("HatsInRing$Text", "steps", "[I", true)
  | 2 => ("HatsInRing$Text", "ends", "[I", true)
  | _ => ("HatsInRing$Text", "size", "I", false)
def tyX4 : Nat → FieldType := fun k => match k with
  | 0 => .array .int
  | 1 => .array .int
  | 2 => .array .int
  | _ => .int
abbrev wsX40 : List Cond := u_ws RX4 TX4 4
theorem nmX4 : ∀ a, a < 4 → ∀ b, b < 4 → a ≠ b → (TX4 a).2.1 ≠ (TX4 b).2.1 := by decide +kernel
theorem tyX4_ok : ∀ k, k < 4 → parseFieldDescriptor (TX4 k).2.2.1 = some (tyX4 k) := by decide +kernel
abbrev cX4_init : ByteArray := prog_6_method_1_code
def yX4_init : MethodName := ⟨RX4, "<init>", "([I)V"⟩
abbrev cX4_clear : ByteArray := prog_6_method_2_code
def yX4_clear : MethodName := ⟨RX4, "clear", "()V"⟩
abbrev cX4_write : ByteArray := prog_6_method_3_code
def yX4_write : MethodName := ⟨RX4, "write", "(I)V"⟩
abbrev cX4_endPart : ByteArray := prog_6_method_4_code
def yX4_endPart : MethodName := ⟨RX4, "endPart", "(I)V"⟩
abbrev cX4_says : ByteArray := prog_6_method_5_code
def yX4_says : MethodName := ⟨RX4, "says", "(ILHatsInRing$Ring;I)I"⟩
abbrev cX4_fact : ByteArray := prog_6_method_6_code
def yX4_fact : MethodName := ⟨RX4, "fact", "(ILHatsInRing$Ring;I)I"⟩
abbrev cX4_joined : ByteArray := prog_6_method_7_code
def yX4_joined : MethodName := ⟨RX4, "joined", "(III)I"⟩
def RX5 : String := "HatsInRing$Token"
def TX5 : u_T := fun k => match k with
  | _ => ("", "", "", false)
def tyX5 : Nat → FieldType := fun k => match k with
  | _ => .int
abbrev wsX50 : List Cond := u_ws RX5 TX5 0
theorem nmX5 : ∀ a, a < 0 → ∀ b, b < 0 → a ≠ b → (TX5 a).2.1 ≠ (TX5 b).2.1 := by decide +kernel
theorem tyX5_ok : ∀ k, k < 0 → parseFieldDescriptor (TX5 k).2.2.1 = some (tyX5 k) := by decide +kernel
abbrev cX5_isName : ByteArray := prog_7_method_2_code
def yX5_isName : MethodName := ⟨RX5, "isName", "(I)Z"⟩
abbrev cX5_ofSign : ByteArray := prog_7_method_3_code
def yX5_ofSign : MethodName := ⟨RX5, "ofSign", "(I)I"⟩
def RX6 : String := "HatsInRing"
def TX6 : u_T := fun k => match k with
  | 0 => ("HatsInRing", "texts", "[LHatsInRing$Text;", true)
  | 1 => ("HatsInRing", "ring", "LHatsInRing$Ring;", true)
  | 2 => ("HatsInRing", "thought", "LHatsInRing$Ring;", true)
  | 3 => ("HatsInRing", "kept", "LHatsInRing$Ring;", true)
  | 4 => ("HatsInRing", "reader", "LHatsInRing$Reader;", true)
  | 5 => ("HatsInRing", "tape", "[I", true)
  | 6 => ("HatsInRing", "sheets", "[LHatsInRing$Sheet;", true)
  | 7 => ("HatsInRing", "textCount", "I", false)
  | 8 => ("HatsInRing", "tapeSize", "I", false)
  | _ => ("HatsInRing", "hasImage", "Z", false)
def tyX6 : Nat → FieldType := fun k => match k with
  | 0 => .array (.object "HatsInRing$Text")
  | 1 => .object "HatsInRing$Ring"
  | 2 => .object "HatsInRing$Ring"
  | 3 => .object "HatsInRing$Ring"
  | 4 => .object "HatsInRing$Reader"
  | 5 => .array .int
  | 6 => .array (.object "HatsInRing$Sheet")
  | 7 => .int
  | 8 => .int
  | _ => .boolean
abbrev wsX60 : List Cond := u_ws RX6 TX6 10
theorem nmX6 : ∀ a, a < 10 → ∀ b, b < 10 → a ≠ b → (TX6 a).2.1 ≠ (TX6 b).2.1 := by decide +kernel
theorem tyX6_ok : ∀ k, k < 10 → parseFieldDescriptor (TX6 k).2.2.1 = some (tyX6 k) := by decide +kernel
abbrev cX6_init : ByteArray := prog_1_method_1_code
def yX6_init : MethodName := ⟨RX6, "<init>", "()V"⟩
abbrev cX6_count : ByteArray := prog_1_method_2_code
def yX6_count : MethodName := ⟨RX6, "count", "(I)I"⟩
abbrev cX6_feed : ByteArray := prog_1_method_3_code
def yX6_feed : MethodName := ⟨RX6, "feed", "(IIIIII)I"⟩
abbrev cX6_text : ByteArray := prog_1_method_4_code
def yX6_text : MethodName := ⟨RX6, "text", "()I"⟩
abbrev cX6_force : ByteArray := prog_1_method_5_code
def yX6_force : MethodName := ⟨RX6, "force", "(I)I"⟩
abbrev cX6_asks : ByteArray := prog_1_method_6_code
def yX6_asks : MethodName := ⟨RX6, "asks", "(II)I"⟩
abbrev cX6_hat : ByteArray := prog_1_method_7_code
def yX6_hat : MethodName := ⟨RX6, "hat", "(III)I"⟩
abbrev cX6_put : ByteArray := prog_1_method_8_code
def yX6_put : MethodName := ⟨RX6, "put", "(III)I"⟩
abbrev cX6_told : ByteArray := prog_1_method_9_code
def yX6_told : MethodName := ⟨RX6, "told", "(II)I"⟩
abbrev cX6_duel : ByteArray := prog_1_method_10_code
def yX6_duel : MethodName := ⟨RX6, "duel", "(III)I"⟩
abbrev cX6_round : ByteArray := prog_1_method_11_code
def yX6_round : MethodName := ⟨RX6, "round", "()I"⟩
abbrev cX6_bell : ByteArray := prog_1_method_12_code
def yX6_bell : MethodName := ⟨RX6, "bell", "(I)I"⟩
abbrev cX6_run : ByteArray := prog_1_method_13_code
def yX6_run : MethodName := ⟨RX6, "run", "(II)I"⟩
abbrev cX6_when : ByteArray := prog_1_method_14_code
def yX6_when : MethodName := ⟨RX6, "when", "(I)I"⟩
abbrev cX6_end : ByteArray := prog_1_method_15_code
def yX6_end : MethodName := ⟨RX6, "end", "(I)I"⟩
abbrev cX6_beaten : ByteArray := prog_1_method_16_code
def yX6_beaten : MethodName := ⟨RX6, "beaten", "(II)I"⟩
abbrev cX6_toss : ByteArray := prog_1_method_17_code
def yX6_toss : MethodName := ⟨RX6, "toss", "(III)I"⟩
abbrev cX6_rid : ByteArray := prog_1_method_18_code
def yX6_rid : MethodName := ⟨RX6, "rid", "(III)I"⟩
abbrev cX6_lasts : ByteArray := prog_1_method_19_code
def yX6_lasts : MethodName := ⟨RX6, "lasts", "(II)I"⟩
abbrev cX6_betting : ByteArray := prog_1_method_20_code
def yX6_betting : MethodName := ⟨RX6, "betting", "(II)J"⟩
abbrev cX6_judge : ByteArray := prog_1_method_21_code
def yX6_judge : MethodName := ⟨RX6, "judge", "(II)I"⟩
abbrev cX6_kinds : ByteArray := prog_1_method_22_code
def yX6_kinds : MethodName := ⟨RX6, "kinds", "(IIII)I"⟩
abbrev cX6_states : ByteArray := prog_1_method_23_code
def yX6_states : MethodName := ⟨RX6, "states", "(IIII)I"⟩
abbrev cX6_places : ByteArray := prog_1_method_24_code
def yX6_places : MethodName := ⟨RX6, "places", "(II)J"⟩
abbrev cX6_whose : ByteArray := prog_1_method_25_code
def yX6_whose : MethodName := ⟨RX6, "whose", "(I)I"⟩
abbrev cX6_laws : ByteArray := prog_1_method_26_code
def yX6_laws : MethodName := ⟨RX6, "laws", "(II)I"⟩
abbrev cX6_film : ByteArray := prog_1_method_27_code
def yX6_film : MethodName := ⟨RX6, "film", "(III)I"⟩
abbrev cX6_drawn : ByteArray := prog_1_method_28_code
def yX6_drawn : MethodName := ⟨RX6, "drawn", "(II)I"⟩
abbrev cX6_odds : ByteArray := prog_1_method_29_code
def yX6_odds : MethodName := ⟨RX6, "odds", "(IIII)J"⟩
abbrev cX6_image : ByteArray := prog_1_method_30_code
def yX6_image : MethodName := ⟨RX6, "image", "()I"⟩
abbrev cX6_back : ByteArray := prog_1_method_31_code
def yX6_back : MethodName := ⟨RX6, "back", "()I"⟩
abbrev cX6_sheet : ByteArray := prog_1_method_32_code
def yX6_sheet : MethodName := ⟨RX6, "sheet", "(III)I"⟩
abbrev cX6_cell : ByteArray := prog_1_method_33_code
def yX6_cell : MethodName := ⟨RX6, "cell", "(III)I"⟩
abbrev cX6_copy : ByteArray := prog_1_method_34_code
def yX6_copy : MethodName := ⟨RX6, "copy", "(IIIII)I"⟩
abbrev cX6_hatsBy : ByteArray := prog_1_method_35_code
def yX6_hatsBy : MethodName := ⟨RX6, "hatsBy", "(IIII)I"⟩
abbrev cX6_taken : ByteArray := prog_1_method_36_code
def yX6_taken : MethodName := ⟨RX6, "taken", "(II)I"⟩
abbrev cX6_within : ByteArray := prog_1_method_37_code
def yX6_within : MethodName := ⟨RX6, "within", "(III)Z"⟩
abbrev cX6_isByte : ByteArray := prog_1_method_38_code
def yX6_isByte : MethodName := ⟨RX6, "isByte", "(I)Z"⟩
abbrev cX6_isSheet : ByteArray := prog_1_method_39_code
def yX6_isSheet : MethodName := ⟨RX6, "isSheet", "(I)Z"⟩
abbrev cX6_isSort : ByteArray := prog_1_method_40_code
def yX6_isSort : MethodName := ⟨RX6, "isSort", "(I)Z"⟩
abbrev cX6_isHat : ByteArray := prog_1_method_41_code
def yX6_isHat : MethodName := ⟨RX6, "isHat", "(I)Z"⟩
abbrev cX6_lowestBit : ByteArray := prog_1_method_42_code
def yX6_lowestBit : MethodName := ⟨RX6, "lowestBit", "(I)I"⟩
abbrev cX6_lowestTerms : ByteArray := prog_1_method_43_code
def yX6_lowestTerms : MethodName := ⟨RX6, "lowestTerms", "(III)J"⟩
abbrev cX6_imagine : ByteArray := prog_1_method_44_code
def yX6_imagine : MethodName := ⟨RX6, "imagine", "()V"⟩
abbrev cX6_imagineDrawn : ByteArray := prog_1_method_45_code
def yX6_imagineDrawn : MethodName := ⟨RX6, "imagineDrawn", "(I)V"⟩
abbrev cX6_feltBehind : ByteArray := prog_1_method_46_code
def yX6_feltBehind : MethodName := ⟨RX6, "feltBehind", "(II)I"⟩
abbrev cX6_refusalOf : ByteArray := prog_1_method_47_code
def yX6_refusalOf : MethodName := ⟨RX6, "refusalOf", "(I)I"⟩
abbrev cX6_refusalOf_ : ByteArray := prog_1_method_48_code
def yX6_refusalOf_ : MethodName := ⟨RX6, "refusalOf", "(II)I"⟩
abbrev cX6_firstOtherwise : ByteArray := prog_1_method_49_code
def yX6_firstOtherwise : MethodName := ⟨RX6, "firstOtherwise", "(II)I"⟩
def RX7 : String := "HatsInRingModel"
def TX7 : u_T := fun k => match k with
  | 0 => ("HatsInRingModel", "hats", "I", false)
  | 1 => ("HatsInRingModel", "kind", "[I", true)
  | 2 => ("HatsInRingModel", "moreOf", "[I", true)
  | 3 => ("HatsInRingModel", "rows", "[I", true)
  | 4 => ("HatsInRingModel", "tallies", "[I", true)
  | 5 => ("HatsInRingModel", "rounds", "I", false)
  | 6 => ("HatsInRingModel", "tape", "[I", true)
  | 7 => ("HatsInRingModel", "taped", "I", false)
  | 8 => ("HatsInRingModel", "codes", "[I", true)
  | 9 => ("HatsInRingModel", "starts", "[I", true)
  | 10 => ("HatsInRingModel", "texts", "I", false)
  | 11 => ("HatsInRingModel", "rule", "I", false)
  | 12 => ("HatsInRingModel", "hasImage", "Z", false)
  | 13 => ("HatsInRingModel", "imageRows", "[I", true)
  | 14 => ("HatsInRingModel", "imageHeld", "[I", true)
  | 15 => ("HatsInRingModel", "sheetSort", "[I", true)
  | 16 => ("HatsInRingModel", "sheetSize", "[I", true)
  | 17 => ("HatsInRingModel", "cells", "[I", true)
  | 18 => ("HatsInRingModel", "law", "[I", true)
  | 19 => ("HatsInRingModel", "at", "I", false)
  | 20 => ("HatsInRingModel", "begun", "I", false)
  | 21 => ("HatsInRingModel", "token", "I", false)
  | 22 => ("HatsInRingModel", "value", "I", false)
  | 23 => ("HatsInRingModel", "words", "[I", true)
  | 24 => ("HatsInRingModel", "held", "[I", true)
  | 25 => ("HatsInRingModel", "heldMany", "I", false)
  | 26 => ("HatsInRingModel", "opens", "I", false)
  | 27 => ("HatsInRingModel", "out", "I", false)
  | 28 => ("HatsInRingModel", "stack", "[I", true)
  | 29 => ("HatsInRingModel", "named", "[I", true)
  | 30 => ("HatsInRingModel", "kept", "[I", true)
  | _ => ("HatsInRingModel", "talliesThen", "I", false)
def tyX7 : Nat → FieldType := fun k => match k with
  | 0 => .int
  | 1 => .array .int
  | 2 => .array .int
  | 3 => .array .int
  | 4 => .array .int
  | 5 => .int
  | 6 => .array .int
  | 7 => .int
  | 8 => .array .int
  | 9 => .array .int
  | 10 => .int
  | 11 => .int
  | 12 => .boolean
  | 13 => .array .int
  | 14 => .array .int
  | 15 => .array .int
  | 16 => .array .int
  | 17 => .array .int
  | 18 => .array .int
  | 19 => .int
  | 20 => .int
  | 21 => .int
  | 22 => .int
  | 23 => .array .int
  | 24 => .array .int
  | 25 => .int
  | 26 => .int
  | 27 => .int
  | 28 => .array .int
  | 29 => .array .int
  | 30 => .array .int
  | _ => .int
abbrev wsX70 : List Cond := u_ws RX7 TX7 32
theorem nmX7 : ∀ a, a < 32 → ∀ b, b < 32 → a ≠ b → (TX7 a).2.1 ≠ (TX7 b).2.1 := by decide +kernel
theorem tyX7_ok : ∀ k, k < 32 → parseFieldDescriptor (TX7 k).2.2.1 = some (tyX7 k) := by decide +kernel
abbrev cX7_init : ByteArray := prog_9_method_1_code
def yX7_init : MethodName := ⟨RX7, "<init>", "()V"⟩
abbrev cX7_in : ByteArray := prog_9_method_3_code
def yX7_in : MethodName := ⟨RX7, "in", "(III)Z"⟩
abbrev cX7_within : ByteArray := prog_9_method_4_code
def yX7_within : MethodName := ⟨RX7, "within", "(III)I"⟩
abbrev cX7_onesOf : ByteArray := prog_9_method_5_code
def yX7_onesOf : MethodName := ⟨RX7, "onesOf", "(I)I"⟩
abbrev cX7_isOne : ByteArray := prog_9_method_6_code
def yX7_isOne : MethodName := ⟨RX7, "isOne", "(I)Z"⟩
abbrev cX7_areTwo : ByteArray := prog_9_method_7_code
def yX7_areTwo : MethodName := ⟨RX7, "areTwo", "(II)Z"⟩
abbrev cX7_isUp : ByteArray := prog_9_method_8_code
def yX7_isUp : MethodName := ⟨RX7, "isUp", "(I)Z"⟩
abbrev cX7_upSet : ByteArray := prog_9_method_9_code
def yX7_upSet : MethodName := ⟨RX7, "upSet", "()I"⟩
abbrev cX7_talliesAll : ByteArray := prog_9_method_10_code
def yX7_talliesAll : MethodName := ⟨RX7, "talliesAll", "()I"⟩
abbrev cX7_count : ByteArray := prog_9_method_11_code
def yX7_count : MethodName := ⟨RX7, "count", "(I)I"⟩
abbrev cX7_isByte : ByteArray := prog_9_method_12_code
def yX7_isByte : MethodName := ⟨RX7, "isByte", "(I)Z"⟩
abbrev cX7_feed : ByteArray := prog_9_method_13_code
def yX7_feed : MethodName := ⟨RX7, "feed", "(IIIIII)I"⟩
abbrev cX7_wordFrom : ByteArray := prog_9_method_14_code
def yX7_wordFrom : MethodName := ⟨RX7, "wordFrom", "(II)I"⟩
abbrev cX7_next : ByteArray := prog_9_method_15_code
def yX7_next : MethodName := ⟨RX7, "next", "()V"⟩
abbrev cX7_rank : ByteArray := prog_9_method_16_code
def yX7_rank : MethodName := ⟨RX7, "rank", "(I)I"⟩
abbrev cX7_puts : ByteArray := prog_9_method_17_code
def yX7_puts : MethodName := ⟨RX7, "puts", "(I)V"⟩
abbrev cX7_unwinds : ByteArray := prog_9_method_18_code
def yX7_unwinds : MethodName := ⟨RX7, "unwinds", "(I)V"⟩
abbrev cX7_holds : ByteArray := prog_9_method_19_code
def yX7_holds : MethodName := ⟨RX7, "holds", "(I)V"⟩
abbrev cX7_opensOne : ByteArray := prog_9_method_20_code
def yX7_opensOne : MethodName := ⟨RX7, "opensOne", "(I)Z"⟩
abbrev cX7_between : ByteArray := prog_9_method_21_code
def yX7_between : MethodName := ⟨RX7, "between", "(I)Z"⟩
abbrev cX7_signOf : ByteArray := prog_9_method_22_code
def yX7_signOf : MethodName := ⟨RX7, "signOf", "()I"⟩
abbrev cX7_eRead : ByteArray := prog_9_method_23_code
def yX7_eRead : MethodName := ⟨RX7, "eRead", "()Z"⟩
abbrev cX7_text : ByteArray := prog_9_method_24_code
def yX7_text : MethodName := ⟨RX7, "text", "()I"⟩
abbrev cX7_two : ByteArray := prog_9_method_25_code
def yX7_two : MethodName := ⟨RX7, "two", "(III)I"⟩
abbrev cX7_says : ByteArray := prog_9_method_26_code
def yX7_says : MethodName := ⟨RX7, "says", "(I)I"⟩
abbrev cX7_force : ByteArray := prog_9_method_27_code
def yX7_force : MethodName := ⟨RX7, "force", "(I)I"⟩
abbrev cX7_asksOf : ByteArray := prog_9_method_28_code
def yX7_asksOf : MethodName := ⟨RX7, "asksOf", "(II)I"⟩
abbrev cX7_asks : ByteArray := prog_9_method_29_code
def yX7_asks : MethodName := ⟨RX7, "asks", "(II)I"⟩
abbrev cX7_hat : ByteArray := prog_9_method_30_code
def yX7_hat : MethodName := ⟨RX7, "hat", "(III)I"⟩
abbrev cX7_put : ByteArray := prog_9_method_31_code
def yX7_put : MethodName := ⟨RX7, "put", "(III)I"⟩
abbrev cX7_goes : ByteArray := prog_9_method_32_code
def yX7_goes : MethodName := ⟨RX7, "goes", "(I)Z"⟩
abbrev cX7_hitsOf : ByteArray := prog_9_method_33_code
def yX7_hitsOf : MethodName := ⟨RX7, "hitsOf", "(II)I"⟩
abbrev cX7_softOf : ByteArray := prog_9_method_34_code
def yX7_softOf : MethodName := ⟨RX7, "softOf", "(I)I"⟩
abbrev cX7_blowOf : ByteArray := prog_9_method_35_code
def yX7_blowOf : MethodName := ⟨RX7, "blowOf", "(II)I"⟩
abbrev cX7_farOf : ByteArray := prog_9_method_36_code
def yX7_farOf : MethodName := ⟨RX7, "farOf", "(II)I"⟩
abbrev cX7_nearestOf : ByteArray := prog_9_method_37_code
def yX7_nearestOf : MethodName := ⟨RX7, "nearestOf", "(I)I"⟩
abbrev cX7_told : ByteArray := prog_9_method_38_code
def yX7_told : MethodName := ⟨RX7, "told", "(II)I"⟩
abbrev cX7_duel : ByteArray := prog_9_method_39_code
def yX7_duel : MethodName := ⟨RX7, "duel", "(III)I"⟩
abbrev cX7_steps : ByteArray := prog_9_method_40_code
def yX7_steps : MethodName := ⟨RX7, "steps", "(II)V"⟩
abbrev cX7_hitBy : ByteArray := prog_9_method_41_code
def yX7_hitBy : MethodName := ⟨RX7, "hitBy", "(II)Z"⟩
abbrev cX7_roundOf : ByteArray := prog_9_method_42_code
def yX7_roundOf : MethodName := ⟨RX7, "roundOf", "()I"⟩
abbrev cX7_round : ByteArray := prog_9_method_43_code
def yX7_round : MethodName := ⟨RX7, "round", "()I"⟩
abbrev cX7_bell : ByteArray := prog_9_method_44_code
def yX7_bell : MethodName := ⟨RX7, "bell", "(I)I"⟩
abbrev cX7_keeps : ByteArray := prog_9_method_45_code
def yX7_keeps : MethodName := ⟨RX7, "keeps", "()V"⟩
abbrev cX7_lays : ByteArray := prog_9_method_46_code
def yX7_lays : MethodName := ⟨RX7, "lays", "()V"⟩
abbrev cX7_passes : ByteArray := prog_9_method_47_code
def yX7_passes : MethodName := ⟨RX7, "passes", "(I)V"⟩
abbrev cX7_run : ByteArray := prog_9_method_48_code
def yX7_run : MethodName := ⟨RX7, "run", "(II)I"⟩
abbrev cX7_when : ByteArray := prog_9_method_49_code
def yX7_when : MethodName := ⟨RX7, "when", "(I)I"⟩
abbrev cX7_mostFelt : ByteArray := prog_9_method_50_code
def yX7_mostFelt : MethodName := ⟨RX7, "mostFelt", "()I"⟩
abbrev cX7_end : ByteArray := prog_9_method_51_code
def yX7_end : MethodName := ⟨RX7, "end", "(I)I"⟩
abbrev cX7_beaten : ByteArray := prog_9_method_52_code
def yX7_beaten : MethodName := ⟨RX7, "beaten", "(II)I"⟩
abbrev cX7_feltBehind : ByteArray := prog_9_method_53_code
def yX7_feltBehind : MethodName := ⟨RX7, "feltBehind", "(II)I"⟩
abbrev cX7_toss : ByteArray := prog_9_method_54_code
def yX7_toss : MethodName := ⟨RX7, "toss", "(III)I"⟩
abbrev cX7_rid : ByteArray := prog_9_method_55_code
def yX7_rid : MethodName := ⟨RX7, "rid", "(III)I"⟩
abbrev cX7_lasts : ByteArray := prog_9_method_56_code
def yX7_lasts : MethodName := ⟨RX7, "lasts", "(II)I"⟩
abbrev cX7_lowest : ByteArray := prog_9_method_57_code
def yX7_lowest : MethodName := ⟨RX7, "lowest", "(JJI)J"⟩
abbrev cX7_betting : ByteArray := prog_9_method_58_code
def yX7_betting : MethodName := ⟨RX7, "betting", "(II)J"⟩
abbrev cX7_sheetWrong : ByteArray := prog_9_method_59_code
def yX7_sheetWrong : MethodName := ⟨RX7, "sheetWrong", "(I)I"⟩
abbrev cX7_toldWrong : ByteArray := prog_9_method_60_code
def yX7_toldWrong : MethodName := ⟨RX7, "toldWrong", "(II)I"⟩
abbrev cX7_unlike : ByteArray := prog_9_method_61_code
def yX7_unlike : MethodName := ⟨RX7, "unlike", "(II)I"⟩
abbrev cX7_judge : ByteArray := prog_9_method_62_code
def yX7_judge : MethodName := ⟨RX7, "judge", "(II)I"⟩
abbrev cX7_kinds : ByteArray := prog_9_method_63_code
def yX7_kinds : MethodName := ⟨RX7, "kinds", "(IIII)I"⟩
abbrev cX7_states : ByteArray := prog_9_method_64_code
def yX7_states : MethodName := ⟨RX7, "states", "(IIII)I"⟩
abbrev cX7_places : ByteArray := prog_9_method_65_code
def yX7_places : MethodName := ⟨RX7, "places", "(II)J"⟩
abbrev cX7_whose : ByteArray := prog_9_method_66_code
def yX7_whose : MethodName := ⟨RX7, "whose", "(I)I"⟩
abbrev cX7_laws : ByteArray := prog_9_method_67_code
def yX7_laws : MethodName := ⟨RX7, "laws", "(II)I"⟩
abbrev cX7_film : ByteArray := prog_9_method_68_code
def yX7_film : MethodName := ⟨RX7, "film", "(III)I"⟩
abbrev cX7_lotRing : ByteArray := prog_9_method_69_code
def yX7_lotRing : MethodName := ⟨RX7, "lotRing", "(I)I"⟩
abbrev cX7_drawn : ByteArray := prog_9_method_70_code
def yX7_drawn : MethodName := ⟨RX7, "drawn", "(II)I"⟩
abbrev cX7_odds : ByteArray := prog_9_method_71_code
def yX7_odds : MethodName := ⟨RX7, "odds", "(IIII)J"⟩
abbrev cX7_image : ByteArray := prog_9_method_72_code
def yX7_image : MethodName := ⟨RX7, "image", "()I"⟩
abbrev cX7_back : ByteArray := prog_9_method_73_code
def yX7_back : MethodName := ⟨RX7, "back", "()I"⟩
abbrev cX7_sheet : ByteArray := prog_9_method_74_code
def yX7_sheet : MethodName := ⟨RX7, "sheet", "(III)I"⟩
abbrev cX7_cell : ByteArray := prog_9_method_75_code
def yX7_cell : MethodName := ⟨RX7, "cell", "(III)I"⟩
abbrev cX7_copy : ByteArray := prog_9_method_76_code
def yX7_copy : MethodName := ⟨RX7, "copy", "(IIIII)I"⟩
abbrev cX7_hatsBy : ByteArray := prog_9_method_77_code
def yX7_hatsBy : MethodName := ⟨RX7, "hatsBy", "(IIII)I"⟩
abbrev cX7_isUnder : ByteArray := prog_9_method_78_code
def yX7_isUnder : MethodName := ⟨RX7, "isUnder", "(II)Z"⟩
abbrev cX7_taken : ByteArray := prog_9_method_79_code
def yX7_taken : MethodName := ⟨RX7, "taken", "(II)I"⟩
def RJx145de : String := "java/io/Serializable"
def TJx145de : u_T := fun k => match k with
  | _ => ("", "", "", false)
def tyJx145de : Nat → FieldType := fun k => match k with
  | _ => .int
abbrev wsJx145de0 : List Cond := u_ws RJx145de TJx145de 0
theorem nmJx145de : ∀ a, a < 0 → ∀ b, b < 0 → a ≠ b → (TJx145de a).2.1 ≠ (TJx145de b).2.1 := by decide +kernel
theorem tyJx145de_ok : ∀ k, k < 0 → parseFieldDescriptor (TJx145de k).2.2.1 = some (tyJx145de k) := by decide +kernel
def RJx9f9b0 : String := "java/lang/CharSequence"
def TJx9f9b0 : u_T := fun k => match k with
  | _ => ("", "", "", false)
def tyJx9f9b0 : Nat → FieldType := fun k => match k with
  | _ => .int
abbrev wsJx9f9b00 : List Cond := u_ws RJx9f9b0 TJx9f9b0 0
theorem nmJx9f9b0 : ∀ a, a < 0 → ∀ b, b < 0 → a ≠ b → (TJx9f9b0 a).2.1 ≠ (TJx9f9b0 b).2.1 := by decide +kernel
theorem tyJx9f9b0_ok : ∀ k, k < 0 → parseFieldDescriptor (TJx9f9b0 k).2.2.1 = some (tyJx9f9b0 k) := by decide +kernel
def RJxb160c : String := "java/lang/Comparable"
def TJxb160c : u_T := fun k => match k with
  | _ => ("", "", "", false)
def tyJxb160c : Nat → FieldType := fun k => match k with
  | _ => .int
abbrev wsJxb160c0 : List Cond := u_ws RJxb160c TJxb160c 0
theorem nmJxb160c : ∀ a, a < 0 → ∀ b, b < 0 → a ≠ b → (TJxb160c a).2.1 ≠ (TJxb160c b).2.1 := by decide +kernel
theorem tyJxb160c_ok : ∀ k, k < 0 → parseFieldDescriptor (TJxb160c k).2.2.1 = some (tyJxb160c k) := by decide +kernel
def RJ6 : String := "java/lang/Integer"
def TJ6 : u_T := fun k => match k with
  | _ => ("", "", "", false)
def tyJ6 : Nat → FieldType := fun k => match k with
  | _ => .int
abbrev wsJ60 : List Cond := u_ws RJ6 TJ6 0
theorem nmJ6 : ∀ a, a < 0 → ∀ b, b < 0 → a ≠ b → (TJ6 a).2.1 ≠ (TJ6 b).2.1 := by decide +kernel
theorem tyJ6_ok : ∀ k, k < 0 → parseFieldDescriptor (TJ6 k).2.2.1 = some (tyJ6 k) := by decide +kernel
abbrev cJ6_bitCount_0f7a4 : ByteArray := prog_10_method_49_code
def yJ6_bitCount_0f7a4 : MethodName := ⟨RJ6, "bitCount", "(I)I"⟩
def RJ9 : String := "java/lang/Math"
def TJ9 : u_T := fun k => match k with
  | _ => ("", "", "", false)
def tyJ9 : Nat → FieldType := fun k => match k with
  | _ => .int
abbrev wsJ90 : List Cond := u_ws RJ9 TJ9 0
theorem nmJ9 : ∀ a, a < 0 → ∀ b, b < 0 → a ≠ b → (TJ9 a).2.1 ≠ (TJ9 b).2.1 := by decide +kernel
theorem tyJ9_ok : ∀ k, k < 0 → parseFieldDescriptor (TJ9 k).2.2.1 = some (tyJ9 k) := by decide +kernel
abbrev cJ9_abs_0f7a4 : ByteArray := prog_11_method_59_code
def yJ9_abs_0f7a4 : MethodName := ⟨RJ9, "abs", "(I)I"⟩
abbrev cJ9_max_7cf53 : ByteArray := prog_11_method_65_code
def yJ9_max_7cf53 : MethodName := ⟨RJ9, "max", "(II)I"⟩
abbrev cJ9_min_7cf53 : ByteArray := prog_11_method_69_code
def yJ9_min_7cf53 : MethodName := ⟨RJ9, "min", "(II)I"⟩
def RJ0 : String := "java/lang/String"
def TJ0 : u_T := fun k => match k with
  | _ => ("", "", "", false)
def tyJ0 : Nat → FieldType := fun k => match k with
  | _ => .int
abbrev wsJ00 : List Cond := u_ws RJ0 TJ0 0
theorem nmJ0 : ∀ a, a < 0 → ∀ b, b < 0 → a ≠ b → (TJ0 a).2.1 ≠ (TJ0 b).2.1 := by decide +kernel
theorem tyJ0_ok : ∀ k, k < 0 → parseFieldDescriptor (TJ0 k).2.2.1 = some (tyJ0 k) := by decide +kernel
abbrev cJ0_length_8abf5 : ByteArray := prog_12_method_54_code
def yJ0_length_8abf5 : MethodName := ⟨RJ0, "length", "()I"⟩
abbrev cJ0_charAt_5068e : ByteArray := prog_12_method_56_code
def yJ0_charAt_5068e : MethodName := ⟨RJ0, "charAt", "(I)C"⟩
abbrev cJ0_coder_7d493 : ByteArray := prog_12_method_152_code
def yJ0_coder_7d493 : MethodName := ⟨RJ0, "coder", "()B"⟩
abbrev cJ0_isLatin1_aae02 : ByteArray := prog_12_method_154_code
def yJ0_isLatin1_aae02 : MethodName := ⟨RJ0, "isLatin1", "()Z"⟩
abbrev cJ0_checkIndex_df160 : ByteArray := prog_12_method_155_code
def yJ0_checkIndex_df160 : MethodName := ⟨RJ0, "checkIndex", "(II)V"⟩
def RJ1 : String := "java/lang/StringLatin1"
def TJ1 : u_T := fun k => match k with
  | _ => ("", "", "", false)
def tyJ1 : Nat → FieldType := fun k => match k with
  | _ => .int
abbrev wsJ10 : List Cond := u_ws RJ1 TJ1 0
theorem nmJ1 : ∀ a, a < 0 → ∀ b, b < 0 → a ≠ b → (TJ1 a).2.1 ≠ (TJ1 b).2.1 := by decide +kernel
theorem tyJ1_ok : ∀ k, k < 0 → parseFieldDescriptor (TJ1 k).2.2.1 = some (tyJ1 k) := by decide +kernel
abbrev cJ1_charAt_3b067 : ByteArray := prog_13_method_2_code
def yJ1_charAt_3b067 : MethodName := ⟨RJ1, "charAt", "([BI)C"⟩
def RJ2 : String := "java/lang/StringUTF16"
def TJ2 : u_T := fun k => match k with
  | _ => ("", "", "", false)
def tyJ2 : Nat → FieldType := fun k => match k with
  | _ => .int
abbrev wsJ20 : List Cond := u_ws RJ2 TJ2 0
theorem nmJ2 : ∀ a, a < 0 → ∀ b, b < 0 → a ≠ b → (TJ2 a).2.1 ≠ (TJ2 b).2.1 := by decide +kernel
theorem tyJ2_ok : ∀ k, k < 0 → parseFieldDescriptor (TJ2 k).2.2.1 = some (tyJ2 k) := by decide +kernel
abbrev cJ2_getChar_3b067 : ByteArray := prog_14_method_5_code
def yJ2_getChar_3b067 : MethodName := ⟨RJ2, "getChar", "([BI)C"⟩
abbrev cJ2_length_9d52b : ByteArray := prog_14_method_6_code
def yJ2_length_9d52b : MethodName := ⟨RJ2, "length", "([B)I"⟩
abbrev cJ2_charAt_3b067 : ByteArray := prog_14_method_83_code
def yJ2_charAt_3b067 : MethodName := ⟨RJ2, "charAt", "([BI)C"⟩
abbrev cJ2_checkIndex_2214a : ByteArray := prog_14_method_91_code
def yJ2_checkIndex_2214a : MethodName := ⟨RJ2, "checkIndex", "(I[B)V"⟩
def RJ10 : String := "java/lang/System"
def TJ10 : u_T := fun k => match k with
  | _ => ("", "", "", false)
def tyJ10 : Nat → FieldType := fun k => match k with
  | _ => .int
abbrev wsJ100 : List Cond := u_ws RJ10 TJ10 0
theorem nmJ10 : ∀ a, a < 0 → ∀ b, b < 0 → a ≠ b → (TJ10 a).2.1 ≠ (TJ10 b).2.1 := by decide +kernel
theorem tyJ10_ok : ∀ k, k < 0 → parseFieldDescriptor (TJ10 k).2.2.1 = some (tyJ10 k) := by decide +kernel
def RJxfd54e : String := "java/lang/constant/Constable"
def TJxfd54e : u_T := fun k => match k with
  | _ => ("", "", "", false)
def tyJxfd54e : Nat → FieldType := fun k => match k with
  | _ => .int
abbrev wsJxfd54e0 : List Cond := u_ws RJxfd54e TJxfd54e 0
theorem nmJxfd54e : ∀ a, a < 0 → ∀ b, b < 0 → a ≠ b → (TJxfd54e a).2.1 ≠ (TJxfd54e b).2.1 := by decide +kernel
theorem tyJxfd54e_ok : ∀ k, k < 0 → parseFieldDescriptor (TJxfd54e k).2.2.1 = some (tyJxfd54e k) := by decide +kernel
def RJx3cf43 : String := "java/lang/constant/ConstantDesc"
def TJx3cf43 : u_T := fun k => match k with
  | _ => ("", "", "", false)
def tyJx3cf43 : Nat → FieldType := fun k => match k with
  | _ => .int
abbrev wsJx3cf430 : List Cond := u_ws RJx3cf43 TJx3cf43 0
theorem nmJx3cf43 : ∀ a, a < 0 → ∀ b, b < 0 → a ≠ b → (TJx3cf43 a).2.1 ≠ (TJx3cf43 b).2.1 := by decide +kernel
theorem tyJx3cf43_ok : ∀ k, k < 0 → parseFieldDescriptor (TJx3cf43 k).2.2.1 = some (tyJx3cf43 k) := by decide +kernel
def RJ7 : String := "java/util/Arrays"
def TJ7 : u_T := fun k => match k with
  | _ => ("", "", "", false)
def tyJ7 : Nat → FieldType := fun k => match k with
  | _ => .int
abbrev wsJ70 : List Cond := u_ws RJ7 TJ7 0
theorem nmJ7 : ∀ a, a < 0 → ∀ b, b < 0 → a ≠ b → (TJ7 a).2.1 ≠ (TJ7 b).2.1 := by decide +kernel
theorem tyJ7_ok : ∀ k, k < 0 → parseFieldDescriptor (TJ7 k).2.2.1 = some (tyJ7 k) := by decide +kernel
abbrev cJ7_fill_53178 : ByteArray := prog_16_method_103_code
def yJ7_fill_53178 : MethodName := ⟨RJ7, "fill", "([II)V"⟩
def RJ3 : String := "jdk/internal/util/Preconditions"
def TJ3 : u_T := fun k => match k with
  | _ => ("", "", "", false)
def tyJ3 : Nat → FieldType := fun k => match k with
  | _ => .int
abbrev wsJ30 : List Cond := u_ws RJ3 TJ3 0
theorem nmJ3 : ∀ a, a < 0 → ∀ b, b < 0 → a ≠ b → (TJ3 a).2.1 ≠ (TJ3 b).2.1 := by decide +kernel
theorem tyJ3_ok : ∀ k, k < 0 → parseFieldDescriptor (TJ3 k).2.2.1 = some (tyJ3 k) := by decide +kernel
abbrev cJ3_checkIndex_8e157 : ByteArray := prog_17_method_11_code
def yJ3_checkIndex_8e157 : MethodName := ⟨RJ3, "checkIndex", "(IILjava/util/function/BiFunction;)I"⟩
def RL : String := "HatsInRingLaw"
abbrev cL_law : ByteArray := code
def yL_law : MethodName := ⟨RL, "law", "([I)Z"⟩
abbrev vwCl : List vw_C := [(RX1, TX1, 7), (RX2, TX2, 11), (RX3, TX3, 3), (RX4, TX4, 4), (RX6, TX6, 10), (RX7, TX7, 32)]
