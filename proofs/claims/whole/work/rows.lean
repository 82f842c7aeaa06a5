section
-- ===== PART A: goes FIRST, ahead of the names: the tables' words, and 'selects' of the private methods out of them =====
/-- a private method of a class that the tables say can be made, by its rows of tables_1 -/
def lw_okq (q : MethodName × Nat) : Prop := (q.1.cls ≠ "java/lang/invoke/MethodHandle" ∧ q.1.cls ≠ "java/lang/invoke/VarHandle") ∧ Cond.instantiable q.1.cls q.2 ∈ tables_1 ∧ Cond.privateMethod q.1 ∈ tables_1 ∧ Cond.instanceMethod q.1 ∈ tables_1
theorem lw_p0 : lw_okq (⟨"HatsInRing$Reader", "next", "()V"⟩, 7) := ⟨⟨by decide +kernel, by decide +kernel⟩, List.mem_of_getElem? (i := 84) (by decide +kernel), List.mem_of_getElem? (i := 210) (by decide +kernel), List.mem_of_getElem? (i := 211) (by decide +kernel)⟩
theorem lw_p1 : lw_okq (⟨"HatsInRing$Reader", "nextWord", "()I"⟩, 7) := ⟨⟨by decide +kernel, by decide +kernel⟩, List.mem_of_getElem? (i := 84) (by decide +kernel), List.mem_of_getElem? (i := 217) (by decide +kernel), List.mem_of_getElem? (i := 218) (by decide +kernel)⟩
theorem lw_p2 : lw_okq (⟨"HatsInRing$Reader", "spells", "(Ljava/lang/String;)Z"⟩, 7) := ⟨⟨by decide +kernel, by decide +kernel⟩, List.mem_of_getElem? (i := 84) (by decide +kernel), List.mem_of_getElem? (i := 222) (by decide +kernel), List.mem_of_getElem? (i := 223) (by decide +kernel)⟩
theorem lw_p3 : lw_okq (⟨"HatsInRing$Reader", "nextNumber", "()I"⟩, 7) := ⟨⟨by decide +kernel, by decide +kernel⟩, List.mem_of_getElem? (i := 84) (by decide +kernel), List.mem_of_getElem? (i := 242) (by decide +kernel), List.mem_of_getElem? (i := 243) (by decide +kernel)⟩
theorem lw_p4 : lw_okq (⟨"HatsInRing$Reader", "expect", "(I)V"⟩, 7) := ⟨⟨by decide +kernel, by decide +kernel⟩, List.mem_of_getElem? (i := 84) (by decide +kernel), List.mem_of_getElem? (i := 249) (by decide +kernel), List.mem_of_getElem? (i := 250) (by decide +kernel)⟩
theorem lw_p5 : lw_okq (⟨"HatsInRing$Reader", "refuse", "()V"⟩, 7) := ⟨⟨by decide +kernel, by decide +kernel⟩, List.mem_of_getElem? (i := 84) (by decide +kernel), List.mem_of_getElem? (i := 253) (by decide +kernel), List.mem_of_getElem? (i := 254) (by decide +kernel)⟩
theorem lw_p6 : lw_okq (⟨"HatsInRing$Reader", "readE", "(I)V"⟩, 7) := ⟨⟨by decide +kernel, by decide +kernel⟩, List.mem_of_getElem? (i := 84) (by decide +kernel), List.mem_of_getElem? (i := 257) (by decide +kernel), List.mem_of_getElem? (i := 258) (by decide +kernel)⟩
theorem lw_p7 : lw_okq (⟨"HatsInRing$Reader", "readAnd", "(I)V"⟩, 7) := ⟨⟨by decide +kernel, by decide +kernel⟩, List.mem_of_getElem? (i := 84) (by decide +kernel), List.mem_of_getElem? (i := 261) (by decide +kernel), List.mem_of_getElem? (i := 262) (by decide +kernel)⟩
theorem lw_p8 : lw_okq (⟨"HatsInRing$Reader", "readNot", "(I)V"⟩, 7) := ⟨⟨by decide +kernel, by decide +kernel⟩, List.mem_of_getElem? (i := 84) (by decide +kernel), List.mem_of_getElem? (i := 265) (by decide +kernel), List.mem_of_getElem? (i := 266) (by decide +kernel)⟩
theorem lw_p9 : lw_okq (⟨"HatsInRing$Reader", "readSum", "(I)V"⟩, 7) := ⟨⟨by decide +kernel, by decide +kernel⟩, List.mem_of_getElem? (i := 84) (by decide +kernel), List.mem_of_getElem? (i := 273) (by decide +kernel), List.mem_of_getElem? (i := 274) (by decide +kernel)⟩
theorem lw_p10 : lw_okq (⟨"HatsInRing$Reader", "readTerm", "(I)V"⟩, 7) := ⟨⟨by decide +kernel, by decide +kernel⟩, List.mem_of_getElem? (i := 84) (by decide +kernel), List.mem_of_getElem? (i := 277) (by decide +kernel), List.mem_of_getElem? (i := 278) (by decide +kernel)⟩
theorem lw_p11 : lw_okq (⟨"HatsInRing$Reader", "readOne", "(I)V"⟩, 7) := ⟨⟨by decide +kernel, by decide +kernel⟩, List.mem_of_getElem? (i := 84) (by decide +kernel), List.mem_of_getElem? (i := 281) (by decide +kernel), List.mem_of_getElem? (i := 282) (by decide +kernel)⟩
theorem lw_p12 : lw_okq (⟨"HatsInRing", "isHat", "(I)Z"⟩, 10) := ⟨⟨by decide +kernel, by decide +kernel⟩, List.mem_of_getElem? (i := 18) (by decide +kernel), List.mem_of_getElem? (i := 354) (by decide +kernel), List.mem_of_getElem? (i := 355) (by decide +kernel)⟩
theorem lw_p13 : lw_okq (⟨"HatsInRing$Ring", "step", "(II)V"⟩, 11) := ⟨⟨by decide +kernel, by decide +kernel⟩, List.mem_of_getElem? (i := 28) (by decide +kernel), List.mem_of_getElem? (i := 447) (by decide +kernel), List.mem_of_getElem? (i := 448) (by decide +kernel)⟩
theorem lw_p14 : lw_okq (⟨"HatsInRing$Ring", "land", "(III)V"⟩, 11) := ⟨⟨by decide +kernel, by decide +kernel⟩, List.mem_of_getElem? (i := 28) (by decide +kernel), List.mem_of_getElem? (i := 454) (by decide +kernel), List.mem_of_getElem? (i := 455) (by decide +kernel)⟩
theorem lw_p15 : lw_okq (⟨"HatsInRing", "imagine", "()V"⟩, 10) := ⟨⟨by decide +kernel, by decide +kernel⟩, List.mem_of_getElem? (i := 18) (by decide +kernel), List.mem_of_getElem? (i := 466) (by decide +kernel), List.mem_of_getElem? (i := 467) (by decide +kernel)⟩
def lw_privs_1 : List (MethodName × Nat) := [(⟨"HatsInRing$Reader", "next", "()V"⟩, 7), (⟨"HatsInRing$Reader", "nextWord", "()I"⟩, 7), (⟨"HatsInRing$Reader", "spells", "(Ljava/lang/String;)Z"⟩, 7), (⟨"HatsInRing$Reader", "nextNumber", "()I"⟩, 7), (⟨"HatsInRing$Reader", "expect", "(I)V"⟩, 7), (⟨"HatsInRing$Reader", "refuse", "()V"⟩, 7), (⟨"HatsInRing$Reader", "readE", "(I)V"⟩, 7), (⟨"HatsInRing$Reader", "readAnd", "(I)V"⟩, 7), (⟨"HatsInRing$Reader", "readNot", "(I)V"⟩, 7), (⟨"HatsInRing$Reader", "readSum", "(I)V"⟩, 7), (⟨"HatsInRing$Reader", "readTerm", "(I)V"⟩, 7), (⟨"HatsInRing$Reader", "readOne", "(I)V"⟩, 7), (⟨"HatsInRing", "isHat", "(I)Z"⟩, 10), (⟨"HatsInRing$Ring", "step", "(II)V"⟩, 11), (⟨"HatsInRing$Ring", "land", "(III)V"⟩, 11), (⟨"HatsInRing", "imagine", "()V"⟩, 10)]
theorem lw_r1 : ∀ q ∈ lw_privs_1, lw_okq q := List.forall_mem_cons.mpr ⟨lw_p0, List.forall_mem_cons.mpr ⟨lw_p1, List.forall_mem_cons.mpr ⟨lw_p2, List.forall_mem_cons.mpr ⟨lw_p3, List.forall_mem_cons.mpr ⟨lw_p4, List.forall_mem_cons.mpr ⟨lw_p5, List.forall_mem_cons.mpr ⟨lw_p6, List.forall_mem_cons.mpr ⟨lw_p7, List.forall_mem_cons.mpr ⟨lw_p8, List.forall_mem_cons.mpr ⟨lw_p9, List.forall_mem_cons.mpr ⟨lw_p10, List.forall_mem_cons.mpr ⟨lw_p11, List.forall_mem_cons.mpr ⟨lw_p12, List.forall_mem_cons.mpr ⟨lw_p13, List.forall_mem_cons.mpr ⟨lw_p14, List.forall_mem_cons.mpr ⟨lw_p15, fun _ h => absurd h List.not_mem_nil⟩⟩⟩⟩⟩⟩⟩⟩⟩⟩⟩⟩⟩⟩⟩⟩
theorem lw_p16 : lw_okq (⟨"HatsInRing", "feltBehind", "(II)I"⟩, 10) := ⟨⟨by decide +kernel, by decide +kernel⟩, List.mem_of_getElem? (i := 18) (by decide +kernel), List.mem_of_getElem? (i := 508) (by decide +kernel), List.mem_of_getElem? (i := 509) (by decide +kernel)⟩
theorem lw_p17 : lw_okq (⟨"HatsInRing", "refusalOf", "(II)I"⟩, 10) := ⟨⟨by decide +kernel, by decide +kernel⟩, List.mem_of_getElem? (i := 18) (by decide +kernel), List.mem_of_getElem? (i := 546) (by decide +kernel), List.mem_of_getElem? (i := 547) (by decide +kernel)⟩
theorem lw_p18 : lw_okq (⟨"HatsInRing", "refusalOf", "(I)I"⟩, 10) := ⟨⟨by decide +kernel, by decide +kernel⟩, List.mem_of_getElem? (i := 18) (by decide +kernel), List.mem_of_getElem? (i := 550) (by decide +kernel), List.mem_of_getElem? (i := 551) (by decide +kernel)⟩
theorem lw_p19 : lw_okq (⟨"HatsInRing", "firstOtherwise", "(II)I"⟩, 10) := ⟨⟨by decide +kernel, by decide +kernel⟩, List.mem_of_getElem? (i := 18) (by decide +kernel), List.mem_of_getElem? (i := 561) (by decide +kernel), List.mem_of_getElem? (i := 562) (by decide +kernel)⟩
theorem lw_p20 : lw_okq (⟨"HatsInRing", "imagineDrawn", "(I)V"⟩, 10) := ⟨⟨by decide +kernel, by decide +kernel⟩, List.mem_of_getElem? (i := 18) (by decide +kernel), List.mem_of_getElem? (i := 601) (by decide +kernel), List.mem_of_getElem? (i := 602) (by decide +kernel)⟩
theorem lw_p21 : lw_okq (⟨"HatsInRingModel", "next", "()V"⟩, 32) := ⟨⟨by decide +kernel, by decide +kernel⟩, List.mem_of_getElem? (i := 655) (by decide +kernel), List.mem_of_getElem? (i := 665) (by decide +kernel), List.mem_of_getElem? (i := 666) (by decide +kernel)⟩
theorem lw_p22 : lw_okq (⟨"HatsInRingModel", "wordFrom", "(II)I"⟩, 32) := ⟨⟨by decide +kernel, by decide +kernel⟩, List.mem_of_getElem? (i := 655) (by decide +kernel), List.mem_of_getElem? (i := 672) (by decide +kernel), List.mem_of_getElem? (i := 673) (by decide +kernel)⟩
theorem lw_p23 : lw_okq (⟨"HatsInRingModel", "eRead", "()Z"⟩, 32) := ⟨⟨by decide +kernel, by decide +kernel⟩, List.mem_of_getElem? (i := 655) (by decide +kernel), List.mem_of_getElem? (i := 676) (by decide +kernel), List.mem_of_getElem? (i := 677) (by decide +kernel)⟩
theorem lw_p24 : lw_okq (⟨"HatsInRingModel", "puts", "(I)V"⟩, 32) := ⟨⟨by decide +kernel, by decide +kernel⟩, List.mem_of_getElem? (i := 655) (by decide +kernel), List.mem_of_getElem? (i := 681) (by decide +kernel), List.mem_of_getElem? (i := 682) (by decide +kernel)⟩
theorem lw_p25 : lw_okq (⟨"HatsInRingModel", "unwinds", "(I)V"⟩, 32) := ⟨⟨by decide +kernel, by decide +kernel⟩, List.mem_of_getElem? (i := 655) (by decide +kernel), List.mem_of_getElem? (i := 685) (by decide +kernel), List.mem_of_getElem? (i := 686) (by decide +kernel)⟩
theorem lw_p26 : lw_okq (⟨"HatsInRingModel", "opensOne", "(I)Z"⟩, 32) := ⟨⟨by decide +kernel, by decide +kernel⟩, List.mem_of_getElem? (i := 655) (by decide +kernel), List.mem_of_getElem? (i := 692) (by decide +kernel), List.mem_of_getElem? (i := 693) (by decide +kernel)⟩
theorem lw_p27 : lw_okq (⟨"HatsInRingModel", "holds", "(I)V"⟩, 32) := ⟨⟨by decide +kernel, by decide +kernel⟩, List.mem_of_getElem? (i := 655) (by decide +kernel), List.mem_of_getElem? (i := 696) (by decide +kernel), List.mem_of_getElem? (i := 697) (by decide +kernel)⟩
theorem lw_p28 : lw_okq (⟨"HatsInRingModel", "signOf", "()I"⟩, 32) := ⟨⟨by decide +kernel, by decide +kernel⟩, List.mem_of_getElem? (i := 655) (by decide +kernel), List.mem_of_getElem? (i := 700) (by decide +kernel), List.mem_of_getElem? (i := 701) (by decide +kernel)⟩
theorem lw_p29 : lw_okq (⟨"HatsInRingModel", "between", "(I)Z"⟩, 32) := ⟨⟨by decide +kernel, by decide +kernel⟩, List.mem_of_getElem? (i := 655) (by decide +kernel), List.mem_of_getElem? (i := 704) (by decide +kernel), List.mem_of_getElem? (i := 705) (by decide +kernel)⟩
theorem lw_p30 : lw_okq (⟨"HatsInRingModel", "upSet", "()I"⟩, 32) := ⟨⟨by decide +kernel, by decide +kernel⟩, List.mem_of_getElem? (i := 655) (by decide +kernel), List.mem_of_getElem? (i := 809) (by decide +kernel), List.mem_of_getElem? (i := 810) (by decide +kernel)⟩
theorem lw_p31 : lw_okq (⟨"HatsInRingModel", "isUp", "(I)Z"⟩, 32) := ⟨⟨by decide +kernel, by decide +kernel⟩, List.mem_of_getElem? (i := 655) (by decide +kernel), List.mem_of_getElem? (i := 813) (by decide +kernel), List.mem_of_getElem? (i := 814) (by decide +kernel)⟩
def lw_privs_2 : List (MethodName × Nat) := [(⟨"HatsInRing", "feltBehind", "(II)I"⟩, 10), (⟨"HatsInRing", "refusalOf", "(II)I"⟩, 10), (⟨"HatsInRing", "refusalOf", "(I)I"⟩, 10), (⟨"HatsInRing", "firstOtherwise", "(II)I"⟩, 10), (⟨"HatsInRing", "imagineDrawn", "(I)V"⟩, 10), (⟨"HatsInRingModel", "next", "()V"⟩, 32), (⟨"HatsInRingModel", "wordFrom", "(II)I"⟩, 32), (⟨"HatsInRingModel", "eRead", "()Z"⟩, 32), (⟨"HatsInRingModel", "puts", "(I)V"⟩, 32), (⟨"HatsInRingModel", "unwinds", "(I)V"⟩, 32), (⟨"HatsInRingModel", "opensOne", "(I)Z"⟩, 32), (⟨"HatsInRingModel", "holds", "(I)V"⟩, 32), (⟨"HatsInRingModel", "signOf", "()I"⟩, 32), (⟨"HatsInRingModel", "between", "(I)Z"⟩, 32), (⟨"HatsInRingModel", "upSet", "()I"⟩, 32), (⟨"HatsInRingModel", "isUp", "(I)Z"⟩, 32)]
theorem lw_r2 : ∀ q ∈ lw_privs_2, lw_okq q := List.forall_mem_cons.mpr ⟨lw_p16, List.forall_mem_cons.mpr ⟨lw_p17, List.forall_mem_cons.mpr ⟨lw_p18, List.forall_mem_cons.mpr ⟨lw_p19, List.forall_mem_cons.mpr ⟨lw_p20, List.forall_mem_cons.mpr ⟨lw_p21, List.forall_mem_cons.mpr ⟨lw_p22, List.forall_mem_cons.mpr ⟨lw_p23, List.forall_mem_cons.mpr ⟨lw_p24, List.forall_mem_cons.mpr ⟨lw_p25, List.forall_mem_cons.mpr ⟨lw_p26, List.forall_mem_cons.mpr ⟨lw_p27, List.forall_mem_cons.mpr ⟨lw_p28, List.forall_mem_cons.mpr ⟨lw_p29, List.forall_mem_cons.mpr ⟨lw_p30, List.forall_mem_cons.mpr ⟨lw_p31, fun _ h => absurd h List.not_mem_nil⟩⟩⟩⟩⟩⟩⟩⟩⟩⟩⟩⟩⟩⟩⟩⟩
theorem lw_p32 : lw_okq (⟨"HatsInRingModel", "isOne", "(I)Z"⟩, 32) := ⟨⟨by decide +kernel, by decide +kernel⟩, List.mem_of_getElem? (i := 655) (by decide +kernel), List.mem_of_getElem? (i := 836) (by decide +kernel), List.mem_of_getElem? (i := 837) (by decide +kernel)⟩
theorem lw_p33 : lw_okq (⟨"HatsInRingModel", "asksOf", "(II)I"⟩, 32) := ⟨⟨by decide +kernel, by decide +kernel⟩, List.mem_of_getElem? (i := 655) (by decide +kernel), List.mem_of_getElem? (i := 840) (by decide +kernel), List.mem_of_getElem? (i := 841) (by decide +kernel)⟩
theorem lw_p34 : lw_okq (⟨"HatsInRingModel", "says", "(I)I"⟩, 32) := ⟨⟨by decide +kernel, by decide +kernel⟩, List.mem_of_getElem? (i := 655) (by decide +kernel), List.mem_of_getElem? (i := 844) (by decide +kernel), List.mem_of_getElem? (i := 845) (by decide +kernel)⟩
theorem lw_p35 : lw_okq (⟨"HatsInRingModel", "goes", "(I)Z"⟩, 32) := ⟨⟨by decide +kernel, by decide +kernel⟩, List.mem_of_getElem? (i := 655) (by decide +kernel), List.mem_of_getElem? (i := 866) (by decide +kernel), List.mem_of_getElem? (i := 867) (by decide +kernel)⟩
theorem lw_p36 : lw_okq (⟨"HatsInRingModel", "nearestOf", "(I)I"⟩, 32) := ⟨⟨by decide +kernel, by decide +kernel⟩, List.mem_of_getElem? (i := 655) (by decide +kernel), List.mem_of_getElem? (i := 870) (by decide +kernel), List.mem_of_getElem? (i := 871) (by decide +kernel)⟩
theorem lw_p37 : lw_okq (⟨"HatsInRingModel", "farOf", "(II)I"⟩, 32) := ⟨⟨by decide +kernel, by decide +kernel⟩, List.mem_of_getElem? (i := 655) (by decide +kernel), List.mem_of_getElem? (i := 874) (by decide +kernel), List.mem_of_getElem? (i := 875) (by decide +kernel)⟩
theorem lw_p38 : lw_okq (⟨"HatsInRingModel", "softOf", "(I)I"⟩, 32) := ⟨⟨by decide +kernel, by decide +kernel⟩, List.mem_of_getElem? (i := 655) (by decide +kernel), List.mem_of_getElem? (i := 878) (by decide +kernel), List.mem_of_getElem? (i := 879) (by decide +kernel)⟩
theorem lw_p39 : lw_okq (⟨"HatsInRingModel", "areTwo", "(II)Z"⟩, 32) := ⟨⟨by decide +kernel, by decide +kernel⟩, List.mem_of_getElem? (i := 655) (by decide +kernel), List.mem_of_getElem? (i := 886) (by decide +kernel), List.mem_of_getElem? (i := 887) (by decide +kernel)⟩
theorem lw_p40 : lw_okq (⟨"HatsInRingModel", "hitsOf", "(II)I"⟩, 32) := ⟨⟨by decide +kernel, by decide +kernel⟩, List.mem_of_getElem? (i := 655) (by decide +kernel), List.mem_of_getElem? (i := 890) (by decide +kernel), List.mem_of_getElem? (i := 891) (by decide +kernel)⟩
theorem lw_p41 : lw_okq (⟨"HatsInRingModel", "blowOf", "(II)I"⟩, 32) := ⟨⟨by decide +kernel, by decide +kernel⟩, List.mem_of_getElem? (i := 655) (by decide +kernel), List.mem_of_getElem? (i := 894) (by decide +kernel), List.mem_of_getElem? (i := 895) (by decide +kernel)⟩
theorem lw_p42 : lw_okq (⟨"HatsInRingModel", "roundOf", "()I"⟩, 32) := ⟨⟨by decide +kernel, by decide +kernel⟩, List.mem_of_getElem? (i := 655) (by decide +kernel), List.mem_of_getElem? (i := 902) (by decide +kernel), List.mem_of_getElem? (i := 903) (by decide +kernel)⟩
theorem lw_p43 : lw_okq (⟨"HatsInRingModel", "steps", "(II)V"⟩, 32) := ⟨⟨by decide +kernel, by decide +kernel⟩, List.mem_of_getElem? (i := 655) (by decide +kernel), List.mem_of_getElem? (i := 906) (by decide +kernel), List.mem_of_getElem? (i := 907) (by decide +kernel)⟩
theorem lw_p44 : lw_okq (⟨"HatsInRingModel", "hitBy", "(II)Z"⟩, 32) := ⟨⟨by decide +kernel, by decide +kernel⟩, List.mem_of_getElem? (i := 655) (by decide +kernel), List.mem_of_getElem? (i := 910) (by decide +kernel), List.mem_of_getElem? (i := 911) (by decide +kernel)⟩
theorem lw_p45 : lw_okq (⟨"HatsInRingModel", "keeps", "()V"⟩, 32) := ⟨⟨by decide +kernel, by decide +kernel⟩, List.mem_of_getElem? (i := 655) (by decide +kernel), List.mem_of_getElem? (i := 922) (by decide +kernel), List.mem_of_getElem? (i := 923) (by decide +kernel)⟩
theorem lw_p46 : lw_okq (⟨"HatsInRingModel", "passes", "(I)V"⟩, 32) := ⟨⟨by decide +kernel, by decide +kernel⟩, List.mem_of_getElem? (i := 655) (by decide +kernel), List.mem_of_getElem? (i := 926) (by decide +kernel), List.mem_of_getElem? (i := 927) (by decide +kernel)⟩
theorem lw_p47 : lw_okq (⟨"HatsInRingModel", "talliesAll", "()I"⟩, 32) := ⟨⟨by decide +kernel, by decide +kernel⟩, List.mem_of_getElem? (i := 655) (by decide +kernel), List.mem_of_getElem? (i := 930) (by decide +kernel), List.mem_of_getElem? (i := 931) (by decide +kernel)⟩
def lw_privs_3 : List (MethodName × Nat) := [(⟨"HatsInRingModel", "isOne", "(I)Z"⟩, 32), (⟨"HatsInRingModel", "asksOf", "(II)I"⟩, 32), (⟨"HatsInRingModel", "says", "(I)I"⟩, 32), (⟨"HatsInRingModel", "goes", "(I)Z"⟩, 32), (⟨"HatsInRingModel", "nearestOf", "(I)I"⟩, 32), (⟨"HatsInRingModel", "farOf", "(II)I"⟩, 32), (⟨"HatsInRingModel", "softOf", "(I)I"⟩, 32), (⟨"HatsInRingModel", "areTwo", "(II)Z"⟩, 32), (⟨"HatsInRingModel", "hitsOf", "(II)I"⟩, 32), (⟨"HatsInRingModel", "blowOf", "(II)I"⟩, 32), (⟨"HatsInRingModel", "roundOf", "()I"⟩, 32), (⟨"HatsInRingModel", "steps", "(II)V"⟩, 32), (⟨"HatsInRingModel", "hitBy", "(II)Z"⟩, 32), (⟨"HatsInRingModel", "keeps", "()V"⟩, 32), (⟨"HatsInRingModel", "passes", "(I)V"⟩, 32), (⟨"HatsInRingModel", "talliesAll", "()I"⟩, 32)]
theorem lw_r3 : ∀ q ∈ lw_privs_3, lw_okq q := List.forall_mem_cons.mpr ⟨lw_p32, List.forall_mem_cons.mpr ⟨lw_p33, List.forall_mem_cons.mpr ⟨lw_p34, List.forall_mem_cons.mpr ⟨lw_p35, List.forall_mem_cons.mpr ⟨lw_p36, List.forall_mem_cons.mpr ⟨lw_p37, List.forall_mem_cons.mpr ⟨lw_p38, List.forall_mem_cons.mpr ⟨lw_p39, List.forall_mem_cons.mpr ⟨lw_p40, List.forall_mem_cons.mpr ⟨lw_p41, List.forall_mem_cons.mpr ⟨lw_p42, List.forall_mem_cons.mpr ⟨lw_p43, List.forall_mem_cons.mpr ⟨lw_p44, List.forall_mem_cons.mpr ⟨lw_p45, List.forall_mem_cons.mpr ⟨lw_p46, List.forall_mem_cons.mpr ⟨lw_p47, fun _ h => absurd h List.not_mem_nil⟩⟩⟩⟩⟩⟩⟩⟩⟩⟩⟩⟩⟩⟩⟩⟩
theorem lw_p48 : lw_okq (⟨"HatsInRingModel", "lays", "()V"⟩, 32) := ⟨⟨by decide +kernel, by decide +kernel⟩, List.mem_of_getElem? (i := 655) (by decide +kernel), List.mem_of_getElem? (i := 934) (by decide +kernel), List.mem_of_getElem? (i := 935) (by decide +kernel)⟩
theorem lw_p49 : lw_okq (⟨"HatsInRingModel", "mostFelt", "()I"⟩, 32) := ⟨⟨by decide +kernel, by decide +kernel⟩, List.mem_of_getElem? (i := 655) (by decide +kernel), List.mem_of_getElem? (i := 946) (by decide +kernel), List.mem_of_getElem? (i := 947) (by decide +kernel)⟩
theorem lw_p50 : lw_okq (⟨"HatsInRingModel", "feltBehind", "(II)I"⟩, 32) := ⟨⟨by decide +kernel, by decide +kernel⟩, List.mem_of_getElem? (i := 655) (by decide +kernel), List.mem_of_getElem? (i := 958) (by decide +kernel), List.mem_of_getElem? (i := 959) (by decide +kernel)⟩
theorem lw_p51 : lw_okq (⟨"HatsInRingModel", "toldWrong", "(II)I"⟩, 32) := ⟨⟨by decide +kernel, by decide +kernel⟩, List.mem_of_getElem? (i := 655) (by decide +kernel), List.mem_of_getElem? (i := 982) (by decide +kernel), List.mem_of_getElem? (i := 983) (by decide +kernel)⟩
theorem lw_p52 : lw_okq (⟨"HatsInRingModel", "sheetWrong", "(I)I"⟩, 32) := ⟨⟨by decide +kernel, by decide +kernel⟩, List.mem_of_getElem? (i := 655) (by decide +kernel), List.mem_of_getElem? (i := 986) (by decide +kernel), List.mem_of_getElem? (i := 987) (by decide +kernel)⟩
theorem lw_p53 : lw_okq (⟨"HatsInRingModel", "unlike", "(II)I"⟩, 32) := ⟨⟨by decide +kernel, by decide +kernel⟩, List.mem_of_getElem? (i := 655) (by decide +kernel), List.mem_of_getElem? (i := 990) (by decide +kernel), List.mem_of_getElem? (i := 991) (by decide +kernel)⟩
theorem lw_p54 : lw_okq (⟨"HatsInRingModel", "lotRing", "(I)I"⟩, 32) := ⟨⟨by decide +kernel, by decide +kernel⟩, List.mem_of_getElem? (i := 655) (by decide +kernel), List.mem_of_getElem? (i := 1023) (by decide +kernel), List.mem_of_getElem? (i := 1024) (by decide +kernel)⟩
def lw_privs_4 : List (MethodName × Nat) := [(⟨"HatsInRingModel", "lays", "()V"⟩, 32), (⟨"HatsInRingModel", "mostFelt", "()I"⟩, 32), (⟨"HatsInRingModel", "feltBehind", "(II)I"⟩, 32), (⟨"HatsInRingModel", "toldWrong", "(II)I"⟩, 32), (⟨"HatsInRingModel", "sheetWrong", "(I)I"⟩, 32), (⟨"HatsInRingModel", "unlike", "(II)I"⟩, 32), (⟨"HatsInRingModel", "lotRing", "(I)I"⟩, 32)]
theorem lw_r4 : ∀ q ∈ lw_privs_4, lw_okq q := List.forall_mem_cons.mpr ⟨lw_p48, List.forall_mem_cons.mpr ⟨lw_p49, List.forall_mem_cons.mpr ⟨lw_p50, List.forall_mem_cons.mpr ⟨lw_p51, List.forall_mem_cons.mpr ⟨lw_p52, List.forall_mem_cons.mpr ⟨lw_p53, List.forall_mem_cons.mpr ⟨lw_p54, fun _ h => absurd h List.not_mem_nil⟩⟩⟩⟩⟩⟩⟩
def lw_privs : List (MethodName × Nat) := lw_privs_1 ++ (lw_privs_2 ++ (lw_privs_3 ++ (lw_privs_4)))
def lw_tbl : List Cond := k2_sels lw_privs ++ tables_1
theorem lw_privs_ok : ∀ q ∈ lw_privs, lw_okq q := by
  show ∀ q ∈ lw_privs_1 ++ (lw_privs_2 ++ (lw_privs_3 ++ (lw_privs_4))), lw_okq q
  exact List.forall_mem_append.mpr ⟨lw_r1, List.forall_mem_append.mpr ⟨lw_r2, List.forall_mem_append.mpr ⟨lw_r3, lw_r4⟩⟩⟩
def RX0 : String := "HatsInRing$Kinds"
def TX0 : u_T := fun k => match k with
  | _ => ("", "", "", false)
def tyX0 : Nat → FieldType := fun k => match k with
  | _ => .int
abbrev wsX00 : List Cond := u_ws RX0 TX0 0
theorem nmX0 : ∀ a, a < 0 → ∀ b, b < 0 → a ≠ b → (TX0 a).2.1 ≠ (TX0 b).2.1 := by decide +kernel
theorem tyX0_ok : ∀ k, k < 0 → parseFieldDescriptor (TX0 k).2.2.1 = some (tyX0 k) := by decide +kernel
abbrev cX0_isOne : ByteArray := prog_2_method_2_code
def yX0_isOne : MethodName := ⟨RX0, "isOne", "(II)Z"⟩
abbrev cX0_goes : ByteArray := prog_2_method_3_code
def yX0_goes : MethodName := ⟨RX0, "goes", "(IIIZ)Z"⟩
abbrev cX0_hits : ByteArray := prog_2_method_4_code
def yX0_hits : MethodName := ⟨RX0, "hits", "(IIIII)I"⟩
abbrev cX0_soft : ByteArray := prog_2_method_5_code
def yX0_soft : MethodName := ⟨RX0, "soft", "(III)I"⟩
def RX1 : String := "HatsInRing$Reader"
def TX1 : u_T := fun k => match k with
  | 0 => ("HatsInRing$Reader", "bytes", "[I", false)
  | 1 => ("HatsInRing$Reader", "size", "I", false)
  | 2 => ("HatsInRing$Reader", "at", "I", false)
  | 3 => ("HatsInRing$Reader", "start", "I", false)
  | 4 => ("HatsInRing$Reader", "token", "I", false)
  | 5 => ("HatsInRing$Reader", "fault", "I", false)
  | _ => ("HatsInRing$Reader", "into", "LHatsInRing$Text;", false)
def tyX1 : Nat → FieldType := fun k => match k with
  | 0 => .array .int
  | 1 => .int
  | 2 => .int
  | 3 => .int
  | 4 => .int
  | 5 => .int
  | _ => .object "HatsInRing$Text"
abbrev wsX10 : List Cond := u_ws RX1 TX1 7
theorem nmX1 : ∀ a, a < 7 → ∀ b, b < 7 → a ≠ b → (TX1 a).2.1 ≠ (TX1 b).2.1 := by decide +kernel
theorem tyX1_ok : ∀ k, k < 7 → parseFieldDescriptor (TX1 k).2.2.1 = some (tyX1 k) := by decide +kernel
abbrev cX1_init : ByteArray := prog_3_method_1_code
def yX1_init : MethodName := ⟨RX1, "<init>", "()V"⟩
abbrev cX1_read : ByteArray := prog_3_method_2_code
def yX1_read : MethodName := ⟨RX1, "read", "([IILHatsInRing$Text;)I"⟩
abbrev cX1_readE : ByteArray := prog_3_method_3_code
def yX1_readE : MethodName := ⟨RX1, "readE", "(I)V"⟩
abbrev cX1_readAnd : ByteArray := prog_3_method_4_code
def yX1_readAnd : MethodName := ⟨RX1, "readAnd", "(I)V"⟩
abbrev cX1_readNot : ByteArray := prog_3_method_5_code
def yX1_readNot : MethodName := ⟨RX1, "readNot", "(I)V"⟩
abbrev cX1_readSum : ByteArray := prog_3_method_6_code
def yX1_readSum : MethodName := ⟨RX1, "readSum", "(I)V"⟩
abbrev cX1_readTerm : ByteArray := prog_3_method_7_code
def yX1_readTerm : MethodName := ⟨RX1, "readTerm", "(I)V"⟩
abbrev cX1_readOne : ByteArray := prog_3_method_8_code
def yX1_readOne : MethodName := ⟨RX1, "readOne", "(I)V"⟩
abbrev cX1_expect : ByteArray := prog_3_method_9_code
def yX1_expect : MethodName := ⟨RX1, "expect", "(I)V"⟩
abbrev cX1_refuse : ByteArray := prog_3_method_10_code
def yX1_refuse : MethodName := ⟨RX1, "refuse", "()V"⟩
abbrev cX1_next : ByteArray := prog_3_method_11_code
def yX1_next : MethodName := ⟨RX1, "next", "()V"⟩
abbrev cX1_nextNumber : ByteArray := prog_3_method_12_code
def yX1_nextNumber : MethodName := ⟨RX1, "nextNumber", "()I"⟩
abbrev cX1_nextWord : ByteArray := prog_3_method_13_code
def yX1_nextWord : MethodName := ⟨RX1, "nextWord", "()I"⟩
abbrev cX1_spells : ByteArray := prog_3_method_14_code
def yX1_spells : MethodName := ⟨RX1, "spells", "(Ljava/lang/String;)Z"⟩
abbrev cX1_isLetter : ByteArray := prog_3_method_15_code
def yX1_isLetter : MethodName := ⟨RX1, "isLetter", "(I)Z"⟩
abbrev cX1_isDigit : ByteArray := prog_3_method_16_code
def yX1_isDigit : MethodName := ⟨RX1, "isDigit", "(I)Z"⟩
def RX2 : String := "HatsInRing$Ring"
def TX2 : u_T := fun k => match k with
  | 0 => ("HatsInRing$Ring", "texts", "[LHatsInRing$Text;", true)
  | 1 => ("HatsInRing$Ring", "kind", "[I", true)
  | 2 => ("HatsInRing$Ring", "more", "[I", true)
  | 3 => ("HatsInRing$Ring", "place", "[I", true)
  | 4 => ("HatsInRing$Ring", "felt", "[I", true)
  | 5 => ("HatsInRing$Ring", "pride", "[I", true)
  | 6 => ("HatsInRing$Ring", "blows", "[I", true)
  | 7 => ("HatsInRing$Ring", "tally", "[I", true)
  | 8 => ("HatsInRing$Ring", "size", "I", false)
  | 9 => ("HatsInRing$Ring", "round", "I", false)
  | _ => ("HatsInRing$Ring", "law", "I", false)
def tyX2 : Nat → FieldType := fun k => match k with
  | 0 => .array (.object "HatsInRing$Text")
  | 1 => .array .int
  | 2 => .array .int
  | 3 => .array .int
  | 4 => .array .int
  | 5 => .array .int
  | 6 => .array .int
  | 7 => .array .int
  | 8 => .int
  | 9 => .int
  | _ => .int
abbrev wsX20 : List Cond := u_ws RX2 TX2 11
theorem nmX2 : ∀ a, a < 11 → ∀ b, b < 11 → a ≠ b → (TX2 a).2.1 ≠ (TX2 b).2.1 := by decide +kernel
theorem tyX2_ok : ∀ k, k < 11 → parseFieldDescriptor (TX2 k).2.2.1 = some (tyX2 k) := by decide +kernel
abbrev cX2_init : ByteArray := prog_4_method_1_code
def yX2_init : MethodName := ⟨RX2, "<init>", "([LHatsInRing$Text;)V"⟩
abbrev cX2_become : ByteArray := prog_4_method_2_code
def yX2_become : MethodName := ⟨RX2, "become", "(LHatsInRing$Ring;)V"⟩
abbrev cX2_add : ByteArray := prog_4_method_3_code
def yX2_add : MethodName := ⟨RX2, "add", "(III)V"⟩
abbrev cX2_rowOf : ByteArray := prog_4_method_4_code
def yX2_rowOf : MethodName := ⟨RX2, "rowOf", "(I)[I"⟩
abbrev cX2_leaveOnly : ByteArray := prog_4_method_5_code
def yX2_leaveOnly : MethodName := ⟨RX2, "leaveOnly", "(II)V"⟩
abbrev cX2_upBits : ByteArray := prog_4_method_6_code
def yX2_upBits : MethodName := ⟨RX2, "upBits", "()I"⟩
abbrev cX2_upCount : ByteArray := prog_4_method_7_code
def yX2_upCount : MethodName := ⟨RX2, "upCount", "()I"⟩
abbrev cX2_feltSum : ByteArray := prog_4_method_8_code
def yX2_feltSum : MethodName := ⟨RX2, "feltSum", "()I"⟩
abbrev cX2_tallySum : ByteArray := prog_4_method_9_code
def yX2_tallySum : MethodName := ⟨RX2, "tallySum", "()I"⟩
abbrev cX2_mostFelt : ByteArray := prog_4_method_10_code
def yX2_mostFelt : MethodName := ⟨RX2, "mostFelt", "()I"⟩
abbrev cX2_far : ByteArray := prog_4_method_11_code
def yX2_far : MethodName := ⟨RX2, "far", "(II)I"⟩
abbrev cX2_nearest : ByteArray := prog_4_method_12_code
def yX2_nearest : MethodName := ⟨RX2, "nearest", "(I)I"⟩
abbrev cX2_goes : ByteArray := prog_4_method_13_code
def yX2_goes : MethodName := ⟨RX2, "goes", "(I)Z"⟩
abbrev cX2_hits : ByteArray := prog_4_method_14_code
def yX2_hits : MethodName := ⟨RX2, "hits", "(II)I"⟩
abbrev cX2_soft : ByteArray := prog_4_method_15_code
def yX2_soft : MethodName := ⟨RX2, "soft", "(I)I"⟩
abbrev cX2_blow : ByteArray := prog_4_method_16_code
def yX2_blow : MethodName := ⟨RX2, "blow", "(II)I"⟩
abbrev cX2_play : ByteArray := prog_4_method_17_code
def yX2_play : MethodName := ⟨RX2, "play", "()I"⟩
abbrev cX2_step : ByteArray := prog_4_method_18_code
def yX2_step : MethodName := ⟨RX2, "step", "(II)V"⟩
abbrev cX2_land : ByteArray := prog_4_method_19_code
def yX2_land : MethodName := ⟨RX2, "land", "(III)V"⟩
def RX3 : String := "HatsInRing$Sheet"
def TX3 : u_T := fun k => match k with
  | 0 => ("HatsInRing$Sheet", "row", "[I", true)
  | 1 => ("HatsInRing$Sheet", "sort", "I", false)
  | _ => ("HatsInRing$Sheet", "size", "I", false)
def tyX3 : Nat → FieldType := fun k => match k with
  | 0 => .array .int
  | 1 => .int
  | _ => .int
abbrev wsX30 : List Cond := u_ws RX3 TX3 3
theorem nmX3 : ∀ a, a < 3 → ∀ b, b < 3 → a ≠ b → (TX3 a).2.1 ≠ (TX3 b).2.1 := by decide +kernel
theorem tyX3_ok : ∀ k, k < 3 → parseFieldDescriptor (TX3 k).2.2.1 = some (tyX3 k) := by decide +kernel
abbrev cX3_init : ByteArray := prog_5_method_1_code
def yX3_init : MethodName := ⟨RX3, "<init>", "()V"⟩
abbrev cX3_isMissing : ByteArray := prog_5_method_2_code
def yX3_isMissing : MethodName := ⟨RX3, "isMissing", "()Z"⟩
abbrev cX3_become : ByteArray := prog_5_method_3_code
def yX3_become : MethodName := ⟨RX3, "become", "(II)V"⟩
abbrev cX3_write : ByteArray := prog_5_method_4_code
def yX3_write : MethodName := ⟨RX3, "write", "(II)V"⟩
def RX4 : String := "HatsInRing$Text"
def TX4 : u_T := fun k => match k with
  | 0 => ("HatsInRing$Text", "stack", "[I", true)
  | 1 => ("HatsInRing$Text", "steps", "[I", true)
  | 2 => ("HatsInRing$Text", "ends", "[I", true)
  | _ => ("HatsInRing$Text", "size", "I", false)
def tyX4 : Nat → FieldType := fun k => match k with
  | 0 => .array .int
  | 1 => .array .int
  | 2 => .array .int
  | _ => .int
abbrev wsX40 : List Cond := u_ws RX4 TX4 4
theorem nmX4 : ∀ a, a < 4 → ∀ b, b < 4 → a ≠ b → (TX4 a).2.1 ≠ (TX4 b).2.1 := by decide +kernel
theorem tyX4_ok : ∀ k, k < 4 → parseFieldDescriptor (TX4 k).2.2.1 = some (tyX4 k) := by decide +kernel
abbrev cX4_init : ByteArray := prog_6_method_1_code
def yX4_init : MethodName := ⟨RX4, "<init>", "([I)V"⟩
abbrev cX4_clear : ByteArray := prog_6_method_2_code
def yX4_clear : MethodName := ⟨RX4, "clear", "()V"⟩
abbrev cX4_write : ByteArray := prog_6_method_3_code
def yX4_write : MethodName := ⟨RX4, "write", "(I)V"⟩
abbrev cX4_endPart : ByteArray := prog_6_method_4_code
def yX4_endPart : MethodName := ⟨RX4, "endPart", "(I)V"⟩
abbrev cX4_says : ByteArray := prog_6_method_5_code
def yX4_says : MethodName := ⟨RX4, "says", "(ILHatsInRing$Ring;I)I"⟩
abbrev cX4_fact : ByteArray := prog_6_method_6_code
def yX4_fact : MethodName := ⟨RX4, "fact", "(ILHatsInRing$Ring;I)I"⟩
abbrev cX4_joined : ByteArray := prog_6_method_7_code
def yX4_joined : MethodName := ⟨RX4, "joined", "(III)I"⟩
def RX5 : String := "HatsInRing$Token"
def TX5 : u_T := fun k => match k with
  | _ => ("", "", "", false)
def tyX5 : Nat → FieldType := fun k => match k with
  | _ => .int
abbrev wsX50 : List Cond := u_ws RX5 TX5 0
theorem nmX5 : ∀ a, a < 0 → ∀ b, b < 0 → a ≠ b → (TX5 a).2.1 ≠ (TX5 b).2.1 := by decide +kernel
theorem tyX5_ok : ∀ k, k < 0 → parseFieldDescriptor (TX5 k).2.2.1 = some (tyX5 k) := by decide +kernel
abbrev cX5_isName : ByteArray := prog_7_method_2_code
def yX5_isName : MethodName := ⟨RX5, "isName", "(I)Z"⟩
abbrev cX5_ofSign : ByteArray := prog_7_method_3_code
def yX5_ofSign : MethodName := ⟨RX5, "ofSign", "(I)I"⟩
def RX6 : String := "HatsInRing"
def TX6 : u_T := fun k => match k with
  | 0 => ("HatsInRing", "texts", "[LHatsInRing$Text;", true)
  | 1 => ("HatsInRing", "ring", "LHatsInRing$Ring;", true)
  | 2 => ("HatsInRing", "thought", "LHatsInRing$Ring;", true)
  | 3 => ("HatsInRing", "kept", "LHatsInRing$Ring;", true)
  | 4 => ("HatsInRing", "reader", "LHatsInRing$Reader;", true)
  | 5 => ("HatsInRing", "tape", "[I", true)
  | 6 => ("HatsInRing", "sheets", "[LHatsInRing$Sheet;", true)
  | 7 => ("HatsInRing", "textCount", "I", false)
  | 8 => ("HatsInRing", "tapeSize", "I", false)
  | _ => ("HatsInRing", "hasImage", "Z", false)
def tyX6 : Nat → FieldType := fun k => match k with
  | 0 => .array (.object "HatsInRing$Text")
  | 1 => .object "HatsInRing$Ring"
  | 2 => .object "HatsInRing$Ring"
  | 3 => .object "HatsInRing$Ring"
  | 4 => .object "HatsInRing$Reader"
  | 5 => .array .int
  | 6 => .array (.object "HatsInRing$Sheet")
  | 7 => .int
  | 8 => .int
  | _ => .boolean
abbrev wsX60 : List Cond := u_ws RX6 TX6 10
theorem nmX6 : ∀ a, a < 10 → ∀ b, b < 10 → a ≠ b → (TX6 a).2.1 ≠ (TX6 b).2.1 := by decide +kernel
theorem tyX6_ok : ∀ k, k < 10 → parseFieldDescriptor (TX6 k).2.2.1 = some (tyX6 k) := by decide +kernel
abbrev cX6_init : ByteArray := prog_1_method_1_code
def yX6_init : MethodName := ⟨RX6, "<init>", "()V"⟩
abbrev cX6_count : ByteArray := prog_1_method_2_code
def yX6_count : MethodName := ⟨RX6, "count", "(I)I"⟩
abbrev cX6_feed : ByteArray := prog_1_method_3_code
def yX6_feed : MethodName := ⟨RX6, "feed", "(IIIIII)I"⟩
abbrev cX6_text : ByteArray := prog_1_method_4_code
def yX6_text : MethodName := ⟨RX6, "text", "()I"⟩
abbrev cX6_force : ByteArray := prog_1_method_5_code
def yX6_force : MethodName := ⟨RX6, "force", "(I)I"⟩
abbrev cX6_asks : ByteArray := prog_1_method_6_code
def yX6_asks : MethodName := ⟨RX6, "asks", "(II)I"⟩
abbrev cX6_hat : ByteArray := prog_1_method_7_code
def yX6_hat : MethodName := ⟨RX6, "hat", "(III)I"⟩
abbrev cX6_put : ByteArray := prog_1_method_8_code
def yX6_put : MethodName := ⟨RX6, "put", "(III)I"⟩
abbrev cX6_told : ByteArray := prog_1_method_9_code
def yX6_told : MethodName := ⟨RX6, "told", "(II)I"⟩
abbrev cX6_duel : ByteArray := prog_1_method_10_code
def yX6_duel : MethodName := ⟨RX6, "duel", "(III)I"⟩
abbrev cX6_round : ByteArray := prog_1_method_11_code
def yX6_round : MethodName := ⟨RX6, "round", "()I"⟩
abbrev cX6_bell : ByteArray := prog_1_method_12_code
def yX6_bell : MethodName := ⟨RX6, "bell", "(I)I"⟩
abbrev cX6_run : ByteArray := prog_1_method_13_code
def yX6_run : MethodName := ⟨RX6, "run", "(II)I"⟩
abbrev cX6_when : ByteArray := prog_1_method_14_code
def yX6_when : MethodName := ⟨RX6, "when", "(I)I"⟩
abbrev cX6_end : ByteArray := prog_1_method_15_code
def yX6_end : MethodName := ⟨RX6, "end", "(I)I"⟩
abbrev cX6_beaten : ByteArray := prog_1_method_16_code
def yX6_beaten : MethodName := ⟨RX6, "beaten", "(II)I"⟩
abbrev cX6_toss : ByteArray := prog_1_method_17_code
def yX6_toss : MethodName := ⟨RX6, "toss", "(III)I"⟩
abbrev cX6_rid : ByteArray := prog_1_method_18_code
def yX6_rid : MethodName := ⟨RX6, "rid", "(III)I"⟩
abbrev cX6_lasts : ByteArray := prog_1_method_19_code
def yX6_lasts : MethodName := ⟨RX6, "lasts", "(II)I"⟩
abbrev cX6_betting : ByteArray := prog_1_method_20_code
def yX6_betting : MethodName := ⟨RX6, "betting", "(II)J"⟩
abbrev cX6_judge : ByteArray := prog_1_method_21_code
def yX6_judge : MethodName := ⟨RX6, "judge", "(II)I"⟩
abbrev cX6_kinds : ByteArray := prog_1_method_22_code
def yX6_kinds : MethodName := ⟨RX6, "kinds", "(IIII)I"⟩
abbrev cX6_states : ByteArray := prog_1_method_23_code
def yX6_states : MethodName := ⟨RX6, "states", "(IIII)I"⟩
abbrev cX6_places : ByteArray := prog_1_method_24_code
def yX6_places : MethodName := ⟨RX6, "places", "(II)J"⟩
abbrev cX6_whose : ByteArray := prog_1_method_25_code
def yX6_whose : MethodName := ⟨RX6, "whose", "(I)I"⟩
abbrev cX6_laws : ByteArray := prog_1_method_26_code
def yX6_laws : MethodName := ⟨RX6, "laws", "(II)I"⟩
abbrev cX6_film : ByteArray := prog_1_method_27_code
def yX6_film : MethodName := ⟨RX6, "film", "(III)I"⟩
abbrev cX6_drawn : ByteArray := prog_1_method_28_code
def yX6_drawn : MethodName := ⟨RX6, "drawn", "(II)I"⟩
abbrev cX6_odds : ByteArray := prog_1_method_29_code
def yX6_odds : MethodName := ⟨RX6, "odds", "(IIII)J"⟩
abbrev cX6_image : ByteArray := prog_1_method_30_code
def yX6_image : MethodName := ⟨RX6, "image", "()I"⟩
abbrev cX6_back : ByteArray := prog_1_method_31_code
def yX6_back : MethodName := ⟨RX6, "back", "()I"⟩
abbrev cX6_sheet : ByteArray := prog_1_method_32_code
def yX6_sheet : MethodName := ⟨RX6, "sheet", "(III)I"⟩
abbrev cX6_cell : ByteArray := prog_1_method_33_code
def yX6_cell : MethodName := ⟨RX6, "cell", "(III)I"⟩
abbrev cX6_copy : ByteArray := prog_1_method_34_code
def yX6_copy : MethodName := ⟨RX6, "copy", "(IIIII)I"⟩
abbrev cX6_hatsBy : ByteArray := prog_1_method_35_code
def yX6_hatsBy : MethodName := ⟨RX6, "hatsBy", "(IIII)I"⟩
abbrev cX6_taken : ByteArray := prog_1_method_36_code
def yX6_taken : MethodName := ⟨RX6, "taken", "(II)I"⟩
abbrev cX6_within : ByteArray := prog_1_method_37_code
def yX6_within : MethodName := ⟨RX6, "within", "(III)Z"⟩
abbrev cX6_isByte : ByteArray := prog_1_method_38_code
def yX6_isByte : MethodName := ⟨RX6, "isByte", "(I)Z"⟩
abbrev cX6_isSheet : ByteArray := prog_1_method_39_code
def yX6_isSheet : MethodName := ⟨RX6, "isSheet", "(I)Z"⟩
abbrev cX6_isSort : ByteArray := prog_1_method_40_code
def yX6_isSort : MethodName := ⟨RX6, "isSort", "(I)Z"⟩
abbrev cX6_isHat : ByteArray := prog_1_method_41_code
def yX6_isHat : MethodName := ⟨RX6, "isHat", "(I)Z"⟩
abbrev cX6_lowestBit : ByteArray := prog_1_method_42_code
def yX6_lowestBit : MethodName := ⟨RX6, "lowestBit", "(I)I"⟩
abbrev cX6_lowestTerms : ByteArray := prog_1_method_43_code
def yX6_lowestTerms : MethodName := ⟨RX6, "lowestTerms", "(III)J"⟩
abbrev cX6_imagine : ByteArray := prog_1_method_44_code
def yX6_imagine : MethodName := ⟨RX6, "imagine", "()V"⟩
abbrev cX6_imagineDrawn : ByteArray := prog_1_method_45_code
def yX6_imagineDrawn : MethodName := ⟨RX6, "imagineDrawn", "(I)V"⟩
abbrev cX6_feltBehind : ByteArray := prog_1_method_46_code
def yX6_feltBehind : MethodName := ⟨RX6, "feltBehind", "(II)I"⟩
abbrev cX6_refusalOf : ByteArray := prog_1_method_47_code
def yX6_refusalOf : MethodName := ⟨RX6, "refusalOf", "(I)I"⟩
abbrev cX6_refusalOf_ : ByteArray := prog_1_method_48_code
def yX6_refusalOf_ : MethodName := ⟨RX6, "refusalOf", "(II)I"⟩
abbrev cX6_firstOtherwise : ByteArray := prog_1_method_49_code
def yX6_firstOtherwise : MethodName := ⟨RX6, "firstOtherwise", "(II)I"⟩
def RX7 : String := "HatsInRingModel"
def TX7 : u_T := fun k => match k with
  | 0 => ("HatsInRingModel", "hats", "I", false)
  | 1 => ("HatsInRingModel", "kind", "[I", true)
  | 2 => ("HatsInRingModel", "moreOf", "[I", true)
  | 3 => ("HatsInRingModel", "rows", "[I", true)
  | 4 => ("HatsInRingModel", "tallies", "[I", true)
  | 5 => ("HatsInRingModel", "rounds", "I", false)
  | 6 => ("HatsInRingModel", "tape", "[I", true)
  | 7 => ("HatsInRingModel", "taped", "I", false)
  | 8 => ("HatsInRingModel", "codes", "[I", true)
  | 9 => ("HatsInRingModel", "starts", "[I", true)
  | 10 => ("HatsInRingModel", "texts", "I", false)
  | 11 => ("HatsInRingModel", "rule", "I", false)
  | 12 => ("HatsInRingModel", "hasImage", "Z", false)
  | 13 => ("HatsInRingModel", "imageRows", "[I", true)
  | 14 => ("HatsInRingModel", "imageHeld", "[I", true)
  | 15 => ("HatsInRingModel", "sheetSort", "[I", true)
  | 16 => ("HatsInRingModel", "sheetSize", "[I", true)
  | 17 => ("HatsInRingModel", "cells", "[I", true)
  | 18 => ("HatsInRingModel", "law", "[I", true)
  | 19 => ("HatsInRingModel", "at", "I", false)
  | 20 => ("HatsInRingModel", "begun", "I", false)
  | 21 => ("HatsInRingModel", "token", "I", false)
  | 22 => ("HatsInRingModel", "value", "I", false)
  | 23 => ("HatsInRingModel", "words", "[I", true)
  | 24 => ("HatsInRingModel", "held", "[I", true)
  | 25 => ("HatsInRingModel", "heldMany", "I", false)
  | 26 => ("HatsInRingModel", "opens", "I", false)
  | 27 => ("HatsInRingModel", "out", "I", false)
  | 28 => ("HatsInRingModel", "stack", "[I", true)
  | 29 => ("HatsInRingModel", "named", "[I", true)
  | 30 => ("HatsInRingModel", "kept", "[I", true)
  | _ => ("HatsInRingModel", "talliesThen", "I", false)
def tyX7 : Nat → FieldType := fun k => match k with
  | 0 => .int
  | 1 => .array .int
  | 2 => .array .int
  | 3 => .array .int
  | 4 => .array .int
  | 5 => .int
  | 6 => .array .int
  | 7 => .int
  | 8 => .array .int
  | 9 => .array .int
  | 10 => .int
  | 11 => .int
  | 12 => .boolean
  | 13 => .array .int
  | 14 => .array .int
  | 15 => .array .int
  | 16 => .array .int
  | 17 => .array .int
  | 18 => .array .int
  | 19 => .int
  | 20 => .int
  | 21 => .int
  | 22 => .int
  | 23 => .array .int
  | 24 => .array .int
  | 25 => .int
  | 26 => .int
  | 27 => .int
  | 28 => .array .int
  | 29 => .array .int
  | 30 => .array .int
  | _ => .int
abbrev wsX70 : List Cond := u_ws RX7 TX7 32
theorem nmX7 : ∀ a, a < 32 → ∀ b, b < 32 → a ≠ b → (TX7 a).2.1 ≠ (TX7 b).2.1 := by decide +kernel
theorem tyX7_ok : ∀ k, k < 32 → parseFieldDescriptor (TX7 k).2.2.1 = some (tyX7 k) := by decide +kernel
abbrev cX7_init : ByteArray := prog_9_method_1_code
def yX7_init : MethodName := ⟨RX7, "<init>", "()V"⟩
abbrev cX7_in : ByteArray := prog_9_method_3_code
def yX7_in : MethodName := ⟨RX7, "in", "(III)Z"⟩
abbrev cX7_within : ByteArray := prog_9_method_4_code
def yX7_within : MethodName := ⟨RX7, "within", "(III)I"⟩
abbrev cX7_onesOf : ByteArray := prog_9_method_5_code
def yX7_onesOf : MethodName := ⟨RX7, "onesOf", "(I)I"⟩
abbrev cX7_isOne : ByteArray := prog_9_method_6_code
def yX7_isOne : MethodName := ⟨RX7, "isOne", "(I)Z"⟩
abbrev cX7_areTwo : ByteArray := prog_9_method_7_code
def yX7_areTwo : MethodName := ⟨RX7, "areTwo", "(II)Z"⟩
abbrev cX7_isUp : ByteArray := prog_9_method_8_code
def yX7_isUp : MethodName := ⟨RX7, "isUp", "(I)Z"⟩
abbrev cX7_upSet : ByteArray := prog_9_method_9_code
def yX7_upSet : MethodName := ⟨RX7, "upSet", "()I"⟩
abbrev cX7_talliesAll : ByteArray := prog_9_method_10_code
def yX7_talliesAll : MethodName := ⟨RX7, "talliesAll", "()I"⟩
abbrev cX7_count : ByteArray := prog_9_method_11_code
def yX7_count : MethodName := ⟨RX7, "count", "(I)I"⟩
abbrev cX7_isByte : ByteArray := prog_9_method_12_code
def yX7_isByte : MethodName := ⟨RX7, "isByte", "(I)Z"⟩
abbrev cX7_feed : ByteArray := prog_9_method_13_code
def yX7_feed : MethodName := ⟨RX7, "feed", "(IIIIII)I"⟩
abbrev cX7_wordFrom : ByteArray := prog_9_method_14_code
def yX7_wordFrom : MethodName := ⟨RX7, "wordFrom", "(II)I"⟩
abbrev cX7_next : ByteArray := prog_9_method_15_code
def yX7_next : MethodName := ⟨RX7, "next", "()V"⟩
abbrev cX7_rank : ByteArray := prog_9_method_16_code
def yX7_rank : MethodName := ⟨RX7, "rank", "(I)I"⟩
abbrev cX7_puts : ByteArray := prog_9_method_17_code
def yX7_puts : MethodName := ⟨RX7, "puts", "(I)V"⟩
abbrev cX7_unwinds : ByteArray := prog_9_method_18_code
def yX7_unwinds : MethodName := ⟨RX7, "unwinds", "(I)V"⟩
abbrev cX7_holds : ByteArray := prog_9_method_19_code
def yX7_holds : MethodName := ⟨RX7, "holds", "(I)V"⟩
abbrev cX7_opensOne : ByteArray := prog_9_method_20_code
def yX7_opensOne : MethodName := ⟨RX7, "opensOne", "(I)Z"⟩
abbrev cX7_between : ByteArray := prog_9_method_21_code
def yX7_between : MethodName := ⟨RX7, "between", "(I)Z"⟩
abbrev cX7_signOf : ByteArray := prog_9_method_22_code
def yX7_signOf : MethodName := ⟨RX7, "signOf", "()I"⟩
abbrev cX7_eRead : ByteArray := prog_9_method_23_code
def yX7_eRead : MethodName := ⟨RX7, "eRead", "()Z"⟩
abbrev cX7_text : ByteArray := prog_9_method_24_code
def yX7_text : MethodName := ⟨RX7, "text", "()I"⟩
abbrev cX7_two : ByteArray := prog_9_method_25_code
def yX7_two : MethodName := ⟨RX7, "two", "(III)I"⟩
abbrev cX7_says : ByteArray := prog_9_method_26_code
def yX7_says : MethodName := ⟨RX7, "says", "(I)I"⟩
abbrev cX7_force : ByteArray := prog_9_method_27_code
def yX7_force : MethodName := ⟨RX7, "force", "(I)I"⟩
abbrev cX7_asksOf : ByteArray := prog_9_method_28_code
def yX7_asksOf : MethodName := ⟨RX7, "asksOf", "(II)I"⟩
abbrev cX7_asks : ByteArray := prog_9_method_29_code
def yX7_asks : MethodName := ⟨RX7, "asks", "(II)I"⟩
abbrev cX7_hat : ByteArray := prog_9_method_30_code
def yX7_hat : MethodName := ⟨RX7, "hat", "(III)I"⟩
abbrev cX7_put : ByteArray := prog_9_method_31_code
def yX7_put : MethodName := ⟨RX7, "put", "(III)I"⟩
abbrev cX7_goes : ByteArray := prog_9_method_32_code
def yX7_goes : MethodName := ⟨RX7, "goes", "(I)Z"⟩
abbrev cX7_hitsOf : ByteArray := prog_9_method_33_code
def yX7_hitsOf : MethodName := ⟨RX7, "hitsOf", "(II)I"⟩
abbrev cX7_softOf : ByteArray := prog_9_method_34_code
def yX7_softOf : MethodName := ⟨RX7, "softOf", "(I)I"⟩
abbrev cX7_blowOf : ByteArray := prog_9_method_35_code
def yX7_blowOf : MethodName := ⟨RX7, "blowOf", "(II)I"⟩
abbrev cX7_farOf : ByteArray := prog_9_method_36_code
def yX7_farOf : MethodName := ⟨RX7, "farOf", "(II)I"⟩
abbrev cX7_nearestOf : ByteArray := prog_9_method_37_code
def yX7_nearestOf : MethodName := ⟨RX7, "nearestOf", "(I)I"⟩
abbrev cX7_told : ByteArray := prog_9_method_38_code
def yX7_told : MethodName := ⟨RX7, "told", "(II)I"⟩
abbrev cX7_duel : ByteArray := prog_9_method_39_code
def yX7_duel : MethodName := ⟨RX7, "duel", "(III)I"⟩
abbrev cX7_steps : ByteArray := prog_9_method_40_code
def yX7_steps : MethodName := ⟨RX7, "steps", "(II)V"⟩
abbrev cX7_hitBy : ByteArray := prog_9_method_41_code
def yX7_hitBy : MethodName := ⟨RX7, "hitBy", "(II)Z"⟩
abbrev cX7_roundOf : ByteArray := prog_9_method_42_code
def yX7_roundOf : MethodName := ⟨RX7, "roundOf", "()I"⟩
abbrev cX7_round : ByteArray := prog_9_method_43_code
def yX7_round : MethodName := ⟨RX7, "round", "()I"⟩
abbrev cX7_bell : ByteArray := prog_9_method_44_code
def yX7_bell : MethodName := ⟨RX7, "bell", "(I)I"⟩
abbrev cX7_keeps : ByteArray := prog_9_method_45_code
def yX7_keeps : MethodName := ⟨RX7, "keeps", "()V"⟩
abbrev cX7_lays : ByteArray := prog_9_method_46_code
def yX7_lays : MethodName := ⟨RX7, "lays", "()V"⟩
abbrev cX7_passes : ByteArray := prog_9_method_47_code
def yX7_passes : MethodName := ⟨RX7, "passes", "(I)V"⟩
abbrev cX7_run : ByteArray := prog_9_method_48_code
def yX7_run : MethodName := ⟨RX7, "run", "(II)I"⟩
abbrev cX7_when : ByteArray := prog_9_method_49_code
def yX7_when : MethodName := ⟨RX7, "when", "(I)I"⟩
abbrev cX7_mostFelt : ByteArray := prog_9_method_50_code
def yX7_mostFelt : MethodName := ⟨RX7, "mostFelt", "()I"⟩
abbrev cX7_end : ByteArray := prog_9_method_51_code
def yX7_end : MethodName := ⟨RX7, "end", "(I)I"⟩
abbrev cX7_beaten : ByteArray := prog_9_method_52_code
def yX7_beaten : MethodName := ⟨RX7, "beaten", "(II)I"⟩
abbrev cX7_feltBehind : ByteArray := prog_9_method_53_code
def yX7_feltBehind : MethodName := ⟨RX7, "feltBehind", "(II)I"⟩
abbrev cX7_toss : ByteArray := prog_9_method_54_code
def yX7_toss : MethodName := ⟨RX7, "toss", "(III)I"⟩
abbrev cX7_rid : ByteArray := prog_9_method_55_code
def yX7_rid : MethodName := ⟨RX7, "rid", "(III)I"⟩
abbrev cX7_lasts : ByteArray := prog_9_method_56_code
def yX7_lasts : MethodName := ⟨RX7, "lasts", "(II)I"⟩
abbrev cX7_lowest : ByteArray := prog_9_method_57_code
def yX7_lowest : MethodName := ⟨RX7, "lowest", "(JJI)J"⟩
abbrev cX7_betting : ByteArray := prog_9_method_58_code
def yX7_betting : MethodName := ⟨RX7, "betting", "(II)J"⟩
abbrev cX7_sheetWrong : ByteArray := prog_9_method_59_code
def yX7_sheetWrong : MethodName := ⟨RX7, "sheetWrong", "(I)I"⟩
abbrev cX7_toldWrong : ByteArray := prog_9_method_60_code
def yX7_toldWrong : MethodName := ⟨RX7, "toldWrong", "(II)I"⟩
abbrev cX7_unlike : ByteArray := prog_9_method_61_code
def yX7_unlike : MethodName := ⟨RX7, "unlike", "(II)I"⟩
abbrev cX7_judge : ByteArray := prog_9_method_62_code
def yX7_judge : MethodName := ⟨RX7, "judge", "(II)I"⟩
abbrev cX7_kinds : ByteArray := prog_9_method_63_code
def yX7_kinds : MethodName := ⟨RX7, "kinds", "(IIII)I"⟩
abbrev cX7_states : ByteArray := prog_9_method_64_code
def yX7_states : MethodName := ⟨RX7, "states", "(IIII)I"⟩
abbrev cX7_places : ByteArray := prog_9_method_65_code
def yX7_places : MethodName := ⟨RX7, "places", "(II)J"⟩
abbrev cX7_whose : ByteArray := prog_9_method_66_code
def yX7_whose : MethodName := ⟨RX7, "whose", "(I)I"⟩
abbrev cX7_laws : ByteArray := prog_9_method_67_code
def yX7_laws : MethodName := ⟨RX7, "laws", "(II)I"⟩
abbrev cX7_film : ByteArray := prog_9_method_68_code
def yX7_film : MethodName := ⟨RX7, "film", "(III)I"⟩
abbrev cX7_lotRing : ByteArray := prog_9_method_69_code
def yX7_lotRing : MethodName := ⟨RX7, "lotRing", "(I)I"⟩
abbrev cX7_drawn : ByteArray := prog_9_method_70_code
def yX7_drawn : MethodName := ⟨RX7, "drawn", "(II)I"⟩
abbrev cX7_odds : ByteArray := prog_9_method_71_code
def yX7_odds : MethodName := ⟨RX7, "odds", "(IIII)J"⟩
abbrev cX7_image : ByteArray := prog_9_method_72_code
def yX7_image : MethodName := ⟨RX7, "image", "()I"⟩
abbrev cX7_back : ByteArray := prog_9_method_73_code
def yX7_back : MethodName := ⟨RX7, "back", "()I"⟩
abbrev cX7_sheet : ByteArray := prog_9_method_74_code
def yX7_sheet : MethodName := ⟨RX7, "sheet", "(III)I"⟩
abbrev cX7_cell : ByteArray := prog_9_method_75_code
def yX7_cell : MethodName := ⟨RX7, "cell", "(III)I"⟩
abbrev cX7_copy : ByteArray := prog_9_method_76_code
def yX7_copy : MethodName := ⟨RX7, "copy", "(IIIII)I"⟩
abbrev cX7_hatsBy : ByteArray := prog_9_method_77_code
def yX7_hatsBy : MethodName := ⟨RX7, "hatsBy", "(IIII)I"⟩
abbrev cX7_isUnder : ByteArray := prog_9_method_78_code
def yX7_isUnder : MethodName := ⟨RX7, "isUnder", "(II)Z"⟩
abbrev cX7_taken : ByteArray := prog_9_method_79_code
def yX7_taken : MethodName := ⟨RX7, "taken", "(II)I"⟩
def RJx145de : String := "java/io/Serializable"
def TJx145de : u_T := fun k => match k with
  | _ => ("", "", "", false)
def tyJx145de : Nat → FieldType := fun k => match k with
  | _ => .int
abbrev wsJx145de0 : List Cond := u_ws RJx145de TJx145de 0
theorem nmJx145de : ∀ a, a < 0 → ∀ b, b < 0 → a ≠ b → (TJx145de a).2.1 ≠ (TJx145de b).2.1 := by decide +kernel
theorem tyJx145de_ok : ∀ k, k < 0 → parseFieldDescriptor (TJx145de k).2.2.1 = some (tyJx145de k) := by decide +kernel
def RJx9f9b0 : String := "java/lang/CharSequence"
def TJx9f9b0 : u_T := fun k => match k with
  | _ => ("", "", "", false)
def tyJx9f9b0 : Nat → FieldType := fun k => match k with
  | _ => .int
abbrev wsJx9f9b00 : List Cond := u_ws RJx9f9b0 TJx9f9b0 0
theorem nmJx9f9b0 : ∀ a, a < 0 → ∀ b, b < 0 → a ≠ b → (TJx9f9b0 a).2.1 ≠ (TJx9f9b0 b).2.1 := by decide +kernel
theorem tyJx9f9b0_ok : ∀ k, k < 0 → parseFieldDescriptor (TJx9f9b0 k).2.2.1 = some (tyJx9f9b0 k) := by decide +kernel
def RJxb160c : String := "java/lang/Comparable"
def TJxb160c : u_T := fun k => match k with
  | _ => ("", "", "", false)
def tyJxb160c : Nat → FieldType := fun k => match k with
  | _ => .int
abbrev wsJxb160c0 : List Cond := u_ws RJxb160c TJxb160c 0
theorem nmJxb160c : ∀ a, a < 0 → ∀ b, b < 0 → a ≠ b → (TJxb160c a).2.1 ≠ (TJxb160c b).2.1 := by decide +kernel
theorem tyJxb160c_ok : ∀ k, k < 0 → parseFieldDescriptor (TJxb160c k).2.2.1 = some (tyJxb160c k) := by decide +kernel
def RJ6 : String := "java/lang/Integer"
def TJ6 : u_T := fun k => match k with
  | _ => ("", "", "", false)
def tyJ6 : Nat → FieldType := fun k => match k with
  | _ => .int
abbrev wsJ60 : List Cond := u_ws RJ6 TJ6 0
theorem nmJ6 : ∀ a, a < 0 → ∀ b, b < 0 → a ≠ b → (TJ6 a).2.1 ≠ (TJ6 b).2.1 := by decide +kernel
theorem tyJ6_ok : ∀ k, k < 0 → parseFieldDescriptor (TJ6 k).2.2.1 = some (tyJ6 k) := by decide +kernel
abbrev cJ6_bitCount_0f7a4 : ByteArray := prog_10_method_49_code
def yJ6_bitCount_0f7a4 : MethodName := ⟨RJ6, "bitCount", "(I)I"⟩
def RJ9 : String := "java/lang/Math"
def TJ9 : u_T := fun k => match k with
  | _ => ("", "", "", false)
def tyJ9 : Nat → FieldType := fun k => match k with
  | _ => .int
abbrev wsJ90 : List Cond := u_ws RJ9 TJ9 0
theorem nmJ9 : ∀ a, a < 0 → ∀ b, b < 0 → a ≠ b → (TJ9 a).2.1 ≠ (TJ9 b).2.1 := by decide +kernel
theorem tyJ9_ok : ∀ k, k < 0 → parseFieldDescriptor (TJ9 k).2.2.1 = some (tyJ9 k) := by decide +kernel
abbrev cJ9_abs_0f7a4 : ByteArray := prog_11_method_59_code
def yJ9_abs_0f7a4 : MethodName := ⟨RJ9, "abs", "(I)I"⟩
abbrev cJ9_max_7cf53 : ByteArray := prog_11_method_65_code
def yJ9_max_7cf53 : MethodName := ⟨RJ9, "max", "(II)I"⟩
abbrev cJ9_min_7cf53 : ByteArray := prog_11_method_69_code
def yJ9_min_7cf53 : MethodName := ⟨RJ9, "min", "(II)I"⟩
def RJ0 : String := "java/lang/String"
def TJ0 : u_T := fun k => match k with
  | _ => ("", "", "", false)
def tyJ0 : Nat → FieldType := fun k => match k with
  | _ => .int
abbrev wsJ00 : List Cond := u_ws RJ0 TJ0 0
theorem nmJ0 : ∀ a, a < 0 → ∀ b, b < 0 → a ≠ b → (TJ0 a).2.1 ≠ (TJ0 b).2.1 := by decide +kernel
theorem tyJ0_ok : ∀ k, k < 0 → parseFieldDescriptor (TJ0 k).2.2.1 = some (tyJ0 k) := by decide +kernel
abbrev cJ0_length_8abf5 : ByteArray := prog_12_method_54_code
def yJ0_length_8abf5 : MethodName := ⟨RJ0, "length", "()I"⟩
abbrev cJ0_charAt_5068e : ByteArray := prog_12_method_56_code
def yJ0_charAt_5068e : MethodName := ⟨RJ0, "charAt", "(I)C"⟩
abbrev cJ0_coder_7d493 : ByteArray := prog_12_method_152_code
def yJ0_coder_7d493 : MethodName := ⟨RJ0, "coder", "()B"⟩
abbrev cJ0_isLatin1_aae02 : ByteArray := prog_12_method_154_code
def yJ0_isLatin1_aae02 : MethodName := ⟨RJ0, "isLatin1", "()Z"⟩
abbrev cJ0_checkIndex_df160 : ByteArray := prog_12_method_155_code
def yJ0_checkIndex_df160 : MethodName := ⟨RJ0, "checkIndex", "(II)V"⟩
def RJ1 : String := "java/lang/StringLatin1"
def TJ1 : u_T := fun k => match k with
  | _ => ("", "", "", false)
def tyJ1 : Nat → FieldType := fun k => match k with
  | _ => .int
abbrev wsJ10 : List Cond := u_ws RJ1 TJ1 0
theorem nmJ1 : ∀ a, a < 0 → ∀ b, b < 0 → a ≠ b → (TJ1 a).2.1 ≠ (TJ1 b).2.1 := by decide +kernel
theorem tyJ1_ok : ∀ k, k < 0 → parseFieldDescriptor (TJ1 k).2.2.1 = some (tyJ1 k) := by decide +kernel
abbrev cJ1_charAt_3b067 : ByteArray := prog_13_method_2_code
def yJ1_charAt_3b067 : MethodName := ⟨RJ1, "charAt", "([BI)C"⟩
def RJ2 : String := "java/lang/StringUTF16"
def TJ2 : u_T := fun k => match k with
  | _ => ("", "", "", false)
def tyJ2 : Nat → FieldType := fun k => match k with
  | _ => .int
abbrev wsJ20 : List Cond := u_ws RJ2 TJ2 0
theorem nmJ2 : ∀ a, a < 0 → ∀ b, b < 0 → a ≠ b → (TJ2 a).2.1 ≠ (TJ2 b).2.1 := by decide +kernel
theorem tyJ2_ok : ∀ k, k < 0 → parseFieldDescriptor (TJ2 k).2.2.1 = some (tyJ2 k) := by decide +kernel
abbrev cJ2_getChar_3b067 : ByteArray := prog_14_method_5_code
def yJ2_getChar_3b067 : MethodName := ⟨RJ2, "getChar", "([BI)C"⟩
abbrev cJ2_length_9d52b : ByteArray := prog_14_method_6_code
def yJ2_length_9d52b : MethodName := ⟨RJ2, "length", "([B)I"⟩
abbrev cJ2_charAt_3b067 : ByteArray := prog_14_method_83_code
def yJ2_charAt_3b067 : MethodName := ⟨RJ2, "charAt", "([BI)C"⟩
abbrev cJ2_checkIndex_2214a : ByteArray := prog_14_method_91_code
def yJ2_checkIndex_2214a : MethodName := ⟨RJ2, "checkIndex", "(I[B)V"⟩
def RJ10 : String := "java/lang/System"
def TJ10 : u_T := fun k => match k with
  | _ => ("", "", "", false)
def tyJ10 : Nat → FieldType := fun k => match k with
  | _ => .int
abbrev wsJ100 : List Cond := u_ws RJ10 TJ10 0
theorem nmJ10 : ∀ a, a < 0 → ∀ b, b < 0 → a ≠ b → (TJ10 a).2.1 ≠ (TJ10 b).2.1 := by decide +kernel
theorem tyJ10_ok : ∀ k, k < 0 → parseFieldDescriptor (TJ10 k).2.2.1 = some (tyJ10 k) := by decide +kernel
def RJxfd54e : String := "java/lang/constant/Constable"
def TJxfd54e : u_T := fun k => match k with
  | _ => ("", "", "", false)
def tyJxfd54e : Nat → FieldType := fun k => match k with
  | _ => .int
abbrev wsJxfd54e0 : List Cond := u_ws RJxfd54e TJxfd54e 0
theorem nmJxfd54e : ∀ a, a < 0 → ∀ b, b < 0 → a ≠ b → (TJxfd54e a).2.1 ≠ (TJxfd54e b).2.1 := by decide +kernel
theorem tyJxfd54e_ok : ∀ k, k < 0 → parseFieldDescriptor (TJxfd54e k).2.2.1 = some (tyJxfd54e k) := by decide +kernel
def RJx3cf43 : String := "java/lang/constant/ConstantDesc"
def TJx3cf43 : u_T := fun k => match k with
  | _ => ("", "", "", false)
def tyJx3cf43 : Nat → FieldType := fun k => match k with
  | _ => .int
abbrev wsJx3cf430 : List Cond := u_ws RJx3cf43 TJx3cf43 0
theorem nmJx3cf43 : ∀ a, a < 0 → ∀ b, b < 0 → a ≠ b → (TJx3cf43 a).2.1 ≠ (TJx3cf43 b).2.1 := by decide +kernel
theorem tyJx3cf43_ok : ∀ k, k < 0 → parseFieldDescriptor (TJx3cf43 k).2.2.1 = some (tyJx3cf43 k) := by decide +kernel
def RJ7 : String := "java/util/Arrays"
def TJ7 : u_T := fun k => match k with
  | _ => ("", "", "", false)
def tyJ7 : Nat → FieldType := fun k => match k with
  | _ => .int
abbrev wsJ70 : List Cond := u_ws RJ7 TJ7 0
theorem nmJ7 : ∀ a, a < 0 → ∀ b, b < 0 → a ≠ b → (TJ7 a).2.1 ≠ (TJ7 b).2.1 := by decide +kernel
theorem tyJ7_ok : ∀ k, k < 0 → parseFieldDescriptor (TJ7 k).2.2.1 = some (tyJ7 k) := by decide +kernel
abbrev cJ7_fill_53178 : ByteArray := prog_16_method_103_code
def yJ7_fill_53178 : MethodName := ⟨RJ7, "fill", "([II)V"⟩
def RJ3 : String := "jdk/internal/util/Preconditions"
def TJ3 : u_T := fun k => match k with
  | _ => ("", "", "", false)
def tyJ3 : Nat → FieldType := fun k => match k with
  | _ => .int
abbrev wsJ30 : List Cond := u_ws RJ3 TJ3 0
theorem nmJ3 : ∀ a, a < 0 → ∀ b, b < 0 → a ≠ b → (TJ3 a).2.1 ≠ (TJ3 b).2.1 := by decide +kernel
theorem tyJ3_ok : ∀ k, k < 0 → parseFieldDescriptor (TJ3 k).2.2.1 = some (tyJ3 k) := by decide +kernel
abbrev cJ3_checkIndex_8e157 : ByteArray := prog_17_method_11_code
def yJ3_checkIndex_8e157 : MethodName := ⟨RJ3, "checkIndex", "(IILjava/util/function/BiFunction;)I"⟩
def RL : String := "HatsInRingLaw"
abbrev cL_law : ByteArray := code
def yL_law : MethodName := ⟨RL, "law", "([I)Z"⟩
abbrev vwCl : List vw_C := [(RX1, TX1, 7), (RX2, TX2, 11), (RX3, TX3, 3), (RX4, TX4, 4), (RX6, TX6, 10), (RX7, TX7, 32)]
end
section
theorem dX0_isOne_0 : decode cX0_isOne 0 = .ok (.iload_n 0, 1) := by decide +kernel
theorem dX0_isOne_1 : decode cX0_isOne 1 = .ok (.istore_n 2, 1) := by decide +kernel
theorem dX0_isOne_2 : decode cX0_isOne 2 = .ok (.iconst 0, 1) := by decide +kernel
theorem dX0_isOne_3 : decode cX0_isOne 3 = .ok (.istore_n 3, 1) := by decide +kernel
theorem dX0_isOne_4 : decode cX0_isOne 4 = .ok (.iload_n 3, 1) := by decide +kernel
theorem dX0_isOne_5 : decode cX0_isOne 5 = .ok (.bipush 6, 2) := by decide +kernel
theorem dX0_isOne_7 : decode cX0_isOne 7 = .ok (.if_icmp .ge 29, 3) := by decide +kernel
theorem dX0_isOne_10 : decode cX0_isOne 10 = .ok (.iload_n 2, 1) := by decide +kernel
theorem dX0_isOne_11 : decode cX0_isOne 11 = .ok (.iload_n 1, 1) := by decide +kernel
theorem dX0_isOne_12 : decode cX0_isOne 12 = .ok (.if_icmp .eq 24, 3) := by decide +kernel
theorem dX0_isOne_15 : decode cX0_isOne 15 = .ok (.iload_n 2, 1) := by decide +kernel
theorem dX0_isOne_16 : decode cX0_isOne 16 = .ok (.iconst 0, 1) := by decide +kernel
theorem dX0_isOne_17 : decode cX0_isOne 17 = .ok (.iconst 5, 1) := by decide +kernel
theorem dX0_isOne_18 : decode cX0_isOne 18 = .ok (.invokestatic 9, 3) := by decide +kernel
theorem dX0_isOne_21 : decode cX0_isOne 21 = .ok (.ifCond .eq 15, 3) := by decide +kernel
theorem dX0_isOne_24 : decode cX0_isOne 24 = .ok (.getstatic 13, 3) := by decide +kernel
theorem dX0_isOne_27 : decode cX0_isOne 27 = .ok (.iload_n 2, 1) := by decide +kernel
theorem dX0_isOne_28 : decode cX0_isOne 28 = .ok (.iaload, 1) := by decide +kernel
theorem dX0_isOne_29 : decode cX0_isOne 29 = .ok (.istore_n 2, 1) := by decide +kernel
theorem dX0_isOne_30 : decode cX0_isOne 30 = .ok (.iinc 3 1, 3) := by decide +kernel
theorem dX0_isOne_33 : decode cX0_isOne 33 = .ok (.goto (-29), 3) := by decide +kernel
theorem dX0_isOne_36 : decode cX0_isOne 36 = .ok (.iload_n 2, 1) := by decide +kernel
theorem dX0_isOne_37 : decode cX0_isOne 37 = .ok (.iload_n 1, 1) := by decide +kernel
theorem dX0_isOne_38 : decode cX0_isOne 38 = .ok (.if_icmp .ne 7, 3) := by decide +kernel
theorem dX0_isOne_41 : decode cX0_isOne 41 = .ok (.iconst 1, 1) := by decide +kernel
theorem dX0_isOne_42 : decode cX0_isOne 42 = .ok (.goto 4, 3) := by decide +kernel
theorem dX0_isOne_45 : decode cX0_isOne 45 = .ok (.iconst 0, 1) := by decide +kernel
theorem dX0_isOne_46 : decode cX0_isOne 46 = .ok (.ireturn, 1) := by decide +kernel
theorem dX0_goes_0 : decode cX0_goes 0 = .ok (.iload_n 0, 1) := by decide +kernel
theorem dX0_goes_1 : decode cX0_goes 1 = .ok (.tableswitch 67 2 5 #[31, 50, 31, 65], 31) := by decide +kernel
theorem dX0_goes_32 : decode cX0_goes 32 = .ok (.iload_n 3, 1) := by decide +kernel
theorem dX0_goes_33 : decode cX0_goes 33 = .ok (.ifCond .ne 12, 3) := by decide +kernel
theorem dX0_goes_36 : decode cX0_goes 36 = .ok (.iload_n 2, 1) := by decide +kernel
theorem dX0_goes_37 : decode cX0_goes 37 = .ok (.iconst 3, 1) := by decide +kernel
theorem dX0_goes_38 : decode cX0_goes 38 = .ok (.irem, 1) := by decide +kernel
theorem dX0_goes_39 : decode cX0_goes 39 = .ok (.iload_n 1, 1) := by decide +kernel
theorem dX0_goes_40 : decode cX0_goes 40 = .ok (.iconst 3, 1) := by decide +kernel
theorem dX0_goes_41 : decode cX0_goes 41 = .ok (.irem, 1) := by decide +kernel
theorem dX0_goes_42 : decode cX0_goes 42 = .ok (.if_icmp .ne 7, 3) := by decide +kernel
theorem dX0_goes_45 : decode cX0_goes 45 = .ok (.iconst 1, 1) := by decide +kernel
theorem dX0_goes_46 : decode cX0_goes 46 = .ok (.goto 4, 3) := by decide +kernel
theorem dX0_goes_49 : decode cX0_goes 49 = .ok (.iconst 0, 1) := by decide +kernel
theorem dX0_goes_50 : decode cX0_goes 50 = .ok (.ireturn, 1) := by decide +kernel
theorem dX0_goes_51 : decode cX0_goes 51 = .ok (.iload_n 3, 1) := by decide +kernel
theorem dX0_goes_52 : decode cX0_goes 52 = .ok (.ifCond .eq 12, 3) := by decide +kernel
theorem dX0_goes_55 : decode cX0_goes 55 = .ok (.iload_n 2, 1) := by decide +kernel
theorem dX0_goes_56 : decode cX0_goes 56 = .ok (.iload_n 1, 1) := by decide +kernel
theorem dX0_goes_57 : decode cX0_goes 57 = .ok (.if_icmp .lt 7, 3) := by decide +kernel
theorem dX0_goes_60 : decode cX0_goes 60 = .ok (.iconst 1, 1) := by decide +kernel
theorem dX0_goes_61 : decode cX0_goes 61 = .ok (.goto 4, 3) := by decide +kernel
theorem dX0_goes_64 : decode cX0_goes 64 = .ok (.iconst 0, 1) := by decide +kernel
theorem dX0_goes_65 : decode cX0_goes 65 = .ok (.ireturn, 1) := by decide +kernel
theorem dX0_goes_66 : decode cX0_goes 66 = .ok (.iconst 0, 1) := by decide +kernel
theorem dX0_goes_67 : decode cX0_goes 67 = .ok (.ireturn, 1) := by decide +kernel
theorem dX0_goes_68 : decode cX0_goes 68 = .ok (.iload_n 3, 1) := by decide +kernel
theorem dX0_goes_69 : decode cX0_goes 69 = .ok (.ireturn, 1) := by decide +kernel
theorem dX0_hits_0 : decode cX0_hits 0 = .ok (.iload_n 2, 1) := by decide +kernel
theorem dX0_hits_1 : decode cX0_hits 1 = .ok (.iconst 1, 1) := by decide +kernel
theorem dX0_hits_2 : decode cX0_hits 2 = .ok (.if_icmp .ne 10, 3) := by decide +kernel
theorem dX0_hits_5 : decode cX0_hits 5 = .ok (.iconst 2, 1) := by decide +kernel
theorem dX0_hits_6 : decode cX0_hits 6 = .ok (.iload 4, 2) := by decide +kernel
theorem dX0_hits_8 : decode cX0_hits 8 = .ok (.imul, 1) := by decide +kernel
theorem dX0_hits_9 : decode cX0_hits 9 = .ok (.goto 5, 3) := by decide +kernel
theorem dX0_hits_12 : decode cX0_hits 12 = .ok (.iload 4, 2) := by decide +kernel
theorem dX0_hits_14 : decode cX0_hits 14 = .ok (.istore 5, 2) := by decide +kernel
theorem dX0_hits_16 : decode cX0_hits 16 = .ok (.iload_n 0, 1) := by decide +kernel
theorem dX0_hits_17 : decode cX0_hits 17 = .ok (.tableswitch 68 1 4 #[31, 36, 39, 54], 31) := by decide +kernel
theorem dX0_hits_48 : decode cX0_hits 48 = .ok (.iload 4, 2) := by decide +kernel
theorem dX0_hits_50 : decode cX0_hits 50 = .ok (.iload_n 1, 1) := by decide +kernel
theorem dX0_hits_51 : decode cX0_hits 51 = .ok (.iadd, 1) := by decide +kernel
theorem dX0_hits_52 : decode cX0_hits 52 = .ok (.ireturn, 1) := by decide +kernel
theorem dX0_hits_53 : decode cX0_hits 53 = .ok (.iload 5, 2) := by decide +kernel
theorem dX0_hits_55 : decode cX0_hits 55 = .ok (.ireturn, 1) := by decide +kernel
theorem dX0_hits_56 : decode cX0_hits 56 = .ok (.iload_n 3, 1) := by decide +kernel
theorem dX0_hits_57 : decode cX0_hits 57 = .ok (.iconst 2, 1) := by decide +kernel
theorem dX0_hits_58 : decode cX0_hits 58 = .ok (.irem, 1) := by decide +kernel
theorem dX0_hits_59 : decode cX0_hits 59 = .ok (.ifCond .ne 10, 3) := by decide +kernel
theorem dX0_hits_62 : decode cX0_hits 62 = .ok (.iload 4, 2) := by decide +kernel
theorem dX0_hits_64 : decode cX0_hits 64 = .ok (.iload_n 1, 1) := by decide +kernel
theorem dX0_hits_65 : decode cX0_hits 65 = .ok (.iadd, 1) := by decide +kernel
theorem dX0_hits_66 : decode cX0_hits 66 = .ok (.goto 4, 3) := by decide +kernel
theorem dX0_hits_69 : decode cX0_hits 69 = .ok (.iconst 1, 1) := by decide +kernel
theorem dX0_hits_70 : decode cX0_hits 70 = .ok (.ireturn, 1) := by decide +kernel
theorem dX0_hits_71 : decode cX0_hits 71 = .ok (.iload_n 2, 1) := by decide +kernel
theorem dX0_hits_72 : decode cX0_hits 72 = .ok (.iconst 5, 1) := by decide +kernel
theorem dX0_hits_73 : decode cX0_hits 73 = .ok (.if_icmp .ne 7, 3) := by decide +kernel
theorem dX0_hits_76 : decode cX0_hits 76 = .ok (.iconst 0, 1) := by decide +kernel
theorem dX0_hits_77 : decode cX0_hits 77 = .ok (.goto 7, 3) := by decide +kernel
theorem dX0_hits_80 : decode cX0_hits 80 = .ok (.iload 5, 2) := by decide +kernel
theorem dX0_hits_82 : decode cX0_hits 82 = .ok (.iconst 1, 1) := by decide +kernel
theorem dX0_hits_83 : decode cX0_hits 83 = .ok (.iadd, 1) := by decide +kernel
theorem dX0_hits_84 : decode cX0_hits 84 = .ok (.ireturn, 1) := by decide +kernel
theorem dX0_hits_85 : decode cX0_hits 85 = .ok (.iload 4, 2) := by decide +kernel
theorem dX0_hits_87 : decode cX0_hits 87 = .ok (.ireturn, 1) := by decide +kernel
theorem dX0_soft_0 : decode cX0_soft 0 = .ok (.iload_n 0, 1) := by decide +kernel
theorem dX0_soft_1 : decode cX0_soft 1 = .ok (.tableswitch 49 1 5 #[35, 49, 35, 39, 43], 35) := by decide +kernel
theorem dX0_soft_36 : decode cX0_soft 36 = .ok (.iload_n 2, 1) := by decide +kernel
theorem dX0_soft_37 : decode cX0_soft 37 = .ok (.iload_n 1, 1) := by decide +kernel
theorem dX0_soft_38 : decode cX0_soft 38 = .ok (.isub, 1) := by decide +kernel
theorem dX0_soft_39 : decode cX0_soft 39 = .ok (.ireturn, 1) := by decide +kernel
theorem dX0_soft_40 : decode cX0_soft 40 = .ok (.iload_n 2, 1) := by decide +kernel
theorem dX0_soft_41 : decode cX0_soft 41 = .ok (.iload_n 1, 1) := by decide +kernel
theorem dX0_soft_42 : decode cX0_soft 42 = .ok (.iadd, 1) := by decide +kernel
theorem dX0_soft_43 : decode cX0_soft 43 = .ok (.ireturn, 1) := by decide +kernel
theorem dX0_soft_44 : decode cX0_soft 44 = .ok (.iconst 3, 1) := by decide +kernel
theorem dX0_soft_45 : decode cX0_soft 45 = .ok (.iload_n 2, 1) := by decide +kernel
theorem dX0_soft_46 : decode cX0_soft 46 = .ok (.imul, 1) := by decide +kernel
theorem dX0_soft_47 : decode cX0_soft 47 = .ok (.iload_n 1, 1) := by decide +kernel
theorem dX0_soft_48 : decode cX0_soft 48 = .ok (.iadd, 1) := by decide +kernel
theorem dX0_soft_49 : decode cX0_soft 49 = .ok (.ireturn, 1) := by decide +kernel
theorem dX0_soft_50 : decode cX0_soft 50 = .ok (.iload_n 2, 1) := by decide +kernel
theorem dX0_soft_51 : decode cX0_soft 51 = .ok (.ireturn, 1) := by decide +kernel
theorem dX1_init_0 : decode cX1_init 0 = .ok (.aload_n 0, 1) := by decide +kernel
theorem dX1_init_1 : decode cX1_init 1 = .ok (.invokespecial 3, 3) := by decide +kernel
theorem dX1_init_4 : decode cX1_init 4 = .ok (.return_, 1) := by decide +kernel
theorem dX1_read_0 : decode cX1_read 0 = .ok (.aload_n 0, 1) := by decide +kernel
theorem dX1_read_1 : decode cX1_read 1 = .ok (.aload_n 1, 1) := by decide +kernel
theorem dX1_read_2 : decode cX1_read 2 = .ok (.putfield 9, 3) := by decide +kernel
theorem dX1_read_5 : decode cX1_read 5 = .ok (.aload_n 0, 1) := by decide +kernel
theorem dX1_read_6 : decode cX1_read 6 = .ok (.iload_n 2, 1) := by decide +kernel
theorem dX1_read_7 : decode cX1_read 7 = .ok (.aload_n 1, 1) := by decide +kernel
theorem dX1_read_8 : decode cX1_read 8 = .ok (.arraylength, 1) := by decide +kernel
theorem dX1_read_9 : decode cX1_read 9 = .ok (.invokestatic 15, 3) := by decide +kernel
theorem dX1_read_12 : decode cX1_read 12 = .ok (.putfield 21, 3) := by decide +kernel
theorem dX1_read_15 : decode cX1_read 15 = .ok (.aload_n 0, 1) := by decide +kernel
theorem dX1_read_16 : decode cX1_read 16 = .ok (.iconst 0, 1) := by decide +kernel
theorem dX1_read_17 : decode cX1_read 17 = .ok (.putfield 25, 3) := by decide +kernel
theorem dX1_read_20 : decode cX1_read 20 = .ok (.aload_n 0, 1) := by decide +kernel
theorem dX1_read_21 : decode cX1_read 21 = .ok (.iconst (-1), 1) := by decide +kernel
theorem dX1_read_22 : decode cX1_read 22 = .ok (.putfield 28, 3) := by decide +kernel
theorem dX1_read_25 : decode cX1_read 25 = .ok (.aload_n 0, 1) := by decide +kernel
theorem dX1_read_26 : decode cX1_read 26 = .ok (.aload_n 3, 1) := by decide +kernel
theorem dX1_read_27 : decode cX1_read 27 = .ok (.putfield 31, 3) := by decide +kernel
theorem dX1_read_30 : decode cX1_read 30 = .ok (.aload_n 0, 1) := by decide +kernel
theorem dX1_read_31 : decode cX1_read 31 = .ok (.getfield 31, 3) := by decide +kernel
theorem dX1_read_34 : decode cX1_read 34 = .ok (.invokevirtual 35, 3) := by decide +kernel
theorem dX1_read_37 : decode cX1_read 37 = .ok (.aload_n 0, 1) := by decide +kernel
theorem dX1_read_38 : decode cX1_read 38 = .ok (.invokevirtual 40, 3) := by decide +kernel
theorem dX1_read_41 : decode cX1_read 41 = .ok (.iconst 0, 1) := by decide +kernel
theorem dX1_read_42 : decode cX1_read 42 = .ok (.istore 4, 2) := by decide +kernel
theorem dX1_read_44 : decode cX1_read 44 = .ok (.iload 4, 2) := by decide +kernel
theorem dX1_read_46 : decode cX1_read 46 = .ok (.iconst 3, 1) := by decide +kernel
theorem dX1_read_47 : decode cX1_read 47 = .ok (.if_icmp .ge 56, 3) := by decide +kernel
theorem dX1_read_50 : decode cX1_read 50 = .ok (.aload_n 0, 1) := by decide +kernel
theorem dX1_read_51 : decode cX1_read 51 = .ok (.iload 4, 2) := by decide +kernel
theorem dX1_read_53 : decode cX1_read 53 = .ok (.ifCond .ne 8, 3) := by decide +kernel
theorem dX1_read_56 : decode cX1_read 56 = .ok (.bipush (-3), 2) := by decide +kernel
theorem dX1_read_58 : decode cX1_read 58 = .ok (.goto 16, 3) := by decide +kernel
theorem dX1_read_61 : decode cX1_read 61 = .ok (.iload 4, 2) := by decide +kernel
theorem dX1_read_63 : decode cX1_read 63 = .ok (.iconst 1, 1) := by decide +kernel
theorem dX1_read_64 : decode cX1_read 64 = .ok (.if_icmp .ne 8, 3) := by decide +kernel
theorem dX1_read_67 : decode cX1_read 67 = .ok (.bipush (-4), 2) := by decide +kernel
theorem dX1_read_69 : decode cX1_read 69 = .ok (.goto 5, 3) := by decide +kernel
theorem dX1_read_72 : decode cX1_read 72 = .ok (.bipush (-5), 2) := by decide +kernel
theorem dX1_read_74 : decode cX1_read 74 = .ok (.invokevirtual 45, 3) := by decide +kernel
theorem dX1_read_77 : decode cX1_read 77 = .ok (.aload_n 0, 1) := by decide +kernel
theorem dX1_read_78 : decode cX1_read 78 = .ok (.iconst 0, 1) := by decide +kernel
theorem dX1_read_79 : decode cX1_read 79 = .ok (.invokevirtual 49, 3) := by decide +kernel
theorem dX1_read_82 : decode cX1_read 82 = .ok (.aload_n 0, 1) := by decide +kernel
theorem dX1_read_83 : decode cX1_read 83 = .ok (.bipush (-17), 2) := by decide +kernel
theorem dX1_read_85 : decode cX1_read 85 = .ok (.invokevirtual 45, 3) := by decide +kernel
theorem dX1_read_88 : decode cX1_read 88 = .ok (.aload_n 0, 1) := by decide +kernel
theorem dX1_read_89 : decode cX1_read 89 = .ok (.getfield 31, 3) := by decide +kernel
theorem dX1_read_92 : decode cX1_read 92 = .ok (.iload 4, 2) := by decide +kernel
theorem dX1_read_94 : decode cX1_read 94 = .ok (.invokevirtual 52, 3) := by decide +kernel
theorem dX1_read_97 : decode cX1_read 97 = .ok (.iinc 4 1, 3) := by decide +kernel
theorem dX1_read_100 : decode cX1_read 100 = .ok (.goto (-56), 3) := by decide +kernel
theorem dX1_read_103 : decode cX1_read 103 = .ok (.aload_n 0, 1) := by decide +kernel
theorem dX1_read_104 : decode cX1_read 104 = .ok (.getfield 55, 3) := by decide +kernel
theorem dX1_read_107 : decode cX1_read 107 = .ok (.iconst (-1), 1) := by decide +kernel
theorem dX1_read_108 : decode cX1_read 108 = .ok (.if_icmp .eq 7, 3) := by decide +kernel
theorem dX1_read_111 : decode cX1_read 111 = .ok (.aload_n 0, 1) := by decide +kernel
theorem dX1_read_112 : decode cX1_read 112 = .ok (.invokevirtual 58, 3) := by decide +kernel
theorem dX1_read_115 : decode cX1_read 115 = .ok (.aload_n 0, 1) := by decide +kernel
theorem dX1_read_116 : decode cX1_read 116 = .ok (.getfield 28, 3) := by decide +kernel
theorem dX1_read_119 : decode cX1_read 119 = .ok (.ireturn, 1) := by decide +kernel
theorem dX1_readE_0 : decode cX1_readE 0 = .ok (.aload_n 0, 1) := by decide +kernel
theorem dX1_readE_1 : decode cX1_readE 1 = .ok (.iload_n 1, 1) := by decide +kernel
theorem dX1_readE_2 : decode cX1_readE 2 = .ok (.invokevirtual 61, 3) := by decide +kernel
theorem dX1_readE_5 : decode cX1_readE 5 = .ok (.iconst 0, 1) := by decide +kernel
theorem dX1_readE_6 : decode cX1_readE 6 = .ok (.istore_n 2, 1) := by decide +kernel
theorem dX1_readE_7 : decode cX1_readE 7 = .ok (.iload_n 2, 1) := by decide +kernel
theorem dX1_readE_8 : decode cX1_readE 8 = .ok (.sipush 160, 3) := by decide +kernel
theorem dX1_readE_11 : decode cX1_readE 11 = .ok (.if_icmp .ge 36, 3) := by decide +kernel
theorem dX1_readE_14 : decode cX1_readE 14 = .ok (.aload_n 0, 1) := by decide +kernel
theorem dX1_readE_15 : decode cX1_readE 15 = .ok (.getfield 55, 3) := by decide +kernel
theorem dX1_readE_18 : decode cX1_readE 18 = .ok (.bipush (-6), 2) := by decide +kernel
theorem dX1_readE_20 : decode cX1_readE 20 = .ok (.if_icmp .ne 27, 3) := by decide +kernel
theorem dX1_readE_23 : decode cX1_readE 23 = .ok (.aload_n 0, 1) := by decide +kernel
theorem dX1_readE_24 : decode cX1_readE 24 = .ok (.invokevirtual 40, 3) := by decide +kernel
theorem dX1_readE_27 : decode cX1_readE 27 = .ok (.aload_n 0, 1) := by decide +kernel
theorem dX1_readE_28 : decode cX1_readE 28 = .ok (.iload_n 1, 1) := by decide +kernel
theorem dX1_readE_29 : decode cX1_readE 29 = .ok (.invokevirtual 61, 3) := by decide +kernel
theorem dX1_readE_32 : decode cX1_readE 32 = .ok (.aload_n 0, 1) := by decide +kernel
theorem dX1_readE_33 : decode cX1_readE 33 = .ok (.getfield 31, 3) := by decide +kernel
theorem dX1_readE_36 : decode cX1_readE 36 = .ok (.bipush (-6), 2) := by decide +kernel
theorem dX1_readE_38 : decode cX1_readE 38 = .ok (.invokevirtual 64, 3) := by decide +kernel
theorem dX1_readE_41 : decode cX1_readE 41 = .ok (.iinc 2 1, 3) := by decide +kernel
theorem dX1_readE_44 : decode cX1_readE 44 = .ok (.goto (-37), 3) := by decide +kernel
theorem dX1_readE_47 : decode cX1_readE 47 = .ok (.return_, 1) := by decide +kernel
theorem dX1_readAnd_0 : decode cX1_readAnd 0 = .ok (.aload_n 0, 1) := by decide +kernel
theorem dX1_readAnd_1 : decode cX1_readAnd 1 = .ok (.iload_n 1, 1) := by decide +kernel
theorem dX1_readAnd_2 : decode cX1_readAnd 2 = .ok (.invokevirtual 67, 3) := by decide +kernel
theorem dX1_readAnd_5 : decode cX1_readAnd 5 = .ok (.iconst 0, 1) := by decide +kernel
theorem dX1_readAnd_6 : decode cX1_readAnd 6 = .ok (.istore_n 2, 1) := by decide +kernel
theorem dX1_readAnd_7 : decode cX1_readAnd 7 = .ok (.iload_n 2, 1) := by decide +kernel
theorem dX1_readAnd_8 : decode cX1_readAnd 8 = .ok (.sipush 160, 3) := by decide +kernel
theorem dX1_readAnd_11 : decode cX1_readAnd 11 = .ok (.if_icmp .ge 36, 3) := by decide +kernel
theorem dX1_readAnd_14 : decode cX1_readAnd 14 = .ok (.aload_n 0, 1) := by decide +kernel
theorem dX1_readAnd_15 : decode cX1_readAnd 15 = .ok (.getfield 55, 3) := by decide +kernel
theorem dX1_readAnd_18 : decode cX1_readAnd 18 = .ok (.bipush (-7), 2) := by decide +kernel
theorem dX1_readAnd_20 : decode cX1_readAnd 20 = .ok (.if_icmp .ne 27, 3) := by decide +kernel
theorem dX1_readAnd_23 : decode cX1_readAnd 23 = .ok (.aload_n 0, 1) := by decide +kernel
theorem dX1_readAnd_24 : decode cX1_readAnd 24 = .ok (.invokevirtual 40, 3) := by decide +kernel
theorem dX1_readAnd_27 : decode cX1_readAnd 27 = .ok (.aload_n 0, 1) := by decide +kernel
theorem dX1_readAnd_28 : decode cX1_readAnd 28 = .ok (.iload_n 1, 1) := by decide +kernel
theorem dX1_readAnd_29 : decode cX1_readAnd 29 = .ok (.invokevirtual 67, 3) := by decide +kernel
theorem dX1_readAnd_32 : decode cX1_readAnd 32 = .ok (.aload_n 0, 1) := by decide +kernel
theorem dX1_readAnd_33 : decode cX1_readAnd 33 = .ok (.getfield 31, 3) := by decide +kernel
theorem dX1_readAnd_36 : decode cX1_readAnd 36 = .ok (.bipush (-7), 2) := by decide +kernel
theorem dX1_readAnd_38 : decode cX1_readAnd 38 = .ok (.invokevirtual 64, 3) := by decide +kernel
theorem dX1_readAnd_41 : decode cX1_readAnd 41 = .ok (.iinc 2 1, 3) := by decide +kernel
theorem dX1_readAnd_44 : decode cX1_readAnd 44 = .ok (.goto (-37), 3) := by decide +kernel
theorem dX1_readAnd_47 : decode cX1_readAnd 47 = .ok (.return_, 1) := by decide +kernel
theorem dX1_readNot_0 : decode cX1_readNot 0 = .ok (.aload_n 0, 1) := by decide +kernel
theorem dX1_readNot_1 : decode cX1_readNot 1 = .ok (.getfield 55, 3) := by decide +kernel
theorem dX1_readNot_4 : decode cX1_readNot 4 = .ok (.bipush (-8), 2) := by decide +kernel
theorem dX1_readNot_6 : decode cX1_readNot 6 = .ok (.if_icmp .ne 29, 3) := by decide +kernel
theorem dX1_readNot_9 : decode cX1_readNot 9 = .ok (.iload_n 1, 1) := by decide +kernel
theorem dX1_readNot_10 : decode cX1_readNot 10 = .ok (.iconst 5, 1) := by decide +kernel
theorem dX1_readNot_11 : decode cX1_readNot 11 = .ok (.if_icmp .ge 24, 3) := by decide +kernel
theorem dX1_readNot_14 : decode cX1_readNot 14 = .ok (.aload_n 0, 1) := by decide +kernel
theorem dX1_readNot_15 : decode cX1_readNot 15 = .ok (.invokevirtual 40, 3) := by decide +kernel
theorem dX1_readNot_18 : decode cX1_readNot 18 = .ok (.aload_n 0, 1) := by decide +kernel
theorem dX1_readNot_19 : decode cX1_readNot 19 = .ok (.iload_n 1, 1) := by decide +kernel
theorem dX1_readNot_20 : decode cX1_readNot 20 = .ok (.iconst 1, 1) := by decide +kernel
theorem dX1_readNot_21 : decode cX1_readNot 21 = .ok (.iadd, 1) := by decide +kernel
theorem dX1_readNot_22 : decode cX1_readNot 22 = .ok (.invokevirtual 67, 3) := by decide +kernel
theorem dX1_readNot_25 : decode cX1_readNot 25 = .ok (.aload_n 0, 1) := by decide +kernel
theorem dX1_readNot_26 : decode cX1_readNot 26 = .ok (.getfield 31, 3) := by decide +kernel
theorem dX1_readNot_29 : decode cX1_readNot 29 = .ok (.bipush (-8), 2) := by decide +kernel
theorem dX1_readNot_31 : decode cX1_readNot 31 = .ok (.invokevirtual 64, 3) := by decide +kernel
theorem dX1_readNot_34 : decode cX1_readNot 34 = .ok (.return_, 1) := by decide +kernel
theorem dX1_readNot_35 : decode cX1_readNot 35 = .ok (.aload_n 0, 1) := by decide +kernel
theorem dX1_readNot_36 : decode cX1_readNot 36 = .ok (.iload_n 1, 1) := by decide +kernel
theorem dX1_readNot_37 : decode cX1_readNot 37 = .ok (.invokevirtual 70, 3) := by decide +kernel
theorem dX1_readNot_40 : decode cX1_readNot 40 = .ok (.aload_n 0, 1) := by decide +kernel
theorem dX1_readNot_41 : decode cX1_readNot 41 = .ok (.getfield 55, 3) := by decide +kernel
theorem dX1_readNot_44 : decode cX1_readNot 44 = .ok (.bipush (-21), 2) := by decide +kernel
theorem dX1_readNot_46 : decode cX1_readNot 46 = .ok (.if_icmp .eq 12, 3) := by decide +kernel
theorem dX1_readNot_49 : decode cX1_readNot 49 = .ok (.aload_n 0, 1) := by decide +kernel
theorem dX1_readNot_50 : decode cX1_readNot 50 = .ok (.getfield 55, 3) := by decide +kernel
theorem dX1_readNot_53 : decode cX1_readNot 53 = .ok (.bipush (-22), 2) := by decide +kernel
theorem dX1_readNot_55 : decode cX1_readNot 55 = .ok (.if_icmp .ne 25, 3) := by decide +kernel
theorem dX1_readNot_58 : decode cX1_readNot 58 = .ok (.aload_n 0, 1) := by decide +kernel
theorem dX1_readNot_59 : decode cX1_readNot 59 = .ok (.getfield 55, 3) := by decide +kernel
theorem dX1_readNot_62 : decode cX1_readNot 62 = .ok (.istore_n 2, 1) := by decide +kernel
theorem dX1_readNot_63 : decode cX1_readNot 63 = .ok (.aload_n 0, 1) := by decide +kernel
theorem dX1_readNot_64 : decode cX1_readNot 64 = .ok (.invokevirtual 40, 3) := by decide +kernel
theorem dX1_readNot_67 : decode cX1_readNot 67 = .ok (.aload_n 0, 1) := by decide +kernel
theorem dX1_readNot_68 : decode cX1_readNot 68 = .ok (.iload_n 1, 1) := by decide +kernel
theorem dX1_readNot_69 : decode cX1_readNot 69 = .ok (.invokevirtual 70, 3) := by decide +kernel
theorem dX1_readNot_72 : decode cX1_readNot 72 = .ok (.aload_n 0, 1) := by decide +kernel
theorem dX1_readNot_73 : decode cX1_readNot 73 = .ok (.getfield 31, 3) := by decide +kernel
theorem dX1_readNot_76 : decode cX1_readNot 76 = .ok (.iload_n 2, 1) := by decide +kernel
theorem dX1_readNot_77 : decode cX1_readNot 77 = .ok (.invokevirtual 64, 3) := by decide +kernel
theorem dX1_readNot_80 : decode cX1_readNot 80 = .ok (.return_, 1) := by decide +kernel
theorem dX1_readSum_0 : decode cX1_readSum 0 = .ok (.aload_n 0, 1) := by decide +kernel
theorem dX1_readSum_1 : decode cX1_readSum 1 = .ok (.iload_n 1, 1) := by decide +kernel
theorem dX1_readSum_2 : decode cX1_readSum 2 = .ok (.invokevirtual 73, 3) := by decide +kernel
theorem dX1_readSum_5 : decode cX1_readSum 5 = .ok (.iconst 0, 1) := by decide +kernel
theorem dX1_readSum_6 : decode cX1_readSum 6 = .ok (.istore_n 2, 1) := by decide +kernel
theorem dX1_readSum_7 : decode cX1_readSum 7 = .ok (.iload_n 2, 1) := by decide +kernel
theorem dX1_readSum_8 : decode cX1_readSum 8 = .ok (.sipush 160, 3) := by decide +kernel
theorem dX1_readSum_11 : decode cX1_readSum 11 = .ok (.if_icmp .ge 49, 3) := by decide +kernel
theorem dX1_readSum_14 : decode cX1_readSum 14 = .ok (.aload_n 0, 1) := by decide +kernel
theorem dX1_readSum_15 : decode cX1_readSum 15 = .ok (.getfield 55, 3) := by decide +kernel
theorem dX1_readSum_18 : decode cX1_readSum 18 = .ok (.bipush (-18), 2) := by decide +kernel
theorem dX1_readSum_20 : decode cX1_readSum 20 = .ok (.if_icmp .eq 12, 3) := by decide +kernel
theorem dX1_readSum_23 : decode cX1_readSum 23 = .ok (.aload_n 0, 1) := by decide +kernel
theorem dX1_readSum_24 : decode cX1_readSum 24 = .ok (.getfield 55, 3) := by decide +kernel
theorem dX1_readSum_27 : decode cX1_readSum 27 = .ok (.bipush (-19), 2) := by decide +kernel
theorem dX1_readSum_29 : decode cX1_readSum 29 = .ok (.if_icmp .ne 31, 3) := by decide +kernel
theorem dX1_readSum_32 : decode cX1_readSum 32 = .ok (.aload_n 0, 1) := by decide +kernel
theorem dX1_readSum_33 : decode cX1_readSum 33 = .ok (.getfield 55, 3) := by decide +kernel
theorem dX1_readSum_36 : decode cX1_readSum 36 = .ok (.istore_n 3, 1) := by decide +kernel
theorem dX1_readSum_37 : decode cX1_readSum 37 = .ok (.aload_n 0, 1) := by decide +kernel
theorem dX1_readSum_38 : decode cX1_readSum 38 = .ok (.invokevirtual 40, 3) := by decide +kernel
theorem dX1_readSum_41 : decode cX1_readSum 41 = .ok (.aload_n 0, 1) := by decide +kernel
theorem dX1_readSum_42 : decode cX1_readSum 42 = .ok (.iload_n 1, 1) := by decide +kernel
theorem dX1_readSum_43 : decode cX1_readSum 43 = .ok (.invokevirtual 73, 3) := by decide +kernel
theorem dX1_readSum_46 : decode cX1_readSum 46 = .ok (.aload_n 0, 1) := by decide +kernel
theorem dX1_readSum_47 : decode cX1_readSum 47 = .ok (.getfield 31, 3) := by decide +kernel
theorem dX1_readSum_50 : decode cX1_readSum 50 = .ok (.iload_n 3, 1) := by decide +kernel
theorem dX1_readSum_51 : decode cX1_readSum 51 = .ok (.invokevirtual 64, 3) := by decide +kernel
theorem dX1_readSum_54 : decode cX1_readSum 54 = .ok (.iinc 2 1, 3) := by decide +kernel
theorem dX1_readSum_57 : decode cX1_readSum 57 = .ok (.goto (-50), 3) := by decide +kernel
theorem dX1_readSum_60 : decode cX1_readSum 60 = .ok (.return_, 1) := by decide +kernel
theorem dX1_readTerm_0 : decode cX1_readTerm 0 = .ok (.aload_n 0, 1) := by decide +kernel
theorem dX1_readTerm_1 : decode cX1_readTerm 1 = .ok (.iload_n 1, 1) := by decide +kernel
theorem dX1_readTerm_2 : decode cX1_readTerm 2 = .ok (.invokevirtual 76, 3) := by decide +kernel
theorem dX1_readTerm_5 : decode cX1_readTerm 5 = .ok (.iconst 0, 1) := by decide +kernel
theorem dX1_readTerm_6 : decode cX1_readTerm 6 = .ok (.istore_n 2, 1) := by decide +kernel
theorem dX1_readTerm_7 : decode cX1_readTerm 7 = .ok (.iload_n 2, 1) := by decide +kernel
theorem dX1_readTerm_8 : decode cX1_readTerm 8 = .ok (.sipush 160, 3) := by decide +kernel
theorem dX1_readTerm_11 : decode cX1_readTerm 11 = .ok (.if_icmp .ge 36, 3) := by decide +kernel
theorem dX1_readTerm_14 : decode cX1_readTerm 14 = .ok (.aload_n 0, 1) := by decide +kernel
theorem dX1_readTerm_15 : decode cX1_readTerm 15 = .ok (.getfield 55, 3) := by decide +kernel
theorem dX1_readTerm_18 : decode cX1_readTerm 18 = .ok (.bipush (-20), 2) := by decide +kernel
theorem dX1_readTerm_20 : decode cX1_readTerm 20 = .ok (.if_icmp .ne 27, 3) := by decide +kernel
theorem dX1_readTerm_23 : decode cX1_readTerm 23 = .ok (.aload_n 0, 1) := by decide +kernel
theorem dX1_readTerm_24 : decode cX1_readTerm 24 = .ok (.invokevirtual 40, 3) := by decide +kernel
theorem dX1_readTerm_27 : decode cX1_readTerm 27 = .ok (.aload_n 0, 1) := by decide +kernel
theorem dX1_readTerm_28 : decode cX1_readTerm 28 = .ok (.iload_n 1, 1) := by decide +kernel
theorem dX1_readTerm_29 : decode cX1_readTerm 29 = .ok (.invokevirtual 76, 3) := by decide +kernel
theorem dX1_readTerm_32 : decode cX1_readTerm 32 = .ok (.aload_n 0, 1) := by decide +kernel
theorem dX1_readTerm_33 : decode cX1_readTerm 33 = .ok (.getfield 31, 3) := by decide +kernel
theorem dX1_readTerm_36 : decode cX1_readTerm 36 = .ok (.bipush (-20), 2) := by decide +kernel
theorem dX1_readTerm_38 : decode cX1_readTerm 38 = .ok (.invokevirtual 64, 3) := by decide +kernel
theorem dX1_readTerm_41 : decode cX1_readTerm 41 = .ok (.iinc 2 1, 3) := by decide +kernel
theorem dX1_readTerm_44 : decode cX1_readTerm 44 = .ok (.goto (-37), 3) := by decide +kernel
theorem dX1_readTerm_47 : decode cX1_readTerm 47 = .ok (.return_, 1) := by decide +kernel
theorem dX1_readOne_0 : decode cX1_readOne 0 = .ok (.aload_n 0, 1) := by decide +kernel
theorem dX1_readOne_1 : decode cX1_readOne 1 = .ok (.getfield 55, 3) := by decide +kernel
theorem dX1_readOne_4 : decode cX1_readOne 4 = .ok (.ifCond .ge 13, 3) := by decide +kernel
theorem dX1_readOne_7 : decode cX1_readOne 7 = .ok (.aload_n 0, 1) := by decide +kernel
theorem dX1_readOne_8 : decode cX1_readOne 8 = .ok (.getfield 55, 3) := by decide +kernel
theorem dX1_readOne_11 : decode cX1_readOne 11 = .ok (.invokestatic 79, 3) := by decide +kernel
theorem dX1_readOne_14 : decode cX1_readOne 14 = .ok (.ifCond .eq 21, 3) := by decide +kernel
theorem dX1_readOne_17 : decode cX1_readOne 17 = .ok (.aload_n 0, 1) := by decide +kernel
theorem dX1_readOne_18 : decode cX1_readOne 18 = .ok (.getfield 31, 3) := by decide +kernel
theorem dX1_readOne_21 : decode cX1_readOne 21 = .ok (.aload_n 0, 1) := by decide +kernel
theorem dX1_readOne_22 : decode cX1_readOne 22 = .ok (.getfield 55, 3) := by decide +kernel
theorem dX1_readOne_25 : decode cX1_readOne 25 = .ok (.invokevirtual 64, 3) := by decide +kernel
theorem dX1_readOne_28 : decode cX1_readOne 28 = .ok (.aload_n 0, 1) := by decide +kernel
theorem dX1_readOne_29 : decode cX1_readOne 29 = .ok (.invokevirtual 40, 3) := by decide +kernel
theorem dX1_readOne_32 : decode cX1_readOne 32 = .ok (.goto 78, 3) := by decide +kernel
theorem dX1_readOne_35 : decode cX1_readOne 35 = .ok (.aload_n 0, 1) := by decide +kernel
theorem dX1_readOne_36 : decode cX1_readOne 36 = .ok (.getfield 55, 3) := by decide +kernel
theorem dX1_readOne_39 : decode cX1_readOne 39 = .ok (.bipush (-19), 2) := by decide +kernel
theorem dX1_readOne_41 : decode cX1_readOne 41 = .ok (.if_icmp .ne 31, 3) := by decide +kernel
theorem dX1_readOne_44 : decode cX1_readOne 44 = .ok (.iload_n 1, 1) := by decide +kernel
theorem dX1_readOne_45 : decode cX1_readOne 45 = .ok (.iconst 5, 1) := by decide +kernel
theorem dX1_readOne_46 : decode cX1_readOne 46 = .ok (.if_icmp .ge 26, 3) := by decide +kernel
theorem dX1_readOne_49 : decode cX1_readOne 49 = .ok (.aload_n 0, 1) := by decide +kernel
theorem dX1_readOne_50 : decode cX1_readOne 50 = .ok (.invokevirtual 40, 3) := by decide +kernel
theorem dX1_readOne_53 : decode cX1_readOne 53 = .ok (.aload_n 0, 1) := by decide +kernel
theorem dX1_readOne_54 : decode cX1_readOne 54 = .ok (.iload_n 1, 1) := by decide +kernel
theorem dX1_readOne_55 : decode cX1_readOne 55 = .ok (.iconst 1, 1) := by decide +kernel
theorem dX1_readOne_56 : decode cX1_readOne 56 = .ok (.iadd, 1) := by decide +kernel
theorem dX1_readOne_57 : decode cX1_readOne 57 = .ok (.invokevirtual 76, 3) := by decide +kernel
theorem dX1_readOne_60 : decode cX1_readOne 60 = .ok (.aload_n 0, 1) := by decide +kernel
theorem dX1_readOne_61 : decode cX1_readOne 61 = .ok (.getfield 31, 3) := by decide +kernel
theorem dX1_readOne_64 : decode cX1_readOne 64 = .ok (.bipush (-23), 2) := by decide +kernel
theorem dX1_readOne_66 : decode cX1_readOne 66 = .ok (.invokevirtual 64, 3) := by decide +kernel
theorem dX1_readOne_69 : decode cX1_readOne 69 = .ok (.goto 41, 3) := by decide +kernel
theorem dX1_readOne_72 : decode cX1_readOne 72 = .ok (.aload_n 0, 1) := by decide +kernel
theorem dX1_readOne_73 : decode cX1_readOne 73 = .ok (.getfield 55, 3) := by decide +kernel
theorem dX1_readOne_76 : decode cX1_readOne 76 = .ok (.bipush (-15), 2) := by decide +kernel
theorem dX1_readOne_78 : decode cX1_readOne 78 = .ok (.if_icmp .ne 28, 3) := by decide +kernel
theorem dX1_readOne_81 : decode cX1_readOne 81 = .ok (.iload_n 1, 1) := by decide +kernel
theorem dX1_readOne_82 : decode cX1_readOne 82 = .ok (.iconst 5, 1) := by decide +kernel
theorem dX1_readOne_83 : decode cX1_readOne 83 = .ok (.if_icmp .ge 23, 3) := by decide +kernel
theorem dX1_readOne_86 : decode cX1_readOne 86 = .ok (.aload_n 0, 1) := by decide +kernel
theorem dX1_readOne_87 : decode cX1_readOne 87 = .ok (.invokevirtual 40, 3) := by decide +kernel
theorem dX1_readOne_90 : decode cX1_readOne 90 = .ok (.aload_n 0, 1) := by decide +kernel
theorem dX1_readOne_91 : decode cX1_readOne 91 = .ok (.iload_n 1, 1) := by decide +kernel
theorem dX1_readOne_92 : decode cX1_readOne 92 = .ok (.iconst 1, 1) := by decide +kernel
theorem dX1_readOne_93 : decode cX1_readOne 93 = .ok (.iadd, 1) := by decide +kernel
theorem dX1_readOne_94 : decode cX1_readOne 94 = .ok (.invokevirtual 49, 3) := by decide +kernel
theorem dX1_readOne_97 : decode cX1_readOne 97 = .ok (.aload_n 0, 1) := by decide +kernel
theorem dX1_readOne_98 : decode cX1_readOne 98 = .ok (.bipush (-16), 2) := by decide +kernel
theorem dX1_readOne_100 : decode cX1_readOne 100 = .ok (.invokevirtual 45, 3) := by decide +kernel
theorem dX1_readOne_103 : decode cX1_readOne 103 = .ok (.goto 7, 3) := by decide +kernel
theorem dX1_readOne_106 : decode cX1_readOne 106 = .ok (.aload_n 0, 1) := by decide +kernel
theorem dX1_readOne_107 : decode cX1_readOne 107 = .ok (.invokevirtual 58, 3) := by decide +kernel
theorem dX1_readOne_110 : decode cX1_readOne 110 = .ok (.return_, 1) := by decide +kernel
theorem dX1_expect_0 : decode cX1_expect 0 = .ok (.aload_n 0, 1) := by decide +kernel
theorem dX1_expect_1 : decode cX1_expect 1 = .ok (.getfield 55, 3) := by decide +kernel
theorem dX1_expect_4 : decode cX1_expect 4 = .ok (.iload_n 1, 1) := by decide +kernel
theorem dX1_expect_5 : decode cX1_expect 5 = .ok (.if_icmp .ne 10, 3) := by decide +kernel
theorem dX1_expect_8 : decode cX1_expect 8 = .ok (.aload_n 0, 1) := by decide +kernel
theorem dX1_expect_9 : decode cX1_expect 9 = .ok (.invokevirtual 40, 3) := by decide +kernel
theorem dX1_expect_12 : decode cX1_expect 12 = .ok (.goto 7, 3) := by decide +kernel
theorem dX1_expect_15 : decode cX1_expect 15 = .ok (.aload_n 0, 1) := by decide +kernel
theorem dX1_expect_16 : decode cX1_expect 16 = .ok (.invokevirtual 58, 3) := by decide +kernel
theorem dX1_expect_19 : decode cX1_expect 19 = .ok (.return_, 1) := by decide +kernel
theorem dX1_refuse_0 : decode cX1_refuse 0 = .ok (.aload_n 0, 1) := by decide +kernel
theorem dX1_refuse_1 : decode cX1_refuse 1 = .ok (.getfield 28, 3) := by decide +kernel
theorem dX1_refuse_4 : decode cX1_refuse 4 = .ok (.iconst (-1), 1) := by decide +kernel
theorem dX1_refuse_5 : decode cX1_refuse 5 = .ok (.if_icmp .ne 11, 3) := by decide +kernel
theorem dX1_refuse_8 : decode cX1_refuse 8 = .ok (.aload_n 0, 1) := by decide +kernel
theorem dX1_refuse_9 : decode cX1_refuse 9 = .ok (.aload_n 0, 1) := by decide +kernel
theorem dX1_refuse_10 : decode cX1_refuse 10 = .ok (.getfield 83, 3) := by decide +kernel
theorem dX1_refuse_13 : decode cX1_refuse 13 = .ok (.putfield 28, 3) := by decide +kernel
theorem dX1_refuse_16 : decode cX1_refuse 16 = .ok (.aload_n 0, 1) := by decide +kernel
theorem dX1_refuse_17 : decode cX1_refuse 17 = .ok (.bipush (-2), 2) := by decide +kernel
theorem dX1_refuse_19 : decode cX1_refuse 19 = .ok (.putfield 55, 3) := by decide +kernel
theorem dX1_refuse_22 : decode cX1_refuse 22 = .ok (.return_, 1) := by decide +kernel
theorem dX1_next_0 : decode cX1_next 0 = .ok (.aload_n 0, 1) := by decide +kernel
theorem dX1_next_1 : decode cX1_next 1 = .ok (.getfield 25, 3) := by decide +kernel
theorem dX1_next_4 : decode cX1_next 4 = .ok (.aload_n 0, 1) := by decide +kernel
theorem dX1_next_5 : decode cX1_next 5 = .ok (.getfield 21, 3) := by decide +kernel
theorem dX1_next_8 : decode cX1_next 8 = .ok (.if_icmp .ge 44, 3) := by decide +kernel
theorem dX1_next_11 : decode cX1_next 11 = .ok (.aload_n 0, 1) := by decide +kernel
theorem dX1_next_12 : decode cX1_next 12 = .ok (.getfield 9, 3) := by decide +kernel
theorem dX1_next_15 : decode cX1_next 15 = .ok (.aload_n 0, 1) := by decide +kernel
theorem dX1_next_16 : decode cX1_next 16 = .ok (.getfield 25, 3) := by decide +kernel
theorem dX1_next_19 : decode cX1_next 19 = .ok (.iaload, 1) := by decide +kernel
theorem dX1_next_20 : decode cX1_next 20 = .ok (.bipush 32, 2) := by decide +kernel
theorem dX1_next_22 : decode cX1_next 22 = .ok (.if_icmp .eq 17, 3) := by decide +kernel
theorem dX1_next_25 : decode cX1_next 25 = .ok (.aload_n 0, 1) := by decide +kernel
theorem dX1_next_26 : decode cX1_next 26 = .ok (.getfield 9, 3) := by decide +kernel
theorem dX1_next_29 : decode cX1_next 29 = .ok (.aload_n 0, 1) := by decide +kernel
theorem dX1_next_30 : decode cX1_next 30 = .ok (.getfield 25, 3) := by decide +kernel
theorem dX1_next_33 : decode cX1_next 33 = .ok (.iaload, 1) := by decide +kernel
theorem dX1_next_34 : decode cX1_next 34 = .ok (.bipush 10, 2) := by decide +kernel
theorem dX1_next_36 : decode cX1_next 36 = .ok (.if_icmp .ne 16, 3) := by decide +kernel
theorem dX1_next_39 : decode cX1_next 39 = .ok (.aload_n 0, 1) := by decide +kernel
theorem dX1_next_40 : decode cX1_next 40 = .ok (.dup, 1) := by decide +kernel
theorem dX1_next_41 : decode cX1_next 41 = .ok (.getfield 25, 3) := by decide +kernel
theorem dX1_next_44 : decode cX1_next 44 = .ok (.iconst 1, 1) := by decide +kernel
theorem dX1_next_45 : decode cX1_next 45 = .ok (.iadd, 1) := by decide +kernel
theorem dX1_next_46 : decode cX1_next 46 = .ok (.putfield 25, 3) := by decide +kernel
theorem dX1_next_49 : decode cX1_next 49 = .ok (.goto (-49), 3) := by decide +kernel
theorem dX1_next_52 : decode cX1_next 52 = .ok (.aload_n 0, 1) := by decide +kernel
theorem dX1_next_53 : decode cX1_next 53 = .ok (.aload_n 0, 1) := by decide +kernel
theorem dX1_next_54 : decode cX1_next 54 = .ok (.getfield 25, 3) := by decide +kernel
theorem dX1_next_57 : decode cX1_next 57 = .ok (.putfield 83, 3) := by decide +kernel
theorem dX1_next_60 : decode cX1_next 60 = .ok (.aload_n 0, 1) := by decide +kernel
theorem dX1_next_61 : decode cX1_next 61 = .ok (.getfield 25, 3) := by decide +kernel
theorem dX1_next_64 : decode cX1_next 64 = .ok (.aload_n 0, 1) := by decide +kernel
theorem dX1_next_65 : decode cX1_next 65 = .ok (.getfield 21, 3) := by decide +kernel
theorem dX1_next_68 : decode cX1_next 68 = .ok (.if_icmp .lt 11, 3) := by decide +kernel
theorem dX1_next_71 : decode cX1_next 71 = .ok (.aload_n 0, 1) := by decide +kernel
theorem dX1_next_72 : decode cX1_next 72 = .ok (.iconst (-1), 1) := by decide +kernel
theorem dX1_next_73 : decode cX1_next 73 = .ok (.putfield 55, 3) := by decide +kernel
theorem dX1_next_76 : decode cX1_next 76 = .ok (.goto 81, 3) := by decide +kernel
theorem dX1_next_79 : decode cX1_next 79 = .ok (.aload_n 0, 1) := by decide +kernel
theorem dX1_next_80 : decode cX1_next 80 = .ok (.getfield 9, 3) := by decide +kernel
theorem dX1_next_83 : decode cX1_next 83 = .ok (.aload_n 0, 1) := by decide +kernel
theorem dX1_next_84 : decode cX1_next 84 = .ok (.getfield 25, 3) := by decide +kernel
theorem dX1_next_87 : decode cX1_next 87 = .ok (.iaload, 1) := by decide +kernel
theorem dX1_next_88 : decode cX1_next 88 = .ok (.invokestatic 86, 3) := by decide +kernel
theorem dX1_next_91 : decode cX1_next 91 = .ok (.ifCond .eq 14, 3) := by decide +kernel
theorem dX1_next_94 : decode cX1_next 94 = .ok (.aload_n 0, 1) := by decide +kernel
theorem dX1_next_95 : decode cX1_next 95 = .ok (.aload_n 0, 1) := by decide +kernel
theorem dX1_next_96 : decode cX1_next 96 = .ok (.invokevirtual 89, 3) := by decide +kernel
theorem dX1_next_99 : decode cX1_next 99 = .ok (.putfield 55, 3) := by decide +kernel
theorem dX1_next_102 : decode cX1_next 102 = .ok (.goto 55, 3) := by decide +kernel
theorem dX1_next_105 : decode cX1_next 105 = .ok (.aload_n 0, 1) := by decide +kernel
theorem dX1_next_106 : decode cX1_next 106 = .ok (.getfield 9, 3) := by decide +kernel
theorem dX1_next_109 : decode cX1_next 109 = .ok (.aload_n 0, 1) := by decide +kernel
theorem dX1_next_110 : decode cX1_next 110 = .ok (.getfield 25, 3) := by decide +kernel
theorem dX1_next_113 : decode cX1_next 113 = .ok (.iaload, 1) := by decide +kernel
theorem dX1_next_114 : decode cX1_next 114 = .ok (.invokestatic 93, 3) := by decide +kernel
theorem dX1_next_117 : decode cX1_next 117 = .ok (.ifCond .eq 14, 3) := by decide +kernel
theorem dX1_next_120 : decode cX1_next 120 = .ok (.aload_n 0, 1) := by decide +kernel
theorem dX1_next_121 : decode cX1_next 121 = .ok (.aload_n 0, 1) := by decide +kernel
theorem dX1_next_122 : decode cX1_next 122 = .ok (.invokevirtual 96, 3) := by decide +kernel
theorem dX1_next_125 : decode cX1_next 125 = .ok (.putfield 55, 3) := by decide +kernel
theorem dX1_next_128 : decode cX1_next 128 = .ok (.goto 29, 3) := by decide +kernel
theorem dX1_next_131 : decode cX1_next 131 = .ok (.aload_n 0, 1) := by decide +kernel
theorem dX1_next_132 : decode cX1_next 132 = .ok (.aload_n 0, 1) := by decide +kernel
theorem dX1_next_133 : decode cX1_next 133 = .ok (.getfield 9, 3) := by decide +kernel
theorem dX1_next_136 : decode cX1_next 136 = .ok (.aload_n 0, 1) := by decide +kernel
theorem dX1_next_137 : decode cX1_next 137 = .ok (.getfield 25, 3) := by decide +kernel
theorem dX1_next_140 : decode cX1_next 140 = .ok (.iaload, 1) := by decide +kernel
theorem dX1_next_141 : decode cX1_next 141 = .ok (.invokestatic 99, 3) := by decide +kernel
theorem dX1_next_144 : decode cX1_next 144 = .ok (.putfield 55, 3) := by decide +kernel
theorem dX1_next_147 : decode cX1_next 147 = .ok (.aload_n 0, 1) := by decide +kernel
theorem dX1_next_148 : decode cX1_next 148 = .ok (.dup, 1) := by decide +kernel
theorem dX1_next_149 : decode cX1_next 149 = .ok (.getfield 25, 3) := by decide +kernel
theorem dX1_next_152 : decode cX1_next 152 = .ok (.iconst 1, 1) := by decide +kernel
theorem dX1_next_153 : decode cX1_next 153 = .ok (.iadd, 1) := by decide +kernel
theorem dX1_next_154 : decode cX1_next 154 = .ok (.putfield 25, 3) := by decide +kernel
theorem dX1_next_157 : decode cX1_next 157 = .ok (.return_, 1) := by decide +kernel
theorem dX1_nextNumber_0 : decode cX1_nextNumber 0 = .ok (.iconst 0, 1) := by decide +kernel
theorem dX1_nextNumber_1 : decode cX1_nextNumber 1 = .ok (.istore_n 1, 1) := by decide +kernel
theorem dX1_nextNumber_2 : decode cX1_nextNumber 2 = .ok (.aload_n 0, 1) := by decide +kernel
theorem dX1_nextNumber_3 : decode cX1_nextNumber 3 = .ok (.getfield 25, 3) := by decide +kernel
theorem dX1_nextNumber_6 : decode cX1_nextNumber 6 = .ok (.aload_n 0, 1) := by decide +kernel
theorem dX1_nextNumber_7 : decode cX1_nextNumber 7 = .ok (.getfield 21, 3) := by decide +kernel
theorem dX1_nextNumber_10 : decode cX1_nextNumber 10 = .ok (.if_icmp .ge 67, 3) := by decide +kernel
theorem dX1_nextNumber_13 : decode cX1_nextNumber 13 = .ok (.aload_n 0, 1) := by decide +kernel
theorem dX1_nextNumber_14 : decode cX1_nextNumber 14 = .ok (.getfield 9, 3) := by decide +kernel
theorem dX1_nextNumber_17 : decode cX1_nextNumber 17 = .ok (.aload_n 0, 1) := by decide +kernel
theorem dX1_nextNumber_18 : decode cX1_nextNumber 18 = .ok (.getfield 25, 3) := by decide +kernel
theorem dX1_nextNumber_21 : decode cX1_nextNumber 21 = .ok (.iaload, 1) := by decide +kernel
theorem dX1_nextNumber_22 : decode cX1_nextNumber 22 = .ok (.invokestatic 93, 3) := by decide +kernel
theorem dX1_nextNumber_25 : decode cX1_nextNumber 25 = .ok (.ifCond .eq 52, 3) := by decide +kernel
theorem dX1_nextNumber_28 : decode cX1_nextNumber 28 = .ok (.aload_n 0, 1) := by decide +kernel
theorem dX1_nextNumber_29 : decode cX1_nextNumber 29 = .ok (.getfield 25, 3) := by decide +kernel
theorem dX1_nextNumber_32 : decode cX1_nextNumber 32 = .ok (.aload_n 0, 1) := by decide +kernel
theorem dX1_nextNumber_33 : decode cX1_nextNumber 33 = .ok (.getfield 83, 3) := by decide +kernel
theorem dX1_nextNumber_36 : decode cX1_nextNumber 36 = .ok (.isub, 1) := by decide +kernel
theorem dX1_nextNumber_37 : decode cX1_nextNumber 37 = .ok (.iconst 4, 1) := by decide +kernel
theorem dX1_nextNumber_38 : decode cX1_nextNumber 38 = .ok (.if_icmp .ge 23, 3) := by decide +kernel
theorem dX1_nextNumber_41 : decode cX1_nextNumber 41 = .ok (.iload_n 1, 1) := by decide +kernel
theorem dX1_nextNumber_42 : decode cX1_nextNumber 42 = .ok (.bipush 10, 2) := by decide +kernel
theorem dX1_nextNumber_44 : decode cX1_nextNumber 44 = .ok (.imul, 1) := by decide +kernel
theorem dX1_nextNumber_45 : decode cX1_nextNumber 45 = .ok (.aload_n 0, 1) := by decide +kernel
theorem dX1_nextNumber_46 : decode cX1_nextNumber 46 = .ok (.getfield 9, 3) := by decide +kernel
theorem dX1_nextNumber_49 : decode cX1_nextNumber 49 = .ok (.aload_n 0, 1) := by decide +kernel
theorem dX1_nextNumber_50 : decode cX1_nextNumber 50 = .ok (.getfield 25, 3) := by decide +kernel
theorem dX1_nextNumber_53 : decode cX1_nextNumber 53 = .ok (.iaload, 1) := by decide +kernel
theorem dX1_nextNumber_54 : decode cX1_nextNumber 54 = .ok (.iadd, 1) := by decide +kernel
theorem dX1_nextNumber_55 : decode cX1_nextNumber 55 = .ok (.bipush 48, 2) := by decide +kernel
theorem dX1_nextNumber_57 : decode cX1_nextNumber 57 = .ok (.isub, 1) := by decide +kernel
theorem dX1_nextNumber_58 : decode cX1_nextNumber 58 = .ok (.goto 5, 3) := by decide +kernel
theorem dX1_nextNumber_61 : decode cX1_nextNumber 61 = .ok (.bipush (-2), 2) := by decide +kernel
theorem dX1_nextNumber_63 : decode cX1_nextNumber 63 = .ok (.istore_n 1, 1) := by decide +kernel
theorem dX1_nextNumber_64 : decode cX1_nextNumber 64 = .ok (.aload_n 0, 1) := by decide +kernel
theorem dX1_nextNumber_65 : decode cX1_nextNumber 65 = .ok (.dup, 1) := by decide +kernel
theorem dX1_nextNumber_66 : decode cX1_nextNumber 66 = .ok (.getfield 25, 3) := by decide +kernel
theorem dX1_nextNumber_69 : decode cX1_nextNumber 69 = .ok (.iconst 1, 1) := by decide +kernel
theorem dX1_nextNumber_70 : decode cX1_nextNumber 70 = .ok (.iadd, 1) := by decide +kernel
theorem dX1_nextNumber_71 : decode cX1_nextNumber 71 = .ok (.putfield 25, 3) := by decide +kernel
theorem dX1_nextNumber_74 : decode cX1_nextNumber 74 = .ok (.goto (-72), 3) := by decide +kernel
theorem dX1_nextNumber_77 : decode cX1_nextNumber 77 = .ok (.iload_n 1, 1) := by decide +kernel
theorem dX1_nextNumber_78 : decode cX1_nextNumber 78 = .ok (.ireturn, 1) := by decide +kernel
theorem dX1_nextWord_0 : decode cX1_nextWord 0 = .ok (.aload_n 0, 1) := by decide +kernel
theorem dX1_nextWord_1 : decode cX1_nextWord 1 = .ok (.getfield 25, 3) := by decide +kernel
theorem dX1_nextWord_4 : decode cX1_nextWord 4 = .ok (.aload_n 0, 1) := by decide +kernel
theorem dX1_nextWord_5 : decode cX1_nextWord 5 = .ok (.getfield 21, 3) := by decide +kernel
theorem dX1_nextWord_8 : decode cX1_nextWord 8 = .ok (.if_icmp .ge 31, 3) := by decide +kernel
theorem dX1_nextWord_11 : decode cX1_nextWord 11 = .ok (.aload_n 0, 1) := by decide +kernel
theorem dX1_nextWord_12 : decode cX1_nextWord 12 = .ok (.getfield 9, 3) := by decide +kernel
theorem dX1_nextWord_15 : decode cX1_nextWord 15 = .ok (.aload_n 0, 1) := by decide +kernel
theorem dX1_nextWord_16 : decode cX1_nextWord 16 = .ok (.getfield 25, 3) := by decide +kernel
theorem dX1_nextWord_19 : decode cX1_nextWord 19 = .ok (.iaload, 1) := by decide +kernel
theorem dX1_nextWord_20 : decode cX1_nextWord 20 = .ok (.invokestatic 86, 3) := by decide +kernel
theorem dX1_nextWord_23 : decode cX1_nextWord 23 = .ok (.ifCond .eq 16, 3) := by decide +kernel
theorem dX1_nextWord_26 : decode cX1_nextWord 26 = .ok (.aload_n 0, 1) := by decide +kernel
theorem dX1_nextWord_27 : decode cX1_nextWord 27 = .ok (.dup, 1) := by decide +kernel
theorem dX1_nextWord_28 : decode cX1_nextWord 28 = .ok (.getfield 25, 3) := by decide +kernel
theorem dX1_nextWord_31 : decode cX1_nextWord 31 = .ok (.iconst 1, 1) := by decide +kernel
theorem dX1_nextWord_32 : decode cX1_nextWord 32 = .ok (.iadd, 1) := by decide +kernel
theorem dX1_nextWord_33 : decode cX1_nextWord 33 = .ok (.putfield 25, 3) := by decide +kernel
theorem dX1_nextWord_36 : decode cX1_nextWord 36 = .ok (.goto (-36), 3) := by decide +kernel
theorem dX1_nextWord_39 : decode cX1_nextWord 39 = .ok (.aload_n 0, 1) := by decide +kernel
theorem dX1_nextWord_40 : decode cX1_nextWord 40 = .ok (.ldc 103, 2) := by decide +kernel
theorem dX1_nextWord_42 : decode cX1_nextWord 42 = .ok (.invokevirtual 105, 3) := by decide +kernel
theorem dX1_nextWord_45 : decode cX1_nextWord 45 = .ok (.ifCond .eq 8, 3) := by decide +kernel
theorem dX1_nextWord_48 : decode cX1_nextWord 48 = .ok (.bipush (-3), 2) := by decide +kernel
theorem dX1_nextWord_50 : decode cX1_nextWord 50 = .ok (.goto 159, 3) := by decide +kernel
theorem dX1_nextWord_53 : decode cX1_nextWord 53 = .ok (.aload_n 0, 1) := by decide +kernel
theorem dX1_nextWord_54 : decode cX1_nextWord 54 = .ok (.ldc 109, 2) := by decide +kernel
theorem dX1_nextWord_56 : decode cX1_nextWord 56 = .ok (.invokevirtual 105, 3) := by decide +kernel
theorem dX1_nextWord_59 : decode cX1_nextWord 59 = .ok (.ifCond .eq 8, 3) := by decide +kernel
theorem dX1_nextWord_62 : decode cX1_nextWord 62 = .ok (.bipush (-4), 2) := by decide +kernel
theorem dX1_nextWord_64 : decode cX1_nextWord 64 = .ok (.goto 145, 3) := by decide +kernel
theorem dX1_nextWord_67 : decode cX1_nextWord 67 = .ok (.aload_n 0, 1) := by decide +kernel
theorem dX1_nextWord_68 : decode cX1_nextWord 68 = .ok (.ldc 111, 2) := by decide +kernel
theorem dX1_nextWord_70 : decode cX1_nextWord 70 = .ok (.invokevirtual 105, 3) := by decide +kernel
theorem dX1_nextWord_73 : decode cX1_nextWord 73 = .ok (.ifCond .eq 8, 3) := by decide +kernel
theorem dX1_nextWord_76 : decode cX1_nextWord 76 = .ok (.bipush (-5), 2) := by decide +kernel
theorem dX1_nextWord_78 : decode cX1_nextWord 78 = .ok (.goto 131, 3) := by decide +kernel
theorem dX1_nextWord_81 : decode cX1_nextWord 81 = .ok (.aload_n 0, 1) := by decide +kernel
theorem dX1_nextWord_82 : decode cX1_nextWord 82 = .ok (.ldc 113, 2) := by decide +kernel
theorem dX1_nextWord_84 : decode cX1_nextWord 84 = .ok (.invokevirtual 105, 3) := by decide +kernel
theorem dX1_nextWord_87 : decode cX1_nextWord 87 = .ok (.ifCond .eq 8, 3) := by decide +kernel
theorem dX1_nextWord_90 : decode cX1_nextWord 90 = .ok (.bipush (-6), 2) := by decide +kernel
theorem dX1_nextWord_92 : decode cX1_nextWord 92 = .ok (.goto 117, 3) := by decide +kernel
theorem dX1_nextWord_95 : decode cX1_nextWord 95 = .ok (.aload_n 0, 1) := by decide +kernel
theorem dX1_nextWord_96 : decode cX1_nextWord 96 = .ok (.ldc 115, 2) := by decide +kernel
theorem dX1_nextWord_98 : decode cX1_nextWord 98 = .ok (.invokevirtual 105, 3) := by decide +kernel
theorem dX1_nextWord_101 : decode cX1_nextWord 101 = .ok (.ifCond .eq 8, 3) := by decide +kernel
theorem dX1_nextWord_104 : decode cX1_nextWord 104 = .ok (.bipush (-7), 2) := by decide +kernel
theorem dX1_nextWord_106 : decode cX1_nextWord 106 = .ok (.goto 103, 3) := by decide +kernel
theorem dX1_nextWord_109 : decode cX1_nextWord 109 = .ok (.aload_n 0, 1) := by decide +kernel
theorem dX1_nextWord_110 : decode cX1_nextWord 110 = .ok (.ldc 117, 2) := by decide +kernel
theorem dX1_nextWord_112 : decode cX1_nextWord 112 = .ok (.invokevirtual 105, 3) := by decide +kernel
theorem dX1_nextWord_115 : decode cX1_nextWord 115 = .ok (.ifCond .eq 8, 3) := by decide +kernel
theorem dX1_nextWord_118 : decode cX1_nextWord 118 = .ok (.bipush (-8), 2) := by decide +kernel
theorem dX1_nextWord_120 : decode cX1_nextWord 120 = .ok (.goto 89, 3) := by decide +kernel
theorem dX1_nextWord_123 : decode cX1_nextWord 123 = .ok (.aload_n 0, 1) := by decide +kernel
theorem dX1_nextWord_124 : decode cX1_nextWord 124 = .ok (.ldc 119, 2) := by decide +kernel
theorem dX1_nextWord_126 : decode cX1_nextWord 126 = .ok (.invokevirtual 105, 3) := by decide +kernel
theorem dX1_nextWord_129 : decode cX1_nextWord 129 = .ok (.ifCond .eq 8, 3) := by decide +kernel
theorem dX1_nextWord_132 : decode cX1_nextWord 132 = .ok (.bipush (-9), 2) := by decide +kernel
theorem dX1_nextWord_134 : decode cX1_nextWord 134 = .ok (.goto 75, 3) := by decide +kernel
theorem dX1_nextWord_137 : decode cX1_nextWord 137 = .ok (.aload_n 0, 1) := by decide +kernel
theorem dX1_nextWord_138 : decode cX1_nextWord 138 = .ok (.ldc 121, 2) := by decide +kernel
theorem dX1_nextWord_140 : decode cX1_nextWord 140 = .ok (.invokevirtual 105, 3) := by decide +kernel
theorem dX1_nextWord_143 : decode cX1_nextWord 143 = .ok (.ifCond .eq 8, 3) := by decide +kernel
theorem dX1_nextWord_146 : decode cX1_nextWord 146 = .ok (.bipush (-10), 2) := by decide +kernel
theorem dX1_nextWord_148 : decode cX1_nextWord 148 = .ok (.goto 61, 3) := by decide +kernel
theorem dX1_nextWord_151 : decode cX1_nextWord 151 = .ok (.aload_n 0, 1) := by decide +kernel
theorem dX1_nextWord_152 : decode cX1_nextWord 152 = .ok (.ldc 123, 2) := by decide +kernel
theorem dX1_nextWord_154 : decode cX1_nextWord 154 = .ok (.invokevirtual 105, 3) := by decide +kernel
theorem dX1_nextWord_157 : decode cX1_nextWord 157 = .ok (.ifCond .eq 8, 3) := by decide +kernel
theorem dX1_nextWord_160 : decode cX1_nextWord 160 = .ok (.bipush (-11), 2) := by decide +kernel
theorem dX1_nextWord_162 : decode cX1_nextWord 162 = .ok (.goto 47, 3) := by decide +kernel
theorem dX1_nextWord_165 : decode cX1_nextWord 165 = .ok (.aload_n 0, 1) := by decide +kernel
theorem dX1_nextWord_166 : decode cX1_nextWord 166 = .ok (.ldc 125, 2) := by decide +kernel
theorem dX1_nextWord_168 : decode cX1_nextWord 168 = .ok (.invokevirtual 105, 3) := by decide +kernel
theorem dX1_nextWord_171 : decode cX1_nextWord 171 = .ok (.ifCond .eq 8, 3) := by decide +kernel
theorem dX1_nextWord_174 : decode cX1_nextWord 174 = .ok (.bipush (-12), 2) := by decide +kernel
theorem dX1_nextWord_176 : decode cX1_nextWord 176 = .ok (.goto 33, 3) := by decide +kernel
theorem dX1_nextWord_179 : decode cX1_nextWord 179 = .ok (.aload_n 0, 1) := by decide +kernel
theorem dX1_nextWord_180 : decode cX1_nextWord 180 = .ok (.ldc 127, 2) := by decide +kernel
theorem dX1_nextWord_182 : decode cX1_nextWord 182 = .ok (.invokevirtual 105, 3) := by decide +kernel
theorem dX1_nextWord_185 : decode cX1_nextWord 185 = .ok (.ifCond .eq 8, 3) := by decide +kernel
theorem dX1_nextWord_188 : decode cX1_nextWord 188 = .ok (.bipush (-13), 2) := by decide +kernel
theorem dX1_nextWord_190 : decode cX1_nextWord 190 = .ok (.goto 19, 3) := by decide +kernel
theorem dX1_nextWord_193 : decode cX1_nextWord 193 = .ok (.aload_n 0, 1) := by decide +kernel
theorem dX1_nextWord_194 : decode cX1_nextWord 194 = .ok (.ldc 129, 2) := by decide +kernel
theorem dX1_nextWord_196 : decode cX1_nextWord 196 = .ok (.invokevirtual 105, 3) := by decide +kernel
theorem dX1_nextWord_199 : decode cX1_nextWord 199 = .ok (.ifCond .eq 8, 3) := by decide +kernel
theorem dX1_nextWord_202 : decode cX1_nextWord 202 = .ok (.bipush (-14), 2) := by decide +kernel
theorem dX1_nextWord_204 : decode cX1_nextWord 204 = .ok (.goto 5, 3) := by decide +kernel
theorem dX1_nextWord_207 : decode cX1_nextWord 207 = .ok (.bipush (-2), 2) := by decide +kernel
theorem dX1_nextWord_209 : decode cX1_nextWord 209 = .ok (.ireturn, 1) := by decide +kernel
theorem dX1_spells_0 : decode cX1_spells 0 = .ok (.aload_n 0, 1) := by decide +kernel
theorem dX1_spells_1 : decode cX1_spells 1 = .ok (.getfield 25, 3) := by decide +kernel
theorem dX1_spells_4 : decode cX1_spells 4 = .ok (.aload_n 0, 1) := by decide +kernel
theorem dX1_spells_5 : decode cX1_spells 5 = .ok (.getfield 83, 3) := by decide +kernel
theorem dX1_spells_8 : decode cX1_spells 8 = .ok (.isub, 1) := by decide +kernel
theorem dX1_spells_9 : decode cX1_spells 9 = .ok (.aload_n 1, 1) := by decide +kernel
theorem dX1_spells_10 : decode cX1_spells 10 = .ok (.invokevirtual 131, 3) := by decide +kernel
theorem dX1_spells_13 : decode cX1_spells 13 = .ok (.if_icmp .eq 5, 3) := by decide +kernel
theorem dX1_spells_16 : decode cX1_spells 16 = .ok (.iconst 0, 1) := by decide +kernel
theorem dX1_spells_17 : decode cX1_spells 17 = .ok (.ireturn, 1) := by decide +kernel
theorem dX1_spells_18 : decode cX1_spells 18 = .ok (.iconst 0, 1) := by decide +kernel
theorem dX1_spells_19 : decode cX1_spells 19 = .ok (.istore_n 2, 1) := by decide +kernel
theorem dX1_spells_20 : decode cX1_spells 20 = .ok (.iload_n 2, 1) := by decide +kernel
theorem dX1_spells_21 : decode cX1_spells 21 = .ok (.aload_n 1, 1) := by decide +kernel
theorem dX1_spells_22 : decode cX1_spells 22 = .ok (.invokevirtual 131, 3) := by decide +kernel
theorem dX1_spells_25 : decode cX1_spells 25 = .ok (.if_icmp .ge 30, 3) := by decide +kernel
theorem dX1_spells_28 : decode cX1_spells 28 = .ok (.aload_n 0, 1) := by decide +kernel
theorem dX1_spells_29 : decode cX1_spells 29 = .ok (.getfield 9, 3) := by decide +kernel
theorem dX1_spells_32 : decode cX1_spells 32 = .ok (.aload_n 0, 1) := by decide +kernel
theorem dX1_spells_33 : decode cX1_spells 33 = .ok (.getfield 83, 3) := by decide +kernel
theorem dX1_spells_36 : decode cX1_spells 36 = .ok (.iload_n 2, 1) := by decide +kernel
theorem dX1_spells_37 : decode cX1_spells 37 = .ok (.iadd, 1) := by decide +kernel
theorem dX1_spells_38 : decode cX1_spells 38 = .ok (.iaload, 1) := by decide +kernel
theorem dX1_spells_39 : decode cX1_spells 39 = .ok (.aload_n 1, 1) := by decide +kernel
theorem dX1_spells_40 : decode cX1_spells 40 = .ok (.iload_n 2, 1) := by decide +kernel
theorem dX1_spells_41 : decode cX1_spells 41 = .ok (.invokevirtual 136, 3) := by decide +kernel
theorem dX1_spells_44 : decode cX1_spells 44 = .ok (.if_icmp .eq 5, 3) := by decide +kernel
theorem dX1_spells_47 : decode cX1_spells 47 = .ok (.iconst 0, 1) := by decide +kernel
theorem dX1_spells_48 : decode cX1_spells 48 = .ok (.ireturn, 1) := by decide +kernel
theorem dX1_spells_49 : decode cX1_spells 49 = .ok (.iinc 2 1, 3) := by decide +kernel
theorem dX1_spells_52 : decode cX1_spells 52 = .ok (.goto (-32), 3) := by decide +kernel
theorem dX1_spells_55 : decode cX1_spells 55 = .ok (.iconst 1, 1) := by decide +kernel
theorem dX1_spells_56 : decode cX1_spells 56 = .ok (.ireturn, 1) := by decide +kernel
theorem dX1_isLetter_0 : decode cX1_isLetter 0 = .ok (.iload_n 0, 1) := by decide +kernel
theorem dX1_isLetter_1 : decode cX1_isLetter 1 = .ok (.bipush 97, 2) := by decide +kernel
theorem dX1_isLetter_3 : decode cX1_isLetter 3 = .ok (.if_icmp .lt 13, 3) := by decide +kernel
theorem dX1_isLetter_6 : decode cX1_isLetter 6 = .ok (.iload_n 0, 1) := by decide +kernel
theorem dX1_isLetter_7 : decode cX1_isLetter 7 = .ok (.bipush 122, 2) := by decide +kernel
theorem dX1_isLetter_9 : decode cX1_isLetter 9 = .ok (.if_icmp .gt 7, 3) := by decide +kernel
theorem dX1_isLetter_12 : decode cX1_isLetter 12 = .ok (.iconst 1, 1) := by decide +kernel
theorem dX1_isLetter_13 : decode cX1_isLetter 13 = .ok (.goto 4, 3) := by decide +kernel
theorem dX1_isLetter_16 : decode cX1_isLetter 16 = .ok (.iconst 0, 1) := by decide +kernel
theorem dX1_isLetter_17 : decode cX1_isLetter 17 = .ok (.ireturn, 1) := by decide +kernel
theorem dX1_isDigit_0 : decode cX1_isDigit 0 = .ok (.iload_n 0, 1) := by decide +kernel
theorem dX1_isDigit_1 : decode cX1_isDigit 1 = .ok (.bipush 48, 2) := by decide +kernel
theorem dX1_isDigit_3 : decode cX1_isDigit 3 = .ok (.if_icmp .lt 13, 3) := by decide +kernel
theorem dX1_isDigit_6 : decode cX1_isDigit 6 = .ok (.iload_n 0, 1) := by decide +kernel
theorem dX1_isDigit_7 : decode cX1_isDigit 7 = .ok (.bipush 57, 2) := by decide +kernel
theorem dX1_isDigit_9 : decode cX1_isDigit 9 = .ok (.if_icmp .gt 7, 3) := by decide +kernel
theorem dX1_isDigit_12 : decode cX1_isDigit 12 = .ok (.iconst 1, 1) := by decide +kernel
theorem dX1_isDigit_13 : decode cX1_isDigit 13 = .ok (.goto 4, 3) := by decide +kernel
theorem dX1_isDigit_16 : decode cX1_isDigit 16 = .ok (.iconst 0, 1) := by decide +kernel
theorem dX1_isDigit_17 : decode cX1_isDigit 17 = .ok (.ireturn, 1) := by decide +kernel
theorem dX2_init_0 : decode cX2_init 0 = .ok (.aload_n 0, 1) := by decide +kernel
theorem dX2_init_1 : decode cX2_init 1 = .ok (.invokespecial 3, 3) := by decide +kernel
theorem dX2_init_4 : decode cX2_init 4 = .ok (.aload_n 0, 1) := by decide +kernel
theorem dX2_init_5 : decode cX2_init 5 = .ok (.bipush 6, 2) := by decide +kernel
theorem dX2_init_7 : decode cX2_init 7 = .ok (.newarray .int, 2) := by decide +kernel
theorem dX2_init_9 : decode cX2_init 9 = .ok (.putfield 9, 3) := by decide +kernel
theorem dX2_init_12 : decode cX2_init 12 = .ok (.aload_n 0, 1) := by decide +kernel
theorem dX2_init_13 : decode cX2_init 13 = .ok (.bipush 6, 2) := by decide +kernel
theorem dX2_init_15 : decode cX2_init 15 = .ok (.newarray .int, 2) := by decide +kernel
theorem dX2_init_17 : decode cX2_init 17 = .ok (.putfield 15, 3) := by decide +kernel
theorem dX2_init_20 : decode cX2_init 20 = .ok (.aload_n 0, 1) := by decide +kernel
theorem dX2_init_21 : decode cX2_init 21 = .ok (.bipush 6, 2) := by decide +kernel
theorem dX2_init_23 : decode cX2_init 23 = .ok (.newarray .int, 2) := by decide +kernel
theorem dX2_init_25 : decode cX2_init 25 = .ok (.putfield 18, 3) := by decide +kernel
theorem dX2_init_28 : decode cX2_init 28 = .ok (.aload_n 0, 1) := by decide +kernel
theorem dX2_init_29 : decode cX2_init 29 = .ok (.bipush 6, 2) := by decide +kernel
theorem dX2_init_31 : decode cX2_init 31 = .ok (.newarray .int, 2) := by decide +kernel
theorem dX2_init_33 : decode cX2_init 33 = .ok (.putfield 21, 3) := by decide +kernel
theorem dX2_init_36 : decode cX2_init 36 = .ok (.aload_n 0, 1) := by decide +kernel
theorem dX2_init_37 : decode cX2_init 37 = .ok (.bipush 6, 2) := by decide +kernel
theorem dX2_init_39 : decode cX2_init 39 = .ok (.newarray .int, 2) := by decide +kernel
theorem dX2_init_41 : decode cX2_init 41 = .ok (.putfield 24, 3) := by decide +kernel
theorem dX2_init_44 : decode cX2_init 44 = .ok (.aload_n 0, 1) := by decide +kernel
theorem dX2_init_45 : decode cX2_init 45 = .ok (.bipush 6, 2) := by decide +kernel
theorem dX2_init_47 : decode cX2_init 47 = .ok (.newarray .int, 2) := by decide +kernel
theorem dX2_init_49 : decode cX2_init 49 = .ok (.putfield 27, 3) := by decide +kernel
theorem dX2_init_52 : decode cX2_init 52 = .ok (.aload_n 0, 1) := by decide +kernel
theorem dX2_init_53 : decode cX2_init 53 = .ok (.bipush 36, 2) := by decide +kernel
theorem dX2_init_55 : decode cX2_init 55 = .ok (.newarray .int, 2) := by decide +kernel
theorem dX2_init_57 : decode cX2_init 57 = .ok (.putfield 30, 3) := by decide +kernel
theorem dX2_init_60 : decode cX2_init 60 = .ok (.aload_n 0, 1) := by decide +kernel
theorem dX2_init_61 : decode cX2_init 61 = .ok (.aload_n 1, 1) := by decide +kernel
theorem dX2_init_62 : decode cX2_init 62 = .ok (.putfield 33, 3) := by decide +kernel
theorem dX2_init_65 : decode cX2_init 65 = .ok (.return_, 1) := by decide +kernel
theorem dX2_become_0 : decode cX2_become 0 = .ok (.aload_n 1, 1) := by decide +kernel
theorem dX2_become_1 : decode cX2_become 1 = .ok (.getfield 9, 3) := by decide +kernel
theorem dX2_become_4 : decode cX2_become 4 = .ok (.iconst 0, 1) := by decide +kernel
theorem dX2_become_5 : decode cX2_become 5 = .ok (.aload_n 0, 1) := by decide +kernel
theorem dX2_become_6 : decode cX2_become 6 = .ok (.getfield 9, 3) := by decide +kernel
theorem dX2_become_9 : decode cX2_become 9 = .ok (.iconst 0, 1) := by decide +kernel
theorem dX2_become_10 : decode cX2_become 10 = .ok (.bipush 6, 2) := by decide +kernel
theorem dX2_become_12 : decode cX2_become 12 = .ok (.invokestatic 37, 3) := by decide +kernel
theorem dX2_become_15 : decode cX2_become 15 = .ok (.aload_n 1, 1) := by decide +kernel
theorem dX2_become_16 : decode cX2_become 16 = .ok (.getfield 15, 3) := by decide +kernel
theorem dX2_become_19 : decode cX2_become 19 = .ok (.iconst 0, 1) := by decide +kernel
theorem dX2_become_20 : decode cX2_become 20 = .ok (.aload_n 0, 1) := by decide +kernel
theorem dX2_become_21 : decode cX2_become 21 = .ok (.getfield 15, 3) := by decide +kernel
theorem dX2_become_24 : decode cX2_become 24 = .ok (.iconst 0, 1) := by decide +kernel
theorem dX2_become_25 : decode cX2_become 25 = .ok (.bipush 6, 2) := by decide +kernel
theorem dX2_become_27 : decode cX2_become 27 = .ok (.invokestatic 37, 3) := by decide +kernel
theorem dX2_become_30 : decode cX2_become 30 = .ok (.aload_n 1, 1) := by decide +kernel
theorem dX2_become_31 : decode cX2_become 31 = .ok (.getfield 18, 3) := by decide +kernel
theorem dX2_become_34 : decode cX2_become 34 = .ok (.iconst 0, 1) := by decide +kernel
theorem dX2_become_35 : decode cX2_become 35 = .ok (.aload_n 0, 1) := by decide +kernel
theorem dX2_become_36 : decode cX2_become 36 = .ok (.getfield 18, 3) := by decide +kernel
theorem dX2_become_39 : decode cX2_become 39 = .ok (.iconst 0, 1) := by decide +kernel
theorem dX2_become_40 : decode cX2_become 40 = .ok (.bipush 6, 2) := by decide +kernel
theorem dX2_become_42 : decode cX2_become 42 = .ok (.invokestatic 37, 3) := by decide +kernel
theorem dX2_become_45 : decode cX2_become 45 = .ok (.aload_n 1, 1) := by decide +kernel
theorem dX2_become_46 : decode cX2_become 46 = .ok (.getfield 21, 3) := by decide +kernel
theorem dX2_become_49 : decode cX2_become 49 = .ok (.iconst 0, 1) := by decide +kernel
theorem dX2_become_50 : decode cX2_become 50 = .ok (.aload_n 0, 1) := by decide +kernel
theorem dX2_become_51 : decode cX2_become 51 = .ok (.getfield 21, 3) := by decide +kernel
theorem dX2_become_54 : decode cX2_become 54 = .ok (.iconst 0, 1) := by decide +kernel
theorem dX2_become_55 : decode cX2_become 55 = .ok (.bipush 6, 2) := by decide +kernel
theorem dX2_become_57 : decode cX2_become 57 = .ok (.invokestatic 37, 3) := by decide +kernel
theorem dX2_become_60 : decode cX2_become 60 = .ok (.aload_n 1, 1) := by decide +kernel
theorem dX2_become_61 : decode cX2_become 61 = .ok (.getfield 24, 3) := by decide +kernel
theorem dX2_become_64 : decode cX2_become 64 = .ok (.iconst 0, 1) := by decide +kernel
theorem dX2_become_65 : decode cX2_become 65 = .ok (.aload_n 0, 1) := by decide +kernel
theorem dX2_become_66 : decode cX2_become 66 = .ok (.getfield 24, 3) := by decide +kernel
theorem dX2_become_69 : decode cX2_become 69 = .ok (.iconst 0, 1) := by decide +kernel
theorem dX2_become_70 : decode cX2_become 70 = .ok (.bipush 6, 2) := by decide +kernel
theorem dX2_become_72 : decode cX2_become 72 = .ok (.invokestatic 37, 3) := by decide +kernel
theorem dX2_become_75 : decode cX2_become 75 = .ok (.aload_n 1, 1) := by decide +kernel
theorem dX2_become_76 : decode cX2_become 76 = .ok (.getfield 27, 3) := by decide +kernel
theorem dX2_become_79 : decode cX2_become 79 = .ok (.iconst 0, 1) := by decide +kernel
theorem dX2_become_80 : decode cX2_become 80 = .ok (.aload_n 0, 1) := by decide +kernel
theorem dX2_become_81 : decode cX2_become 81 = .ok (.getfield 27, 3) := by decide +kernel
theorem dX2_become_84 : decode cX2_become 84 = .ok (.iconst 0, 1) := by decide +kernel
theorem dX2_become_85 : decode cX2_become 85 = .ok (.bipush 6, 2) := by decide +kernel
theorem dX2_become_87 : decode cX2_become 87 = .ok (.invokestatic 37, 3) := by decide +kernel
theorem dX2_become_90 : decode cX2_become 90 = .ok (.aload_n 1, 1) := by decide +kernel
theorem dX2_become_91 : decode cX2_become 91 = .ok (.getfield 30, 3) := by decide +kernel
theorem dX2_become_94 : decode cX2_become 94 = .ok (.iconst 0, 1) := by decide +kernel
theorem dX2_become_95 : decode cX2_become 95 = .ok (.aload_n 0, 1) := by decide +kernel
theorem dX2_become_96 : decode cX2_become 96 = .ok (.getfield 30, 3) := by decide +kernel
theorem dX2_become_99 : decode cX2_become 99 = .ok (.iconst 0, 1) := by decide +kernel
theorem dX2_become_100 : decode cX2_become 100 = .ok (.bipush 36, 2) := by decide +kernel
theorem dX2_become_102 : decode cX2_become 102 = .ok (.invokestatic 37, 3) := by decide +kernel
theorem dX2_become_105 : decode cX2_become 105 = .ok (.aload_n 0, 1) := by decide +kernel
theorem dX2_become_106 : decode cX2_become 106 = .ok (.aload_n 1, 1) := by decide +kernel
theorem dX2_become_107 : decode cX2_become 107 = .ok (.getfield 43, 3) := by decide +kernel
theorem dX2_become_110 : decode cX2_become 110 = .ok (.putfield 43, 3) := by decide +kernel
theorem dX2_become_113 : decode cX2_become 113 = .ok (.aload_n 0, 1) := by decide +kernel
theorem dX2_become_114 : decode cX2_become 114 = .ok (.aload_n 1, 1) := by decide +kernel
theorem dX2_become_115 : decode cX2_become 115 = .ok (.getfield 47, 3) := by decide +kernel
theorem dX2_become_118 : decode cX2_become 118 = .ok (.putfield 47, 3) := by decide +kernel
theorem dX2_become_121 : decode cX2_become 121 = .ok (.aload_n 0, 1) := by decide +kernel
theorem dX2_become_122 : decode cX2_become 122 = .ok (.aload_n 1, 1) := by decide +kernel
theorem dX2_become_123 : decode cX2_become 123 = .ok (.getfield 50, 3) := by decide +kernel
theorem dX2_become_126 : decode cX2_become 126 = .ok (.putfield 50, 3) := by decide +kernel
theorem dX2_become_129 : decode cX2_become 129 = .ok (.return_, 1) := by decide +kernel
theorem dX2_add_0 : decode cX2_add 0 = .ok (.aload_n 0, 1) := by decide +kernel
theorem dX2_add_1 : decode cX2_add 1 = .ok (.getfield 43, 3) := by decide +kernel
theorem dX2_add_4 : decode cX2_add 4 = .ok (.istore 4, 2) := by decide +kernel
theorem dX2_add_6 : decode cX2_add 6 = .ok (.aload_n 0, 1) := by decide +kernel
theorem dX2_add_7 : decode cX2_add 7 = .ok (.getfield 9, 3) := by decide +kernel
theorem dX2_add_10 : decode cX2_add 10 = .ok (.iload 4, 2) := by decide +kernel
theorem dX2_add_12 : decode cX2_add 12 = .ok (.iload_n 1, 1) := by decide +kernel
theorem dX2_add_13 : decode cX2_add 13 = .ok (.bipush 10, 2) := by decide +kernel
theorem dX2_add_15 : decode cX2_add 15 = .ok (.idiv, 1) := by decide +kernel
theorem dX2_add_16 : decode cX2_add 16 = .ok (.iastore, 1) := by decide +kernel
theorem dX2_add_17 : decode cX2_add 17 = .ok (.aload_n 0, 1) := by decide +kernel
theorem dX2_add_18 : decode cX2_add 18 = .ok (.getfield 15, 3) := by decide +kernel
theorem dX2_add_21 : decode cX2_add 21 = .ok (.iload 4, 2) := by decide +kernel
theorem dX2_add_23 : decode cX2_add 23 = .ok (.iload_n 1, 1) := by decide +kernel
theorem dX2_add_24 : decode cX2_add 24 = .ok (.bipush 10, 2) := by decide +kernel
theorem dX2_add_26 : decode cX2_add 26 = .ok (.irem, 1) := by decide +kernel
theorem dX2_add_27 : decode cX2_add 27 = .ok (.iastore, 1) := by decide +kernel
theorem dX2_add_28 : decode cX2_add 28 = .ok (.aload_n 0, 1) := by decide +kernel
theorem dX2_add_29 : decode cX2_add 29 = .ok (.getfield 18, 3) := by decide +kernel
theorem dX2_add_32 : decode cX2_add 32 = .ok (.iload 4, 2) := by decide +kernel
theorem dX2_add_34 : decode cX2_add 34 = .ok (.iload_n 2, 1) := by decide +kernel
theorem dX2_add_35 : decode cX2_add 35 = .ok (.iastore, 1) := by decide +kernel
theorem dX2_add_36 : decode cX2_add 36 = .ok (.aload_n 0, 1) := by decide +kernel
theorem dX2_add_37 : decode cX2_add 37 = .ok (.getfield 21, 3) := by decide +kernel
theorem dX2_add_40 : decode cX2_add 40 = .ok (.iload 4, 2) := by decide +kernel
theorem dX2_add_42 : decode cX2_add 42 = .ok (.iload_n 3, 1) := by decide +kernel
theorem dX2_add_43 : decode cX2_add 43 = .ok (.bipush 100, 2) := by decide +kernel
theorem dX2_add_45 : decode cX2_add 45 = .ok (.idiv, 1) := by decide +kernel
theorem dX2_add_46 : decode cX2_add 46 = .ok (.iastore, 1) := by decide +kernel
theorem dX2_add_47 : decode cX2_add 47 = .ok (.aload_n 0, 1) := by decide +kernel
theorem dX2_add_48 : decode cX2_add 48 = .ok (.getfield 24, 3) := by decide +kernel
theorem dX2_add_51 : decode cX2_add 51 = .ok (.iload 4, 2) := by decide +kernel
theorem dX2_add_53 : decode cX2_add 53 = .ok (.iload_n 3, 1) := by decide +kernel
theorem dX2_add_54 : decode cX2_add 54 = .ok (.bipush 100, 2) := by decide +kernel
theorem dX2_add_56 : decode cX2_add 56 = .ok (.irem, 1) := by decide +kernel
theorem dX2_add_57 : decode cX2_add 57 = .ok (.iastore, 1) := by decide +kernel
theorem dX2_add_58 : decode cX2_add 58 = .ok (.aload_n 0, 1) := by decide +kernel
theorem dX2_add_59 : decode cX2_add 59 = .ok (.dup, 1) := by decide +kernel
theorem dX2_add_60 : decode cX2_add 60 = .ok (.getfield 43, 3) := by decide +kernel
theorem dX2_add_63 : decode cX2_add 63 = .ok (.iconst 1, 1) := by decide +kernel
theorem dX2_add_64 : decode cX2_add 64 = .ok (.iadd, 1) := by decide +kernel
theorem dX2_add_65 : decode cX2_add 65 = .ok (.putfield 43, 3) := by decide +kernel
theorem dX2_add_68 : decode cX2_add 68 = .ok (.return_, 1) := by decide +kernel
theorem dX2_rowOf_0 : decode cX2_rowOf 0 = .ok (.iload_n 1, 1) := by decide +kernel
theorem dX2_rowOf_1 : decode cX2_rowOf 1 = .ok (.tableswitch 51 0 3 #[31, 36, 41, 46], 31) := by decide +kernel
theorem dX2_rowOf_32 : decode cX2_rowOf 32 = .ok (.aload_n 0, 1) := by decide +kernel
theorem dX2_rowOf_33 : decode cX2_rowOf 33 = .ok (.getfield 18, 3) := by decide +kernel
theorem dX2_rowOf_36 : decode cX2_rowOf 36 = .ok (.areturn, 1) := by decide +kernel
theorem dX2_rowOf_37 : decode cX2_rowOf 37 = .ok (.aload_n 0, 1) := by decide +kernel
theorem dX2_rowOf_38 : decode cX2_rowOf 38 = .ok (.getfield 21, 3) := by decide +kernel
theorem dX2_rowOf_41 : decode cX2_rowOf 41 = .ok (.areturn, 1) := by decide +kernel
theorem dX2_rowOf_42 : decode cX2_rowOf 42 = .ok (.aload_n 0, 1) := by decide +kernel
theorem dX2_rowOf_43 : decode cX2_rowOf 43 = .ok (.getfield 24, 3) := by decide +kernel
theorem dX2_rowOf_46 : decode cX2_rowOf 46 = .ok (.areturn, 1) := by decide +kernel
theorem dX2_rowOf_47 : decode cX2_rowOf 47 = .ok (.aload_n 0, 1) := by decide +kernel
theorem dX2_rowOf_48 : decode cX2_rowOf 48 = .ok (.getfield 27, 3) := by decide +kernel
theorem dX2_rowOf_51 : decode cX2_rowOf 51 = .ok (.areturn, 1) := by decide +kernel
theorem dX2_rowOf_52 : decode cX2_rowOf 52 = .ok (.aconst_null, 1) := by decide +kernel
theorem dX2_rowOf_53 : decode cX2_rowOf 53 = .ok (.areturn, 1) := by decide +kernel
theorem dX2_leaveOnly_0 : decode cX2_leaveOnly 0 = .ok (.iconst 0, 1) := by decide +kernel
theorem dX2_leaveOnly_1 : decode cX2_leaveOnly 1 = .ok (.istore_n 3, 1) := by decide +kernel
theorem dX2_leaveOnly_2 : decode cX2_leaveOnly 2 = .ok (.iload_n 3, 1) := by decide +kernel
theorem dX2_leaveOnly_3 : decode cX2_leaveOnly 3 = .ok (.aload_n 0, 1) := by decide +kernel
theorem dX2_leaveOnly_4 : decode cX2_leaveOnly 4 = .ok (.getfield 43, 3) := by decide +kernel
theorem dX2_leaveOnly_7 : decode cX2_leaveOnly 7 = .ok (.if_icmp .ge 35, 3) := by decide +kernel
theorem dX2_leaveOnly_10 : decode cX2_leaveOnly 10 = .ok (.aload_n 0, 1) := by decide +kernel
theorem dX2_leaveOnly_11 : decode cX2_leaveOnly 11 = .ok (.getfield 21, 3) := by decide +kernel
theorem dX2_leaveOnly_14 : decode cX2_leaveOnly 14 = .ok (.iload_n 3, 1) := by decide +kernel
theorem dX2_leaveOnly_15 : decode cX2_leaveOnly 15 = .ok (.iload_n 3, 1) := by decide +kernel
theorem dX2_leaveOnly_16 : decode cX2_leaveOnly 16 = .ok (.iload_n 1, 1) := by decide +kernel
theorem dX2_leaveOnly_17 : decode cX2_leaveOnly 17 = .ok (.if_icmp .eq 8, 3) := by decide +kernel
theorem dX2_leaveOnly_20 : decode cX2_leaveOnly 20 = .ok (.iload_n 3, 1) := by decide +kernel
theorem dX2_leaveOnly_21 : decode cX2_leaveOnly 21 = .ok (.iload_n 2, 1) := by decide +kernel
theorem dX2_leaveOnly_22 : decode cX2_leaveOnly 22 = .ok (.if_icmp .ne 12, 3) := by decide +kernel
theorem dX2_leaveOnly_25 : decode cX2_leaveOnly 25 = .ok (.aload_n 0, 1) := by decide +kernel
theorem dX2_leaveOnly_26 : decode cX2_leaveOnly 26 = .ok (.getfield 21, 3) := by decide +kernel
theorem dX2_leaveOnly_29 : decode cX2_leaveOnly 29 = .ok (.iload_n 3, 1) := by decide +kernel
theorem dX2_leaveOnly_30 : decode cX2_leaveOnly 30 = .ok (.iaload, 1) := by decide +kernel
theorem dX2_leaveOnly_31 : decode cX2_leaveOnly 31 = .ok (.goto 4, 3) := by decide +kernel
theorem dX2_leaveOnly_34 : decode cX2_leaveOnly 34 = .ok (.iconst 0, 1) := by decide +kernel
theorem dX2_leaveOnly_35 : decode cX2_leaveOnly 35 = .ok (.iastore, 1) := by decide +kernel
theorem dX2_leaveOnly_36 : decode cX2_leaveOnly 36 = .ok (.iinc 3 1, 3) := by decide +kernel
theorem dX2_leaveOnly_39 : decode cX2_leaveOnly 39 = .ok (.goto (-37), 3) := by decide +kernel
theorem dX2_leaveOnly_42 : decode cX2_leaveOnly 42 = .ok (.return_, 1) := by decide +kernel
theorem dX2_upBits_0 : decode cX2_upBits 0 = .ok (.iconst 0, 1) := by decide +kernel
theorem dX2_upBits_1 : decode cX2_upBits 1 = .ok (.istore_n 1, 1) := by decide +kernel
theorem dX2_upBits_2 : decode cX2_upBits 2 = .ok (.iconst 0, 1) := by decide +kernel
theorem dX2_upBits_3 : decode cX2_upBits 3 = .ok (.istore_n 2, 1) := by decide +kernel
theorem dX2_upBits_4 : decode cX2_upBits 4 = .ok (.iload_n 2, 1) := by decide +kernel
theorem dX2_upBits_5 : decode cX2_upBits 5 = .ok (.aload_n 0, 1) := by decide +kernel
theorem dX2_upBits_6 : decode cX2_upBits 6 = .ok (.getfield 43, 3) := by decide +kernel
theorem dX2_upBits_9 : decode cX2_upBits 9 = .ok (.if_icmp .ge 24, 3) := by decide +kernel
theorem dX2_upBits_12 : decode cX2_upBits 12 = .ok (.aload_n 0, 1) := by decide +kernel
theorem dX2_upBits_13 : decode cX2_upBits 13 = .ok (.getfield 21, 3) := by decide +kernel
theorem dX2_upBits_16 : decode cX2_upBits 16 = .ok (.iload_n 2, 1) := by decide +kernel
theorem dX2_upBits_17 : decode cX2_upBits 17 = .ok (.iaload, 1) := by decide +kernel
theorem dX2_upBits_18 : decode cX2_upBits 18 = .ok (.ifCond .le 9, 3) := by decide +kernel
theorem dX2_upBits_21 : decode cX2_upBits 21 = .ok (.iload_n 1, 1) := by decide +kernel
theorem dX2_upBits_22 : decode cX2_upBits 22 = .ok (.iconst 1, 1) := by decide +kernel
theorem dX2_upBits_23 : decode cX2_upBits 23 = .ok (.iload_n 2, 1) := by decide +kernel
theorem dX2_upBits_24 : decode cX2_upBits 24 = .ok (.ishl, 1) := by decide +kernel
theorem dX2_upBits_25 : decode cX2_upBits 25 = .ok (.ior, 1) := by decide +kernel
theorem dX2_upBits_26 : decode cX2_upBits 26 = .ok (.istore_n 1, 1) := by decide +kernel
theorem dX2_upBits_27 : decode cX2_upBits 27 = .ok (.iinc 2 1, 3) := by decide +kernel
theorem dX2_upBits_30 : decode cX2_upBits 30 = .ok (.goto (-26), 3) := by decide +kernel
theorem dX2_upBits_33 : decode cX2_upBits 33 = .ok (.iload_n 1, 1) := by decide +kernel
theorem dX2_upBits_34 : decode cX2_upBits 34 = .ok (.ireturn, 1) := by decide +kernel
theorem dX2_upCount_0 : decode cX2_upCount 0 = .ok (.iconst 0, 1) := by decide +kernel
theorem dX2_upCount_1 : decode cX2_upCount 1 = .ok (.istore_n 1, 1) := by decide +kernel
theorem dX2_upCount_2 : decode cX2_upCount 2 = .ok (.iconst 0, 1) := by decide +kernel
theorem dX2_upCount_3 : decode cX2_upCount 3 = .ok (.istore_n 2, 1) := by decide +kernel
theorem dX2_upCount_4 : decode cX2_upCount 4 = .ok (.iload_n 2, 1) := by decide +kernel
theorem dX2_upCount_5 : decode cX2_upCount 5 = .ok (.aload_n 0, 1) := by decide +kernel
theorem dX2_upCount_6 : decode cX2_upCount 6 = .ok (.getfield 43, 3) := by decide +kernel
theorem dX2_upCount_9 : decode cX2_upCount 9 = .ok (.if_icmp .ge 21, 3) := by decide +kernel
theorem dX2_upCount_12 : decode cX2_upCount 12 = .ok (.aload_n 0, 1) := by decide +kernel
theorem dX2_upCount_13 : decode cX2_upCount 13 = .ok (.getfield 21, 3) := by decide +kernel
theorem dX2_upCount_16 : decode cX2_upCount 16 = .ok (.iload_n 2, 1) := by decide +kernel
theorem dX2_upCount_17 : decode cX2_upCount 17 = .ok (.iaload, 1) := by decide +kernel
theorem dX2_upCount_18 : decode cX2_upCount 18 = .ok (.ifCond .le 6, 3) := by decide +kernel
theorem dX2_upCount_21 : decode cX2_upCount 21 = .ok (.iinc 1 1, 3) := by decide +kernel
theorem dX2_upCount_24 : decode cX2_upCount 24 = .ok (.iinc 2 1, 3) := by decide +kernel
theorem dX2_upCount_27 : decode cX2_upCount 27 = .ok (.goto (-23), 3) := by decide +kernel
theorem dX2_upCount_30 : decode cX2_upCount 30 = .ok (.iload_n 1, 1) := by decide +kernel
theorem dX2_upCount_31 : decode cX2_upCount 31 = .ok (.ireturn, 1) := by decide +kernel
theorem dX2_feltSum_0 : decode cX2_feltSum 0 = .ok (.iconst 0, 1) := by decide +kernel
theorem dX2_feltSum_1 : decode cX2_feltSum 1 = .ok (.istore_n 1, 1) := by decide +kernel
theorem dX2_feltSum_2 : decode cX2_feltSum 2 = .ok (.iconst 0, 1) := by decide +kernel
theorem dX2_feltSum_3 : decode cX2_feltSum 3 = .ok (.istore_n 2, 1) := by decide +kernel
theorem dX2_feltSum_4 : decode cX2_feltSum 4 = .ok (.iload_n 2, 1) := by decide +kernel
theorem dX2_feltSum_5 : decode cX2_feltSum 5 = .ok (.aload_n 0, 1) := by decide +kernel
theorem dX2_feltSum_6 : decode cX2_feltSum 6 = .ok (.getfield 43, 3) := by decide +kernel
theorem dX2_feltSum_9 : decode cX2_feltSum 9 = .ok (.if_icmp .ge 18, 3) := by decide +kernel
theorem dX2_feltSum_12 : decode cX2_feltSum 12 = .ok (.iload_n 1, 1) := by decide +kernel
theorem dX2_feltSum_13 : decode cX2_feltSum 13 = .ok (.aload_n 0, 1) := by decide +kernel
theorem dX2_feltSum_14 : decode cX2_feltSum 14 = .ok (.getfield 21, 3) := by decide +kernel
theorem dX2_feltSum_17 : decode cX2_feltSum 17 = .ok (.iload_n 2, 1) := by decide +kernel
theorem dX2_feltSum_18 : decode cX2_feltSum 18 = .ok (.iaload, 1) := by decide +kernel
theorem dX2_feltSum_19 : decode cX2_feltSum 19 = .ok (.iadd, 1) := by decide +kernel
theorem dX2_feltSum_20 : decode cX2_feltSum 20 = .ok (.istore_n 1, 1) := by decide +kernel
theorem dX2_feltSum_21 : decode cX2_feltSum 21 = .ok (.iinc 2 1, 3) := by decide +kernel
theorem dX2_feltSum_24 : decode cX2_feltSum 24 = .ok (.goto (-20), 3) := by decide +kernel
theorem dX2_feltSum_27 : decode cX2_feltSum 27 = .ok (.iload_n 1, 1) := by decide +kernel
theorem dX2_feltSum_28 : decode cX2_feltSum 28 = .ok (.ireturn, 1) := by decide +kernel
theorem dX2_tallySum_0 : decode cX2_tallySum 0 = .ok (.iconst 0, 1) := by decide +kernel
theorem dX2_tallySum_1 : decode cX2_tallySum 1 = .ok (.istore_n 1, 1) := by decide +kernel
theorem dX2_tallySum_2 : decode cX2_tallySum 2 = .ok (.iconst 0, 1) := by decide +kernel
theorem dX2_tallySum_3 : decode cX2_tallySum 3 = .ok (.istore_n 2, 1) := by decide +kernel
theorem dX2_tallySum_4 : decode cX2_tallySum 4 = .ok (.iload_n 2, 1) := by decide +kernel
theorem dX2_tallySum_5 : decode cX2_tallySum 5 = .ok (.aload_n 0, 1) := by decide +kernel
theorem dX2_tallySum_6 : decode cX2_tallySum 6 = .ok (.getfield 43, 3) := by decide +kernel
theorem dX2_tallySum_9 : decode cX2_tallySum 9 = .ok (.if_icmp .ge 39, 3) := by decide +kernel
theorem dX2_tallySum_12 : decode cX2_tallySum 12 = .ok (.iconst 0, 1) := by decide +kernel
theorem dX2_tallySum_13 : decode cX2_tallySum 13 = .ok (.istore_n 3, 1) := by decide +kernel
theorem dX2_tallySum_14 : decode cX2_tallySum 14 = .ok (.iload_n 3, 1) := by decide +kernel
theorem dX2_tallySum_15 : decode cX2_tallySum 15 = .ok (.aload_n 0, 1) := by decide +kernel
theorem dX2_tallySum_16 : decode cX2_tallySum 16 = .ok (.getfield 43, 3) := by decide +kernel
theorem dX2_tallySum_19 : decode cX2_tallySum 19 = .ok (.if_icmp .ge 23, 3) := by decide +kernel
theorem dX2_tallySum_22 : decode cX2_tallySum 22 = .ok (.iload_n 1, 1) := by decide +kernel
theorem dX2_tallySum_23 : decode cX2_tallySum 23 = .ok (.aload_n 0, 1) := by decide +kernel
theorem dX2_tallySum_24 : decode cX2_tallySum 24 = .ok (.getfield 30, 3) := by decide +kernel
theorem dX2_tallySum_27 : decode cX2_tallySum 27 = .ok (.iload_n 2, 1) := by decide +kernel
theorem dX2_tallySum_28 : decode cX2_tallySum 28 = .ok (.bipush 6, 2) := by decide +kernel
theorem dX2_tallySum_30 : decode cX2_tallySum 30 = .ok (.imul, 1) := by decide +kernel
theorem dX2_tallySum_31 : decode cX2_tallySum 31 = .ok (.iload_n 3, 1) := by decide +kernel
theorem dX2_tallySum_32 : decode cX2_tallySum 32 = .ok (.iadd, 1) := by decide +kernel
theorem dX2_tallySum_33 : decode cX2_tallySum 33 = .ok (.iaload, 1) := by decide +kernel
theorem dX2_tallySum_34 : decode cX2_tallySum 34 = .ok (.iadd, 1) := by decide +kernel
theorem dX2_tallySum_35 : decode cX2_tallySum 35 = .ok (.istore_n 1, 1) := by decide +kernel
theorem dX2_tallySum_36 : decode cX2_tallySum 36 = .ok (.iinc 3 1, 3) := by decide +kernel
theorem dX2_tallySum_39 : decode cX2_tallySum 39 = .ok (.goto (-25), 3) := by decide +kernel
theorem dX2_tallySum_42 : decode cX2_tallySum 42 = .ok (.iinc 2 1, 3) := by decide +kernel
theorem dX2_tallySum_45 : decode cX2_tallySum 45 = .ok (.goto (-41), 3) := by decide +kernel
theorem dX2_tallySum_48 : decode cX2_tallySum 48 = .ok (.iload_n 1, 1) := by decide +kernel
theorem dX2_tallySum_49 : decode cX2_tallySum 49 = .ok (.ireturn, 1) := by decide +kernel
theorem dX2_mostFelt_0 : decode cX2_mostFelt 0 = .ok (.iconst (-1), 1) := by decide +kernel
theorem dX2_mostFelt_1 : decode cX2_mostFelt 1 = .ok (.istore_n 1, 1) := by decide +kernel
theorem dX2_mostFelt_2 : decode cX2_mostFelt 2 = .ok (.iconst 0, 1) := by decide +kernel
theorem dX2_mostFelt_3 : decode cX2_mostFelt 3 = .ok (.istore_n 2, 1) := by decide +kernel
theorem dX2_mostFelt_4 : decode cX2_mostFelt 4 = .ok (.iconst 0, 1) := by decide +kernel
theorem dX2_mostFelt_5 : decode cX2_mostFelt 5 = .ok (.istore_n 3, 1) := by decide +kernel
theorem dX2_mostFelt_6 : decode cX2_mostFelt 6 = .ok (.iload_n 3, 1) := by decide +kernel
theorem dX2_mostFelt_7 : decode cX2_mostFelt 7 = .ok (.aload_n 0, 1) := by decide +kernel
theorem dX2_mostFelt_8 : decode cX2_mostFelt 8 = .ok (.getfield 43, 3) := by decide +kernel
theorem dX2_mostFelt_11 : decode cX2_mostFelt 11 = .ok (.if_icmp .ge 28, 3) := by decide +kernel
theorem dX2_mostFelt_14 : decode cX2_mostFelt 14 = .ok (.aload_n 0, 1) := by decide +kernel
theorem dX2_mostFelt_15 : decode cX2_mostFelt 15 = .ok (.getfield 21, 3) := by decide +kernel
theorem dX2_mostFelt_18 : decode cX2_mostFelt 18 = .ok (.iload_n 3, 1) := by decide +kernel
theorem dX2_mostFelt_19 : decode cX2_mostFelt 19 = .ok (.iaload, 1) := by decide +kernel
theorem dX2_mostFelt_20 : decode cX2_mostFelt 20 = .ok (.iload_n 2, 1) := by decide +kernel
theorem dX2_mostFelt_21 : decode cX2_mostFelt 21 = .ok (.if_icmp .le 12, 3) := by decide +kernel
theorem dX2_mostFelt_24 : decode cX2_mostFelt 24 = .ok (.aload_n 0, 1) := by decide +kernel
theorem dX2_mostFelt_25 : decode cX2_mostFelt 25 = .ok (.getfield 21, 3) := by decide +kernel
theorem dX2_mostFelt_28 : decode cX2_mostFelt 28 = .ok (.iload_n 3, 1) := by decide +kernel
theorem dX2_mostFelt_29 : decode cX2_mostFelt 29 = .ok (.iaload, 1) := by decide +kernel
theorem dX2_mostFelt_30 : decode cX2_mostFelt 30 = .ok (.istore_n 2, 1) := by decide +kernel
theorem dX2_mostFelt_31 : decode cX2_mostFelt 31 = .ok (.iload_n 3, 1) := by decide +kernel
theorem dX2_mostFelt_32 : decode cX2_mostFelt 32 = .ok (.istore_n 1, 1) := by decide +kernel
theorem dX2_mostFelt_33 : decode cX2_mostFelt 33 = .ok (.iinc 3 1, 3) := by decide +kernel
theorem dX2_mostFelt_36 : decode cX2_mostFelt 36 = .ok (.goto (-30), 3) := by decide +kernel
theorem dX2_mostFelt_39 : decode cX2_mostFelt 39 = .ok (.iload_n 1, 1) := by decide +kernel
theorem dX2_mostFelt_40 : decode cX2_mostFelt 40 = .ok (.ireturn, 1) := by decide +kernel
theorem dX2_far_0 : decode cX2_far 0 = .ok (.aload_n 0, 1) := by decide +kernel
theorem dX2_far_1 : decode cX2_far 1 = .ok (.getfield 18, 3) := by decide +kernel
theorem dX2_far_4 : decode cX2_far 4 = .ok (.iload_n 1, 1) := by decide +kernel
theorem dX2_far_5 : decode cX2_far 5 = .ok (.iaload, 1) := by decide +kernel
theorem dX2_far_6 : decode cX2_far 6 = .ok (.bipush 8, 2) := by decide +kernel
theorem dX2_far_8 : decode cX2_far 8 = .ok (.irem, 1) := by decide +kernel
theorem dX2_far_9 : decode cX2_far 9 = .ok (.aload_n 0, 1) := by decide +kernel
theorem dX2_far_10 : decode cX2_far 10 = .ok (.getfield 18, 3) := by decide +kernel
theorem dX2_far_13 : decode cX2_far 13 = .ok (.iload_n 2, 1) := by decide +kernel
theorem dX2_far_14 : decode cX2_far 14 = .ok (.iaload, 1) := by decide +kernel
theorem dX2_far_15 : decode cX2_far 15 = .ok (.bipush 8, 2) := by decide +kernel
theorem dX2_far_17 : decode cX2_far 17 = .ok (.irem, 1) := by decide +kernel
theorem dX2_far_18 : decode cX2_far 18 = .ok (.isub, 1) := by decide +kernel
theorem dX2_far_19 : decode cX2_far 19 = .ok (.invokestatic 53, 3) := by decide +kernel
theorem dX2_far_22 : decode cX2_far 22 = .ok (.aload_n 0, 1) := by decide +kernel
theorem dX2_far_23 : decode cX2_far 23 = .ok (.getfield 18, 3) := by decide +kernel
theorem dX2_far_26 : decode cX2_far 26 = .ok (.iload_n 1, 1) := by decide +kernel
theorem dX2_far_27 : decode cX2_far 27 = .ok (.iaload, 1) := by decide +kernel
theorem dX2_far_28 : decode cX2_far 28 = .ok (.bipush 8, 2) := by decide +kernel
theorem dX2_far_30 : decode cX2_far 30 = .ok (.idiv, 1) := by decide +kernel
theorem dX2_far_31 : decode cX2_far 31 = .ok (.aload_n 0, 1) := by decide +kernel
theorem dX2_far_32 : decode cX2_far 32 = .ok (.getfield 18, 3) := by decide +kernel
theorem dX2_far_35 : decode cX2_far 35 = .ok (.iload_n 2, 1) := by decide +kernel
theorem dX2_far_36 : decode cX2_far 36 = .ok (.iaload, 1) := by decide +kernel
theorem dX2_far_37 : decode cX2_far 37 = .ok (.bipush 8, 2) := by decide +kernel
theorem dX2_far_39 : decode cX2_far 39 = .ok (.idiv, 1) := by decide +kernel
theorem dX2_far_40 : decode cX2_far 40 = .ok (.isub, 1) := by decide +kernel
theorem dX2_far_41 : decode cX2_far 41 = .ok (.invokestatic 53, 3) := by decide +kernel
theorem dX2_far_44 : decode cX2_far 44 = .ok (.iadd, 1) := by decide +kernel
theorem dX2_far_45 : decode cX2_far 45 = .ok (.ireturn, 1) := by decide +kernel
theorem dX2_nearest_0 : decode cX2_nearest 0 = .ok (.iconst (-1), 1) := by decide +kernel
theorem dX2_nearest_1 : decode cX2_nearest 1 = .ok (.istore_n 2, 1) := by decide +kernel
theorem dX2_nearest_2 : decode cX2_nearest 2 = .ok (.bipush 64, 2) := by decide +kernel
theorem dX2_nearest_4 : decode cX2_nearest 4 = .ok (.istore_n 3, 1) := by decide +kernel
theorem dX2_nearest_5 : decode cX2_nearest 5 = .ok (.iconst 0, 1) := by decide +kernel
theorem dX2_nearest_6 : decode cX2_nearest 6 = .ok (.istore 4, 2) := by decide +kernel
theorem dX2_nearest_8 : decode cX2_nearest 8 = .ok (.iload 4, 2) := by decide +kernel
theorem dX2_nearest_10 : decode cX2_nearest 10 = .ok (.aload_n 0, 1) := by decide +kernel
theorem dX2_nearest_11 : decode cX2_nearest 11 = .ok (.getfield 43, 3) := by decide +kernel
theorem dX2_nearest_14 : decode cX2_nearest 14 = .ok (.if_icmp .ge 47, 3) := by decide +kernel
theorem dX2_nearest_17 : decode cX2_nearest 17 = .ok (.iload 4, 2) := by decide +kernel
theorem dX2_nearest_19 : decode cX2_nearest 19 = .ok (.iload_n 1, 1) := by decide +kernel
theorem dX2_nearest_20 : decode cX2_nearest 20 = .ok (.if_icmp .eq 35, 3) := by decide +kernel
theorem dX2_nearest_23 : decode cX2_nearest 23 = .ok (.aload_n 0, 1) := by decide +kernel
theorem dX2_nearest_24 : decode cX2_nearest 24 = .ok (.getfield 21, 3) := by decide +kernel
theorem dX2_nearest_27 : decode cX2_nearest 27 = .ok (.iload 4, 2) := by decide +kernel
theorem dX2_nearest_29 : decode cX2_nearest 29 = .ok (.iaload, 1) := by decide +kernel
theorem dX2_nearest_30 : decode cX2_nearest 30 = .ok (.ifCond .le 25, 3) := by decide +kernel
theorem dX2_nearest_33 : decode cX2_nearest 33 = .ok (.aload_n 0, 1) := by decide +kernel
theorem dX2_nearest_34 : decode cX2_nearest 34 = .ok (.iload_n 1, 1) := by decide +kernel
theorem dX2_nearest_35 : decode cX2_nearest 35 = .ok (.iload 4, 2) := by decide +kernel
theorem dX2_nearest_37 : decode cX2_nearest 37 = .ok (.invokevirtual 59, 3) := by decide +kernel
theorem dX2_nearest_40 : decode cX2_nearest 40 = .ok (.iload_n 3, 1) := by decide +kernel
theorem dX2_nearest_41 : decode cX2_nearest 41 = .ok (.if_icmp .ge 14, 3) := by decide +kernel
theorem dX2_nearest_44 : decode cX2_nearest 44 = .ok (.aload_n 0, 1) := by decide +kernel
theorem dX2_nearest_45 : decode cX2_nearest 45 = .ok (.iload_n 1, 1) := by decide +kernel
theorem dX2_nearest_46 : decode cX2_nearest 46 = .ok (.iload 4, 2) := by decide +kernel
theorem dX2_nearest_48 : decode cX2_nearest 48 = .ok (.invokevirtual 59, 3) := by decide +kernel
theorem dX2_nearest_51 : decode cX2_nearest 51 = .ok (.istore_n 3, 1) := by decide +kernel
theorem dX2_nearest_52 : decode cX2_nearest 52 = .ok (.iload 4, 2) := by decide +kernel
theorem dX2_nearest_54 : decode cX2_nearest 54 = .ok (.istore_n 2, 1) := by decide +kernel
theorem dX2_nearest_55 : decode cX2_nearest 55 = .ok (.iinc 4 1, 3) := by decide +kernel
theorem dX2_nearest_58 : decode cX2_nearest 58 = .ok (.goto (-50), 3) := by decide +kernel
theorem dX2_nearest_61 : decode cX2_nearest 61 = .ok (.iload_n 2, 1) := by decide +kernel
theorem dX2_nearest_62 : decode cX2_nearest 62 = .ok (.ireturn, 1) := by decide +kernel
theorem dX2_goes_0 : decode cX2_goes 0 = .ok (.aload_n 0, 1) := by decide +kernel
theorem dX2_goes_1 : decode cX2_goes 1 = .ok (.getfield 9, 3) := by decide +kernel
theorem dX2_goes_4 : decode cX2_goes 4 = .ok (.iload_n 1, 1) := by decide +kernel
theorem dX2_goes_5 : decode cX2_goes 5 = .ok (.iaload, 1) := by decide +kernel
theorem dX2_goes_6 : decode cX2_goes 6 = .ok (.aload_n 0, 1) := by decide +kernel
theorem dX2_goes_7 : decode cX2_goes 7 = .ok (.getfield 15, 3) := by decide +kernel
theorem dX2_goes_10 : decode cX2_goes 10 = .ok (.iload_n 1, 1) := by decide +kernel
theorem dX2_goes_11 : decode cX2_goes 11 = .ok (.iaload, 1) := by decide +kernel
theorem dX2_goes_12 : decode cX2_goes 12 = .ok (.aload_n 0, 1) := by decide +kernel
theorem dX2_goes_13 : decode cX2_goes 13 = .ok (.getfield 47, 3) := by decide +kernel
theorem dX2_goes_16 : decode cX2_goes 16 = .ok (.aload_n 0, 1) := by decide +kernel
theorem dX2_goes_17 : decode cX2_goes 17 = .ok (.getfield 33, 3) := by decide +kernel
theorem dX2_goes_20 : decode cX2_goes 20 = .ok (.aload_n 0, 1) := by decide +kernel
theorem dX2_goes_21 : decode cX2_goes 21 = .ok (.getfield 50, 3) := by decide +kernel
theorem dX2_goes_24 : decode cX2_goes 24 = .ok (.aaload, 1) := by decide +kernel
theorem dX2_goes_25 : decode cX2_goes 25 = .ok (.iconst 0, 1) := by decide +kernel
theorem dX2_goes_26 : decode cX2_goes 26 = .ok (.aload_n 0, 1) := by decide +kernel
theorem dX2_goes_27 : decode cX2_goes 27 = .ok (.iload_n 1, 1) := by decide +kernel
theorem dX2_goes_28 : decode cX2_goes 28 = .ok (.invokevirtual 63, 3) := by decide +kernel
theorem dX2_goes_31 : decode cX2_goes 31 = .ok (.ifCond .eq 7, 3) := by decide +kernel
theorem dX2_goes_34 : decode cX2_goes 34 = .ok (.iconst 1, 1) := by decide +kernel
theorem dX2_goes_35 : decode cX2_goes 35 = .ok (.goto 4, 3) := by decide +kernel
theorem dX2_goes_38 : decode cX2_goes 38 = .ok (.iconst 0, 1) := by decide +kernel
theorem dX2_goes_39 : decode cX2_goes 39 = .ok (.invokestatic 69, 3) := by decide +kernel
theorem dX2_goes_42 : decode cX2_goes 42 = .ok (.ireturn, 1) := by decide +kernel
theorem dX2_hits_0 : decode cX2_hits 0 = .ok (.aload_n 0, 1) := by decide +kernel
theorem dX2_hits_1 : decode cX2_hits 1 = .ok (.getfield 9, 3) := by decide +kernel
theorem dX2_hits_4 : decode cX2_hits 4 = .ok (.iload_n 1, 1) := by decide +kernel
theorem dX2_hits_5 : decode cX2_hits 5 = .ok (.iaload, 1) := by decide +kernel
theorem dX2_hits_6 : decode cX2_hits 6 = .ok (.aload_n 0, 1) := by decide +kernel
theorem dX2_hits_7 : decode cX2_hits 7 = .ok (.getfield 15, 3) := by decide +kernel
theorem dX2_hits_10 : decode cX2_hits 10 = .ok (.iload_n 1, 1) := by decide +kernel
theorem dX2_hits_11 : decode cX2_hits 11 = .ok (.iaload, 1) := by decide +kernel
theorem dX2_hits_12 : decode cX2_hits 12 = .ok (.aload_n 0, 1) := by decide +kernel
theorem dX2_hits_13 : decode cX2_hits 13 = .ok (.getfield 9, 3) := by decide +kernel
theorem dX2_hits_16 : decode cX2_hits 16 = .ok (.iload_n 2, 1) := by decide +kernel
theorem dX2_hits_17 : decode cX2_hits 17 = .ok (.iaload, 1) := by decide +kernel
theorem dX2_hits_18 : decode cX2_hits 18 = .ok (.aload_n 0, 1) := by decide +kernel
theorem dX2_hits_19 : decode cX2_hits 19 = .ok (.getfield 47, 3) := by decide +kernel
theorem dX2_hits_22 : decode cX2_hits 22 = .ok (.aload_n 0, 1) := by decide +kernel
theorem dX2_hits_23 : decode cX2_hits 23 = .ok (.getfield 33, 3) := by decide +kernel
theorem dX2_hits_26 : decode cX2_hits 26 = .ok (.aload_n 0, 1) := by decide +kernel
theorem dX2_hits_27 : decode cX2_hits 27 = .ok (.getfield 50, 3) := by decide +kernel
theorem dX2_hits_30 : decode cX2_hits 30 = .ok (.aaload, 1) := by decide +kernel
theorem dX2_hits_31 : decode cX2_hits 31 = .ok (.iconst 1, 1) := by decide +kernel
theorem dX2_hits_32 : decode cX2_hits 32 = .ok (.aload_n 0, 1) := by decide +kernel
theorem dX2_hits_33 : decode cX2_hits 33 = .ok (.iload_n 1, 1) := by decide +kernel
theorem dX2_hits_34 : decode cX2_hits 34 = .ok (.invokevirtual 63, 3) := by decide +kernel
theorem dX2_hits_37 : decode cX2_hits 37 = .ok (.invokestatic 75, 3) := by decide +kernel
theorem dX2_hits_40 : decode cX2_hits 40 = .ok (.ireturn, 1) := by decide +kernel
theorem dX2_soft_0 : decode cX2_soft 0 = .ok (.aload_n 0, 1) := by decide +kernel
theorem dX2_soft_1 : decode cX2_soft 1 = .ok (.getfield 9, 3) := by decide +kernel
theorem dX2_soft_4 : decode cX2_soft 4 = .ok (.iload_n 1, 1) := by decide +kernel
theorem dX2_soft_5 : decode cX2_soft 5 = .ok (.iaload, 1) := by decide +kernel
theorem dX2_soft_6 : decode cX2_soft 6 = .ok (.aload_n 0, 1) := by decide +kernel
theorem dX2_soft_7 : decode cX2_soft 7 = .ok (.getfield 15, 3) := by decide +kernel
theorem dX2_soft_10 : decode cX2_soft 10 = .ok (.iload_n 1, 1) := by decide +kernel
theorem dX2_soft_11 : decode cX2_soft 11 = .ok (.iaload, 1) := by decide +kernel
theorem dX2_soft_12 : decode cX2_soft 12 = .ok (.aload_n 0, 1) := by decide +kernel
theorem dX2_soft_13 : decode cX2_soft 13 = .ok (.getfield 33, 3) := by decide +kernel
theorem dX2_soft_16 : decode cX2_soft 16 = .ok (.aload_n 0, 1) := by decide +kernel
theorem dX2_soft_17 : decode cX2_soft 17 = .ok (.getfield 50, 3) := by decide +kernel
theorem dX2_soft_20 : decode cX2_soft 20 = .ok (.aaload, 1) := by decide +kernel
theorem dX2_soft_21 : decode cX2_soft 21 = .ok (.iconst 2, 1) := by decide +kernel
theorem dX2_soft_22 : decode cX2_soft 22 = .ok (.aload_n 0, 1) := by decide +kernel
theorem dX2_soft_23 : decode cX2_soft 23 = .ok (.iload_n 1, 1) := by decide +kernel
theorem dX2_soft_24 : decode cX2_soft 24 = .ok (.invokevirtual 63, 3) := by decide +kernel
theorem dX2_soft_27 : decode cX2_soft 27 = .ok (.invokestatic 79, 3) := by decide +kernel
theorem dX2_soft_30 : decode cX2_soft 30 = .ok (.ireturn, 1) := by decide +kernel
theorem dX2_blow_0 : decode cX2_blow 0 = .ok (.iconst 0, 1) := by decide +kernel
theorem dX2_blow_1 : decode cX2_blow 1 = .ok (.bipush 99, 2) := by decide +kernel
theorem dX2_blow_3 : decode cX2_blow 3 = .ok (.iload_n 0, 1) := by decide +kernel
theorem dX2_blow_4 : decode cX2_blow 4 = .ok (.iload_n 1, 1) := by decide +kernel
theorem dX2_blow_5 : decode cX2_blow 5 = .ok (.isub, 1) := by decide +kernel
theorem dX2_blow_6 : decode cX2_blow 6 = .ok (.invokestatic 83, 3) := by decide +kernel
theorem dX2_blow_9 : decode cX2_blow 9 = .ok (.invokestatic 86, 3) := by decide +kernel
theorem dX2_blow_12 : decode cX2_blow 12 = .ok (.ireturn, 1) := by decide +kernel
theorem dX2_play_0 : decode cX2_play 0 = .ok (.iconst 0, 1) := by decide +kernel
theorem dX2_play_1 : decode cX2_play 1 = .ok (.istore_n 1, 1) := by decide +kernel
theorem dX2_play_2 : decode cX2_play 2 = .ok (.iconst 0, 1) := by decide +kernel
theorem dX2_play_3 : decode cX2_play 3 = .ok (.istore_n 2, 1) := by decide +kernel
theorem dX2_play_4 : decode cX2_play 4 = .ok (.iload_n 2, 1) := by decide +kernel
theorem dX2_play_5 : decode cX2_play 5 = .ok (.aload_n 0, 1) := by decide +kernel
theorem dX2_play_6 : decode cX2_play 6 = .ok (.getfield 43, 3) := by decide +kernel
theorem dX2_play_9 : decode cX2_play 9 = .ok (.if_icmp .ge 102, 3) := by decide +kernel
theorem dX2_play_12 : decode cX2_play 12 = .ok (.aload_n 0, 1) := by decide +kernel
theorem dX2_play_13 : decode cX2_play 13 = .ok (.getfield 21, 3) := by decide +kernel
theorem dX2_play_16 : decode cX2_play 16 = .ok (.iload_n 2, 1) := by decide +kernel
theorem dX2_play_17 : decode cX2_play 17 = .ok (.iaload, 1) := by decide +kernel
theorem dX2_play_18 : decode cX2_play 18 = .ok (.ifCond .le 19, 3) := by decide +kernel
theorem dX2_play_21 : decode cX2_play 21 = .ok (.aload_n 0, 1) := by decide +kernel
theorem dX2_play_22 : decode cX2_play 22 = .ok (.iload_n 2, 1) := by decide +kernel
theorem dX2_play_23 : decode cX2_play 23 = .ok (.invokevirtual 89, 3) := by decide +kernel
theorem dX2_play_26 : decode cX2_play 26 = .ok (.ifCond .eq 11, 3) := by decide +kernel
theorem dX2_play_29 : decode cX2_play 29 = .ok (.aload_n 0, 1) := by decide +kernel
theorem dX2_play_30 : decode cX2_play 30 = .ok (.iload_n 2, 1) := by decide +kernel
theorem dX2_play_31 : decode cX2_play 31 = .ok (.invokevirtual 92, 3) := by decide +kernel
theorem dX2_play_34 : decode cX2_play 34 = .ok (.goto 4, 3) := by decide +kernel
theorem dX2_play_37 : decode cX2_play 37 = .ok (.iconst (-1), 1) := by decide +kernel
theorem dX2_play_38 : decode cX2_play 38 = .ok (.istore_n 3, 1) := by decide +kernel
theorem dX2_play_39 : decode cX2_play 39 = .ok (.iload_n 3, 1) := by decide +kernel
theorem dX2_play_40 : decode cX2_play 40 = .ok (.iconst (-1), 1) := by decide +kernel
theorem dX2_play_41 : decode cX2_play 41 = .ok (.if_icmp .ne 6, 3) := by decide +kernel
theorem dX2_play_44 : decode cX2_play 44 = .ok (.goto 61, 3) := by decide +kernel
theorem dX2_play_47 : decode cX2_play 47 = .ok (.aload_n 0, 1) := by decide +kernel
theorem dX2_play_48 : decode cX2_play 48 = .ok (.iload_n 2, 1) := by decide +kernel
theorem dX2_play_49 : decode cX2_play 49 = .ok (.iload_n 3, 1) := by decide +kernel
theorem dX2_play_50 : decode cX2_play 50 = .ok (.invokevirtual 59, 3) := by decide +kernel
theorem dX2_play_53 : decode cX2_play 53 = .ok (.iconst 1, 1) := by decide +kernel
theorem dX2_play_54 : decode cX2_play 54 = .ok (.if_icmp .le 12, 3) := by decide +kernel
theorem dX2_play_57 : decode cX2_play 57 = .ok (.aload_n 0, 1) := by decide +kernel
theorem dX2_play_58 : decode cX2_play 58 = .ok (.iload_n 2, 1) := by decide +kernel
theorem dX2_play_59 : decode cX2_play 59 = .ok (.iload_n 3, 1) := by decide +kernel
theorem dX2_play_60 : decode cX2_play 60 = .ok (.invokevirtual 95, 3) := by decide +kernel
theorem dX2_play_63 : decode cX2_play 63 = .ok (.goto 42, 3) := by decide +kernel
theorem dX2_play_66 : decode cX2_play 66 = .ok (.aload_n 0, 1) := by decide +kernel
theorem dX2_play_67 : decode cX2_play 67 = .ok (.iload_n 2, 1) := by decide +kernel
theorem dX2_play_68 : decode cX2_play 68 = .ok (.iload_n 3, 1) := by decide +kernel
theorem dX2_play_69 : decode cX2_play 69 = .ok (.aload_n 0, 1) := by decide +kernel
theorem dX2_play_70 : decode cX2_play 70 = .ok (.iload_n 2, 1) := by decide +kernel
theorem dX2_play_71 : decode cX2_play 71 = .ok (.iload_n 3, 1) := by decide +kernel
theorem dX2_play_72 : decode cX2_play 72 = .ok (.invokevirtual 99, 3) := by decide +kernel
theorem dX2_play_75 : decode cX2_play 75 = .ok (.aload_n 0, 1) := by decide +kernel
theorem dX2_play_76 : decode cX2_play 76 = .ok (.iload_n 3, 1) := by decide +kernel
theorem dX2_play_77 : decode cX2_play 77 = .ok (.invokevirtual 101, 3) := by decide +kernel
theorem dX2_play_80 : decode cX2_play 80 = .ok (.invokestatic 103, 3) := by decide +kernel
theorem dX2_play_83 : decode cX2_play 83 = .ok (.invokevirtual 106, 3) := by decide +kernel
theorem dX2_play_86 : decode cX2_play 86 = .ok (.iload_n 1, 1) := by decide +kernel
theorem dX2_play_87 : decode cX2_play 87 = .ok (.aload_n 0, 1) := by decide +kernel
theorem dX2_play_88 : decode cX2_play 88 = .ok (.getfield 21, 3) := by decide +kernel
theorem dX2_play_91 : decode cX2_play 91 = .ok (.iload_n 3, 1) := by decide +kernel
theorem dX2_play_92 : decode cX2_play 92 = .ok (.iaload, 1) := by decide +kernel
theorem dX2_play_93 : decode cX2_play 93 = .ok (.ifCond .ne 9, 3) := by decide +kernel
theorem dX2_play_96 : decode cX2_play 96 = .ok (.iconst 1, 1) := by decide +kernel
theorem dX2_play_97 : decode cX2_play 97 = .ok (.iload_n 3, 1) := by decide +kernel
theorem dX2_play_98 : decode cX2_play 98 = .ok (.ishl, 1) := by decide +kernel
theorem dX2_play_99 : decode cX2_play 99 = .ok (.goto 4, 3) := by decide +kernel
theorem dX2_play_102 : decode cX2_play 102 = .ok (.iconst 0, 1) := by decide +kernel
theorem dX2_play_103 : decode cX2_play 103 = .ok (.ior, 1) := by decide +kernel
theorem dX2_play_104 : decode cX2_play 104 = .ok (.istore_n 1, 1) := by decide +kernel
theorem dX2_play_105 : decode cX2_play 105 = .ok (.iinc 2 1, 3) := by decide +kernel
theorem dX2_play_108 : decode cX2_play 108 = .ok (.goto (-104), 3) := by decide +kernel
theorem dX2_play_111 : decode cX2_play 111 = .ok (.aload_n 0, 1) := by decide +kernel
theorem dX2_play_112 : decode cX2_play 112 = .ok (.dup, 1) := by decide +kernel
theorem dX2_play_113 : decode cX2_play 113 = .ok (.getfield 47, 3) := by decide +kernel
theorem dX2_play_116 : decode cX2_play 116 = .ok (.iconst 1, 1) := by decide +kernel
theorem dX2_play_117 : decode cX2_play 117 = .ok (.iadd, 1) := by decide +kernel
theorem dX2_play_118 : decode cX2_play 118 = .ok (.putfield 47, 3) := by decide +kernel
theorem dX2_play_121 : decode cX2_play 121 = .ok (.iload_n 1, 1) := by decide +kernel
theorem dX2_play_122 : decode cX2_play 122 = .ok (.ireturn, 1) := by decide +kernel
theorem dX2_step_0 : decode cX2_step 0 = .ok (.aload_n 0, 1) := by decide +kernel
theorem dX2_step_1 : decode cX2_step 1 = .ok (.getfield 18, 3) := by decide +kernel
theorem dX2_step_4 : decode cX2_step 4 = .ok (.iload_n 2, 1) := by decide +kernel
theorem dX2_step_5 : decode cX2_step 5 = .ok (.iaload, 1) := by decide +kernel
theorem dX2_step_6 : decode cX2_step 6 = .ok (.bipush 8, 2) := by decide +kernel
theorem dX2_step_8 : decode cX2_step 8 = .ok (.idiv, 1) := by decide +kernel
theorem dX2_step_9 : decode cX2_step 9 = .ok (.aload_n 0, 1) := by decide +kernel
theorem dX2_step_10 : decode cX2_step 10 = .ok (.getfield 18, 3) := by decide +kernel
theorem dX2_step_13 : decode cX2_step 13 = .ok (.iload_n 1, 1) := by decide +kernel
theorem dX2_step_14 : decode cX2_step 14 = .ok (.iaload, 1) := by decide +kernel
theorem dX2_step_15 : decode cX2_step 15 = .ok (.bipush 8, 2) := by decide +kernel
theorem dX2_step_17 : decode cX2_step 17 = .ok (.idiv, 1) := by decide +kernel
theorem dX2_step_18 : decode cX2_step 18 = .ok (.isub, 1) := by decide +kernel
theorem dX2_step_19 : decode cX2_step 19 = .ok (.istore_n 3, 1) := by decide +kernel
theorem dX2_step_20 : decode cX2_step 20 = .ok (.aload_n 0, 1) := by decide +kernel
theorem dX2_step_21 : decode cX2_step 21 = .ok (.getfield 18, 3) := by decide +kernel
theorem dX2_step_24 : decode cX2_step 24 = .ok (.iload_n 2, 1) := by decide +kernel
theorem dX2_step_25 : decode cX2_step 25 = .ok (.iaload, 1) := by decide +kernel
theorem dX2_step_26 : decode cX2_step 26 = .ok (.bipush 8, 2) := by decide +kernel
theorem dX2_step_28 : decode cX2_step 28 = .ok (.irem, 1) := by decide +kernel
theorem dX2_step_29 : decode cX2_step 29 = .ok (.aload_n 0, 1) := by decide +kernel
theorem dX2_step_30 : decode cX2_step 30 = .ok (.getfield 18, 3) := by decide +kernel
theorem dX2_step_33 : decode cX2_step 33 = .ok (.iload_n 1, 1) := by decide +kernel
theorem dX2_step_34 : decode cX2_step 34 = .ok (.iaload, 1) := by decide +kernel
theorem dX2_step_35 : decode cX2_step 35 = .ok (.bipush 8, 2) := by decide +kernel
theorem dX2_step_37 : decode cX2_step 37 = .ok (.irem, 1) := by decide +kernel
theorem dX2_step_38 : decode cX2_step 38 = .ok (.isub, 1) := by decide +kernel
theorem dX2_step_39 : decode cX2_step 39 = .ok (.istore 4, 2) := by decide +kernel
theorem dX2_step_41 : decode cX2_step 41 = .ok (.iload_n 3, 1) := by decide +kernel
theorem dX2_step_42 : decode cX2_step 42 = .ok (.ifCond .eq 26, 3) := by decide +kernel
theorem dX2_step_45 : decode cX2_step 45 = .ok (.aload_n 0, 1) := by decide +kernel
theorem dX2_step_46 : decode cX2_step 46 = .ok (.getfield 18, 3) := by decide +kernel
theorem dX2_step_49 : decode cX2_step 49 = .ok (.iload_n 1, 1) := by decide +kernel
theorem dX2_step_50 : decode cX2_step 50 = .ok (.dup2, 1) := by decide +kernel
theorem dX2_step_51 : decode cX2_step 51 = .ok (.iaload, 1) := by decide +kernel
theorem dX2_step_52 : decode cX2_step 52 = .ok (.iload_n 3, 1) := by decide +kernel
theorem dX2_step_53 : decode cX2_step 53 = .ok (.ifCond .le 8, 3) := by decide +kernel
theorem dX2_step_56 : decode cX2_step 56 = .ok (.bipush 8, 2) := by decide +kernel
theorem dX2_step_58 : decode cX2_step 58 = .ok (.goto 5, 3) := by decide +kernel
theorem dX2_step_61 : decode cX2_step 61 = .ok (.bipush (-8), 2) := by decide +kernel
theorem dX2_step_63 : decode cX2_step 63 = .ok (.iadd, 1) := by decide +kernel
theorem dX2_step_64 : decode cX2_step 64 = .ok (.iastore, 1) := by decide +kernel
theorem dX2_step_65 : decode cX2_step 65 = .ok (.goto 22, 3) := by decide +kernel
theorem dX2_step_68 : decode cX2_step 68 = .ok (.aload_n 0, 1) := by decide +kernel
theorem dX2_step_69 : decode cX2_step 69 = .ok (.getfield 18, 3) := by decide +kernel
theorem dX2_step_72 : decode cX2_step 72 = .ok (.iload_n 1, 1) := by decide +kernel
theorem dX2_step_73 : decode cX2_step 73 = .ok (.dup2, 1) := by decide +kernel
theorem dX2_step_74 : decode cX2_step 74 = .ok (.iaload, 1) := by decide +kernel
theorem dX2_step_75 : decode cX2_step 75 = .ok (.iload 4, 2) := by decide +kernel
theorem dX2_step_77 : decode cX2_step 77 = .ok (.ifCond .le 7, 3) := by decide +kernel
theorem dX2_step_80 : decode cX2_step 80 = .ok (.iconst 1, 1) := by decide +kernel
theorem dX2_step_81 : decode cX2_step 81 = .ok (.goto 4, 3) := by decide +kernel
theorem dX2_step_84 : decode cX2_step 84 = .ok (.iconst (-1), 1) := by decide +kernel
theorem dX2_step_85 : decode cX2_step 85 = .ok (.iadd, 1) := by decide +kernel
theorem dX2_step_86 : decode cX2_step 86 = .ok (.iastore, 1) := by decide +kernel
theorem dX2_step_87 : decode cX2_step 87 = .ok (.return_, 1) := by decide +kernel
theorem dX2_land_0 : decode cX2_land 0 = .ok (.aload_n 0, 1) := by decide +kernel
theorem dX2_land_1 : decode cX2_land 1 = .ok (.getfield 21, 3) := by decide +kernel
theorem dX2_land_4 : decode cX2_land 4 = .ok (.iload_n 2, 1) := by decide +kernel
theorem dX2_land_5 : decode cX2_land 5 = .ok (.iconst 0, 1) := by decide +kernel
theorem dX2_land_6 : decode cX2_land 6 = .ok (.aload_n 0, 1) := by decide +kernel
theorem dX2_land_7 : decode cX2_land 7 = .ok (.getfield 21, 3) := by decide +kernel
theorem dX2_land_10 : decode cX2_land 10 = .ok (.iload_n 2, 1) := by decide +kernel
theorem dX2_land_11 : decode cX2_land 11 = .ok (.iaload, 1) := by decide +kernel
theorem dX2_land_12 : decode cX2_land 12 = .ok (.iload_n 3, 1) := by decide +kernel
theorem dX2_land_13 : decode cX2_land 13 = .ok (.isub, 1) := by decide +kernel
theorem dX2_land_14 : decode cX2_land 14 = .ok (.invokestatic 86, 3) := by decide +kernel
theorem dX2_land_17 : decode cX2_land 17 = .ok (.iastore, 1) := by decide +kernel
theorem dX2_land_18 : decode cX2_land 18 = .ok (.aload_n 0, 1) := by decide +kernel
theorem dX2_land_19 : decode cX2_land 19 = .ok (.getfield 27, 3) := by decide +kernel
theorem dX2_land_22 : decode cX2_land 22 = .ok (.iload_n 2, 1) := by decide +kernel
theorem dX2_land_23 : decode cX2_land 23 = .ok (.bipush 99, 2) := by decide +kernel
theorem dX2_land_25 : decode cX2_land 25 = .ok (.aload_n 0, 1) := by decide +kernel
theorem dX2_land_26 : decode cX2_land 26 = .ok (.getfield 27, 3) := by decide +kernel
theorem dX2_land_29 : decode cX2_land 29 = .ok (.iload_n 2, 1) := by decide +kernel
theorem dX2_land_30 : decode cX2_land 30 = .ok (.iaload, 1) := by decide +kernel
theorem dX2_land_31 : decode cX2_land 31 = .ok (.iconst 1, 1) := by decide +kernel
theorem dX2_land_32 : decode cX2_land 32 = .ok (.iadd, 1) := by decide +kernel
theorem dX2_land_33 : decode cX2_land 33 = .ok (.invokestatic 83, 3) := by decide +kernel
theorem dX2_land_36 : decode cX2_land 36 = .ok (.iastore, 1) := by decide +kernel
theorem dX2_land_37 : decode cX2_land 37 = .ok (.aload_n 0, 1) := by decide +kernel
theorem dX2_land_38 : decode cX2_land 38 = .ok (.getfield 30, 3) := by decide +kernel
theorem dX2_land_41 : decode cX2_land 41 = .ok (.iload_n 1, 1) := by decide +kernel
theorem dX2_land_42 : decode cX2_land 42 = .ok (.bipush 6, 2) := by decide +kernel
theorem dX2_land_44 : decode cX2_land 44 = .ok (.imul, 1) := by decide +kernel
theorem dX2_land_45 : decode cX2_land 45 = .ok (.iload_n 2, 1) := by decide +kernel
theorem dX2_land_46 : decode cX2_land 46 = .ok (.iadd, 1) := by decide +kernel
theorem dX2_land_47 : decode cX2_land 47 = .ok (.bipush 99, 2) := by decide +kernel
theorem dX2_land_49 : decode cX2_land 49 = .ok (.aload_n 0, 1) := by decide +kernel
theorem dX2_land_50 : decode cX2_land 50 = .ok (.getfield 30, 3) := by decide +kernel
theorem dX2_land_53 : decode cX2_land 53 = .ok (.iload_n 1, 1) := by decide +kernel
theorem dX2_land_54 : decode cX2_land 54 = .ok (.bipush 6, 2) := by decide +kernel
theorem dX2_land_56 : decode cX2_land 56 = .ok (.imul, 1) := by decide +kernel
theorem dX2_land_57 : decode cX2_land 57 = .ok (.iload_n 2, 1) := by decide +kernel
theorem dX2_land_58 : decode cX2_land 58 = .ok (.iadd, 1) := by decide +kernel
theorem dX2_land_59 : decode cX2_land 59 = .ok (.iaload, 1) := by decide +kernel
theorem dX2_land_60 : decode cX2_land 60 = .ok (.iconst 1, 1) := by decide +kernel
theorem dX2_land_61 : decode cX2_land 61 = .ok (.iadd, 1) := by decide +kernel
theorem dX2_land_62 : decode cX2_land 62 = .ok (.invokestatic 83, 3) := by decide +kernel
theorem dX2_land_65 : decode cX2_land 65 = .ok (.iastore, 1) := by decide +kernel
theorem dX2_land_66 : decode cX2_land 66 = .ok (.aload_n 0, 1) := by decide +kernel
theorem dX2_land_67 : decode cX2_land 67 = .ok (.getfield 24, 3) := by decide +kernel
theorem dX2_land_70 : decode cX2_land 70 = .ok (.iload_n 1, 1) := by decide +kernel
theorem dX2_land_71 : decode cX2_land 71 = .ok (.bipush 99, 2) := by decide +kernel
theorem dX2_land_73 : decode cX2_land 73 = .ok (.aload_n 0, 1) := by decide +kernel
theorem dX2_land_74 : decode cX2_land 74 = .ok (.getfield 24, 3) := by decide +kernel
theorem dX2_land_77 : decode cX2_land 77 = .ok (.iload_n 1, 1) := by decide +kernel
theorem dX2_land_78 : decode cX2_land 78 = .ok (.iaload, 1) := by decide +kernel
theorem dX2_land_79 : decode cX2_land 79 = .ok (.iconst 1, 1) := by decide +kernel
theorem dX2_land_80 : decode cX2_land 80 = .ok (.iadd, 1) := by decide +kernel
theorem dX2_land_81 : decode cX2_land 81 = .ok (.invokestatic 83, 3) := by decide +kernel
theorem dX2_land_84 : decode cX2_land 84 = .ok (.iastore, 1) := by decide +kernel
theorem dX2_land_85 : decode cX2_land 85 = .ok (.return_, 1) := by decide +kernel
theorem dX3_init_0 : decode cX3_init 0 = .ok (.aload_n 0, 1) := by decide +kernel
theorem dX3_init_1 : decode cX3_init 1 = .ok (.invokespecial 3, 3) := by decide +kernel
theorem dX3_init_4 : decode cX3_init 4 = .ok (.aload_n 0, 1) := by decide +kernel
theorem dX3_init_5 : decode cX3_init 5 = .ok (.bipush 40, 2) := by decide +kernel
theorem dX3_init_7 : decode cX3_init 7 = .ok (.newarray .int, 2) := by decide +kernel
theorem dX3_init_9 : decode cX3_init 9 = .ok (.putfield 9, 3) := by decide +kernel
theorem dX3_init_12 : decode cX3_init 12 = .ok (.aload_n 0, 1) := by decide +kernel
theorem dX3_init_13 : decode cX3_init 13 = .ok (.iconst (-1), 1) := by decide +kernel
theorem dX3_init_14 : decode cX3_init 14 = .ok (.putfield 15, 3) := by decide +kernel
theorem dX3_init_17 : decode cX3_init 17 = .ok (.return_, 1) := by decide +kernel
theorem dX3_isMissing_0 : decode cX3_isMissing 0 = .ok (.aload_n 0, 1) := by decide +kernel
theorem dX3_isMissing_1 : decode cX3_isMissing 1 = .ok (.getfield 15, 3) := by decide +kernel
theorem dX3_isMissing_4 : decode cX3_isMissing 4 = .ok (.iconst (-1), 1) := by decide +kernel
theorem dX3_isMissing_5 : decode cX3_isMissing 5 = .ok (.if_icmp .ne 7, 3) := by decide +kernel
theorem dX3_isMissing_8 : decode cX3_isMissing 8 = .ok (.iconst 1, 1) := by decide +kernel
theorem dX3_isMissing_9 : decode cX3_isMissing 9 = .ok (.goto 4, 3) := by decide +kernel
theorem dX3_isMissing_12 : decode cX3_isMissing 12 = .ok (.iconst 0, 1) := by decide +kernel
theorem dX3_isMissing_13 : decode cX3_isMissing 13 = .ok (.ireturn, 1) := by decide +kernel
theorem dX3_become_0 : decode cX3_become 0 = .ok (.aload_n 0, 1) := by decide +kernel
theorem dX3_become_1 : decode cX3_become 1 = .ok (.iload_n 1, 1) := by decide +kernel
theorem dX3_become_2 : decode cX3_become 2 = .ok (.putfield 15, 3) := by decide +kernel
theorem dX3_become_5 : decode cX3_become 5 = .ok (.aload_n 0, 1) := by decide +kernel
theorem dX3_become_6 : decode cX3_become 6 = .ok (.iload_n 2, 1) := by decide +kernel
theorem dX3_become_7 : decode cX3_become 7 = .ok (.putfield 19, 3) := by decide +kernel
theorem dX3_become_10 : decode cX3_become 10 = .ok (.aload_n 0, 1) := by decide +kernel
theorem dX3_become_11 : decode cX3_become 11 = .ok (.getfield 9, 3) := by decide +kernel
theorem dX3_become_14 : decode cX3_become 14 = .ok (.iconst 0, 1) := by decide +kernel
theorem dX3_become_15 : decode cX3_become 15 = .ok (.invokestatic 22, 3) := by decide +kernel
theorem dX3_become_18 : decode cX3_become 18 = .ok (.return_, 1) := by decide +kernel
theorem dX3_write_0 : decode cX3_write 0 = .ok (.aload_n 0, 1) := by decide +kernel
theorem dX3_write_1 : decode cX3_write 1 = .ok (.getfield 9, 3) := by decide +kernel
theorem dX3_write_4 : decode cX3_write 4 = .ok (.iload_n 1, 1) := by decide +kernel
theorem dX3_write_5 : decode cX3_write 5 = .ok (.aload_n 0, 1) := by decide +kernel
theorem dX3_write_6 : decode cX3_write 6 = .ok (.getfield 15, 3) := by decide +kernel
theorem dX3_write_9 : decode cX3_write 9 = .ok (.ifCond .ne 8, 3) := by decide +kernel
theorem dX3_write_12 : decode cX3_write 12 = .ok (.iload_n 2, 1) := by decide +kernel
theorem dX3_write_13 : decode cX3_write 13 = .ok (.i2b, 1) := by decide +kernel
theorem dX3_write_14 : decode cX3_write 14 = .ok (.goto 17, 3) := by decide +kernel
theorem dX3_write_17 : decode cX3_write 17 = .ok (.aload_n 0, 1) := by decide +kernel
theorem dX3_write_18 : decode cX3_write 18 = .ok (.getfield 15, 3) := by decide +kernel
theorem dX3_write_21 : decode cX3_write 21 = .ok (.iconst 1, 1) := by decide +kernel
theorem dX3_write_22 : decode cX3_write 22 = .ok (.if_icmp .ne 8, 3) := by decide +kernel
theorem dX3_write_25 : decode cX3_write 25 = .ok (.iload_n 2, 1) := by decide +kernel
theorem dX3_write_26 : decode cX3_write 26 = .ok (.i2s, 1) := by decide +kernel
theorem dX3_write_27 : decode cX3_write 27 = .ok (.goto 4, 3) := by decide +kernel
theorem dX3_write_30 : decode cX3_write 30 = .ok (.iload_n 2, 1) := by decide +kernel
theorem dX3_write_31 : decode cX3_write 31 = .ok (.iastore, 1) := by decide +kernel
theorem dX3_write_32 : decode cX3_write 32 = .ok (.return_, 1) := by decide +kernel
theorem dX4_init_0 : decode cX4_init 0 = .ok (.aload_n 0, 1) := by decide +kernel
theorem dX4_init_1 : decode cX4_init 1 = .ok (.invokespecial 3, 3) := by decide +kernel
theorem dX4_init_4 : decode cX4_init 4 = .ok (.aload_n 0, 1) := by decide +kernel
theorem dX4_init_5 : decode cX4_init 5 = .ok (.sipush 160, 3) := by decide +kernel
theorem dX4_init_8 : decode cX4_init 8 = .ok (.newarray .int, 2) := by decide +kernel
theorem dX4_init_10 : decode cX4_init 10 = .ok (.putfield 9, 3) := by decide +kernel
theorem dX4_init_13 : decode cX4_init 13 = .ok (.aload_n 0, 1) := by decide +kernel
theorem dX4_init_14 : decode cX4_init 14 = .ok (.iconst 3, 1) := by decide +kernel
theorem dX4_init_15 : decode cX4_init 15 = .ok (.newarray .int, 2) := by decide +kernel
theorem dX4_init_17 : decode cX4_init 17 = .ok (.putfield 15, 3) := by decide +kernel
theorem dX4_init_20 : decode cX4_init 20 = .ok (.aload_n 0, 1) := by decide +kernel
theorem dX4_init_21 : decode cX4_init 21 = .ok (.aload_n 1, 1) := by decide +kernel
theorem dX4_init_22 : decode cX4_init 22 = .ok (.putfield 18, 3) := by decide +kernel
theorem dX4_init_25 : decode cX4_init 25 = .ok (.return_, 1) := by decide +kernel
theorem dX4_clear_0 : decode cX4_clear 0 = .ok (.aload_n 0, 1) := by decide +kernel
theorem dX4_clear_1 : decode cX4_clear 1 = .ok (.iconst 0, 1) := by decide +kernel
theorem dX4_clear_2 : decode cX4_clear 2 = .ok (.putfield 21, 3) := by decide +kernel
theorem dX4_clear_5 : decode cX4_clear 5 = .ok (.return_, 1) := by decide +kernel
theorem dX4_write_0 : decode cX4_write 0 = .ok (.aload_n 0, 1) := by decide +kernel
theorem dX4_write_1 : decode cX4_write 1 = .ok (.getfield 21, 3) := by decide +kernel
theorem dX4_write_4 : decode cX4_write 4 = .ok (.aload_n 0, 1) := by decide +kernel
theorem dX4_write_5 : decode cX4_write 5 = .ok (.getfield 9, 3) := by decide +kernel
theorem dX4_write_8 : decode cX4_write 8 = .ok (.arraylength, 1) := by decide +kernel
theorem dX4_write_9 : decode cX4_write 9 = .ok (.if_icmp .ge 23, 3) := by decide +kernel
theorem dX4_write_12 : decode cX4_write 12 = .ok (.aload_n 0, 1) := by decide +kernel
theorem dX4_write_13 : decode cX4_write 13 = .ok (.getfield 9, 3) := by decide +kernel
theorem dX4_write_16 : decode cX4_write 16 = .ok (.aload_n 0, 1) := by decide +kernel
theorem dX4_write_17 : decode cX4_write 17 = .ok (.getfield 21, 3) := by decide +kernel
theorem dX4_write_20 : decode cX4_write 20 = .ok (.iload_n 1, 1) := by decide +kernel
theorem dX4_write_21 : decode cX4_write 21 = .ok (.iastore, 1) := by decide +kernel
theorem dX4_write_22 : decode cX4_write 22 = .ok (.aload_n 0, 1) := by decide +kernel
theorem dX4_write_23 : decode cX4_write 23 = .ok (.dup, 1) := by decide +kernel
theorem dX4_write_24 : decode cX4_write 24 = .ok (.getfield 21, 3) := by decide +kernel
theorem dX4_write_27 : decode cX4_write 27 = .ok (.iconst 1, 1) := by decide +kernel
theorem dX4_write_28 : decode cX4_write 28 = .ok (.iadd, 1) := by decide +kernel
theorem dX4_write_29 : decode cX4_write 29 = .ok (.putfield 21, 3) := by decide +kernel
theorem dX4_write_32 : decode cX4_write 32 = .ok (.return_, 1) := by decide +kernel
theorem dX4_endPart_0 : decode cX4_endPart 0 = .ok (.aload_n 0, 1) := by decide +kernel
theorem dX4_endPart_1 : decode cX4_endPart 1 = .ok (.getfield 15, 3) := by decide +kernel
theorem dX4_endPart_4 : decode cX4_endPart 4 = .ok (.iload_n 1, 1) := by decide +kernel
theorem dX4_endPart_5 : decode cX4_endPart 5 = .ok (.aload_n 0, 1) := by decide +kernel
theorem dX4_endPart_6 : decode cX4_endPart 6 = .ok (.getfield 21, 3) := by decide +kernel
theorem dX4_endPart_9 : decode cX4_endPart 9 = .ok (.iastore, 1) := by decide +kernel
theorem dX4_endPart_10 : decode cX4_endPart 10 = .ok (.return_, 1) := by decide +kernel
theorem dX4_says_0 : decode cX4_says 0 = .ok (.iconst 0, 1) := by decide +kernel
theorem dX4_says_1 : decode cX4_says 1 = .ok (.istore 4, 2) := by decide +kernel
theorem dX4_says_3 : decode cX4_says 3 = .ok (.iload_n 1, 1) := by decide +kernel
theorem dX4_says_4 : decode cX4_says 4 = .ok (.ifCond .ne 7, 3) := by decide +kernel
theorem dX4_says_7 : decode cX4_says 7 = .ok (.iconst 0, 1) := by decide +kernel
theorem dX4_says_8 : decode cX4_says 8 = .ok (.goto 11, 3) := by decide +kernel
theorem dX4_says_11 : decode cX4_says 11 = .ok (.aload_n 0, 1) := by decide +kernel
theorem dX4_says_12 : decode cX4_says 12 = .ok (.getfield 15, 3) := by decide +kernel
theorem dX4_says_15 : decode cX4_says 15 = .ok (.iload_n 1, 1) := by decide +kernel
theorem dX4_says_16 : decode cX4_says 16 = .ok (.iconst 1, 1) := by decide +kernel
theorem dX4_says_17 : decode cX4_says 17 = .ok (.isub, 1) := by decide +kernel
theorem dX4_says_18 : decode cX4_says 18 = .ok (.iaload, 1) := by decide +kernel
theorem dX4_says_19 : decode cX4_says 19 = .ok (.istore 5, 2) := by decide +kernel
theorem dX4_says_21 : decode cX4_says 21 = .ok (.iload 5, 2) := by decide +kernel
theorem dX4_says_23 : decode cX4_says 23 = .ok (.aload_n 0, 1) := by decide +kernel
theorem dX4_says_24 : decode cX4_says 24 = .ok (.getfield 15, 3) := by decide +kernel
theorem dX4_says_27 : decode cX4_says 27 = .ok (.iload_n 1, 1) := by decide +kernel
theorem dX4_says_28 : decode cX4_says 28 = .ok (.iaload, 1) := by decide +kernel
theorem dX4_says_29 : decode cX4_says 29 = .ok (.if_icmp .ge 197, 3) := by decide +kernel
theorem dX4_says_32 : decode cX4_says 32 = .ok (.aload_n 0, 1) := by decide +kernel
theorem dX4_says_33 : decode cX4_says 33 = .ok (.getfield 9, 3) := by decide +kernel
theorem dX4_says_36 : decode cX4_says 36 = .ok (.iload 5, 2) := by decide +kernel
theorem dX4_says_38 : decode cX4_says 38 = .ok (.iaload, 1) := by decide +kernel
theorem dX4_says_39 : decode cX4_says 39 = .ok (.istore 6, 2) := by decide +kernel
theorem dX4_says_41 : decode cX4_says 41 = .ok (.iload 6, 2) := by decide +kernel
theorem dX4_says_43 : decode cX4_says 43 = .ok (.ifCond .lt 7, 3) := by decide +kernel
theorem dX4_says_46 : decode cX4_says 46 = .ok (.iconst 1, 1) := by decide +kernel
theorem dX4_says_47 : decode cX4_says 47 = .ok (.goto 4, 3) := by decide +kernel
theorem dX4_says_50 : decode cX4_says 50 = .ok (.iconst 0, 1) := by decide +kernel
theorem dX4_says_51 : decode cX4_says 51 = .ok (.istore 7, 2) := by decide +kernel
theorem dX4_says_53 : decode cX4_says 53 = .ok (.iload 7, 2) := by decide +kernel
theorem dX4_says_55 : decode cX4_says 55 = .ok (.ifCond .ne 11, 3) := by decide +kernel
theorem dX4_says_58 : decode cX4_says 58 = .ok (.iload 6, 2) := by decide +kernel
theorem dX4_says_60 : decode cX4_says 60 = .ok (.invokestatic 25, 3) := by decide +kernel
theorem dX4_says_63 : decode cX4_says 63 = .ok (.ifCond .eq 43, 3) := by decide +kernel
theorem dX4_says_66 : decode cX4_says 66 = .ok (.iload 4, 2) := by decide +kernel
theorem dX4_says_68 : decode cX4_says 68 = .ok (.aload_n 0, 1) := by decide +kernel
theorem dX4_says_69 : decode cX4_says 69 = .ok (.getfield 18, 3) := by decide +kernel
theorem dX4_says_72 : decode cX4_says 72 = .ok (.arraylength, 1) := by decide +kernel
theorem dX4_says_73 : decode cX4_says 73 = .ok (.if_icmp .ge 33, 3) := by decide +kernel
theorem dX4_says_76 : decode cX4_says 76 = .ok (.aload_n 0, 1) := by decide +kernel
theorem dX4_says_77 : decode cX4_says 77 = .ok (.getfield 18, 3) := by decide +kernel
theorem dX4_says_80 : decode cX4_says 80 = .ok (.iload 4, 2) := by decide +kernel
theorem dX4_says_82 : decode cX4_says 82 = .ok (.iload 7, 2) := by decide +kernel
theorem dX4_says_84 : decode cX4_says 84 = .ok (.ifCond .eq 8, 3) := by decide +kernel
theorem dX4_says_87 : decode cX4_says 87 = .ok (.iload 6, 2) := by decide +kernel
theorem dX4_says_89 : decode cX4_says 89 = .ok (.goto 10, 3) := by decide +kernel
theorem dX4_says_92 : decode cX4_says 92 = .ok (.iload 6, 2) := by decide +kernel
theorem dX4_says_94 : decode cX4_says 94 = .ok (.aload_n 2, 1) := by decide +kernel
theorem dX4_says_95 : decode cX4_says 95 = .ok (.iload_n 3, 1) := by decide +kernel
theorem dX4_says_96 : decode cX4_says 96 = .ok (.invokestatic 31, 3) := by decide +kernel
theorem dX4_says_99 : decode cX4_says 99 = .ok (.iastore, 1) := by decide +kernel
theorem dX4_says_100 : decode cX4_says 100 = .ok (.iinc 4 1, 3) := by decide +kernel
theorem dX4_says_103 : decode cX4_says 103 = .ok (.goto 117, 3) := by decide +kernel
theorem dX4_says_106 : decode cX4_says 106 = .ok (.iload 6, 2) := by decide +kernel
theorem dX4_says_108 : decode cX4_says 108 = .ok (.bipush (-8), 2) := by decide +kernel
theorem dX4_says_110 : decode cX4_says 110 = .ok (.if_icmp .ne 37, 3) := by decide +kernel
theorem dX4_says_113 : decode cX4_says 113 = .ok (.iload 4, 2) := by decide +kernel
theorem dX4_says_115 : decode cX4_says 115 = .ok (.ifCond .le 32, 3) := by decide +kernel
theorem dX4_says_118 : decode cX4_says 118 = .ok (.aload_n 0, 1) := by decide +kernel
theorem dX4_says_119 : decode cX4_says 119 = .ok (.getfield 18, 3) := by decide +kernel
theorem dX4_says_122 : decode cX4_says 122 = .ok (.iload 4, 2) := by decide +kernel
theorem dX4_says_124 : decode cX4_says 124 = .ok (.iconst 1, 1) := by decide +kernel
theorem dX4_says_125 : decode cX4_says 125 = .ok (.isub, 1) := by decide +kernel
theorem dX4_says_126 : decode cX4_says 126 = .ok (.aload_n 0, 1) := by decide +kernel
theorem dX4_says_127 : decode cX4_says 127 = .ok (.getfield 18, 3) := by decide +kernel
theorem dX4_says_130 : decode cX4_says 130 = .ok (.iload 4, 2) := by decide +kernel
theorem dX4_says_132 : decode cX4_says 132 = .ok (.iconst 1, 1) := by decide +kernel
theorem dX4_says_133 : decode cX4_says 133 = .ok (.isub, 1) := by decide +kernel
theorem dX4_says_134 : decode cX4_says 134 = .ok (.iaload, 1) := by decide +kernel
theorem dX4_says_135 : decode cX4_says 135 = .ok (.ifCond .ne 7, 3) := by decide +kernel
theorem dX4_says_138 : decode cX4_says 138 = .ok (.iconst 1, 1) := by decide +kernel
theorem dX4_says_139 : decode cX4_says 139 = .ok (.goto 4, 3) := by decide +kernel
theorem dX4_says_142 : decode cX4_says 142 = .ok (.iconst 0, 1) := by decide +kernel
theorem dX4_says_143 : decode cX4_says 143 = .ok (.iastore, 1) := by decide +kernel
theorem dX4_says_144 : decode cX4_says 144 = .ok (.goto 76, 3) := by decide +kernel
theorem dX4_says_147 : decode cX4_says 147 = .ok (.iload 6, 2) := by decide +kernel
theorem dX4_says_149 : decode cX4_says 149 = .ok (.bipush (-23), 2) := by decide +kernel
theorem dX4_says_151 : decode cX4_says 151 = .ok (.if_icmp .ne 30, 3) := by decide +kernel
theorem dX4_says_154 : decode cX4_says 154 = .ok (.iload 4, 2) := by decide +kernel
theorem dX4_says_156 : decode cX4_says 156 = .ok (.ifCond .le 25, 3) := by decide +kernel
theorem dX4_says_159 : decode cX4_says 159 = .ok (.aload_n 0, 1) := by decide +kernel
theorem dX4_says_160 : decode cX4_says 160 = .ok (.getfield 18, 3) := by decide +kernel
theorem dX4_says_163 : decode cX4_says 163 = .ok (.iload 4, 2) := by decide +kernel
theorem dX4_says_165 : decode cX4_says 165 = .ok (.iconst 1, 1) := by decide +kernel
theorem dX4_says_166 : decode cX4_says 166 = .ok (.isub, 1) := by decide +kernel
theorem dX4_says_167 : decode cX4_says 167 = .ok (.aload_n 0, 1) := by decide +kernel
theorem dX4_says_168 : decode cX4_says 168 = .ok (.getfield 18, 3) := by decide +kernel
theorem dX4_says_171 : decode cX4_says 171 = .ok (.iload 4, 2) := by decide +kernel
theorem dX4_says_173 : decode cX4_says 173 = .ok (.iconst 1, 1) := by decide +kernel
theorem dX4_says_174 : decode cX4_says 174 = .ok (.isub, 1) := by decide +kernel
theorem dX4_says_175 : decode cX4_says 175 = .ok (.iaload, 1) := by decide +kernel
theorem dX4_says_176 : decode cX4_says 176 = .ok (.ineg, 1) := by decide +kernel
theorem dX4_says_177 : decode cX4_says 177 = .ok (.iastore, 1) := by decide +kernel
theorem dX4_says_178 : decode cX4_says 178 = .ok (.goto 42, 3) := by decide +kernel
theorem dX4_says_181 : decode cX4_says 181 = .ok (.iload 4, 2) := by decide +kernel
theorem dX4_says_183 : decode cX4_says 183 = .ok (.iconst 1, 1) := by decide +kernel
theorem dX4_says_184 : decode cX4_says 184 = .ok (.if_icmp .le 36, 3) := by decide +kernel
theorem dX4_says_187 : decode cX4_says 187 = .ok (.iinc 4 (-1), 3) := by decide +kernel
theorem dX4_says_190 : decode cX4_says 190 = .ok (.aload_n 0, 1) := by decide +kernel
theorem dX4_says_191 : decode cX4_says 191 = .ok (.getfield 18, 3) := by decide +kernel
theorem dX4_says_194 : decode cX4_says 194 = .ok (.iload 4, 2) := by decide +kernel
theorem dX4_says_196 : decode cX4_says 196 = .ok (.iconst 1, 1) := by decide +kernel
theorem dX4_says_197 : decode cX4_says 197 = .ok (.isub, 1) := by decide +kernel
theorem dX4_says_198 : decode cX4_says 198 = .ok (.iload 6, 2) := by decide +kernel
theorem dX4_says_200 : decode cX4_says 200 = .ok (.aload_n 0, 1) := by decide +kernel
theorem dX4_says_201 : decode cX4_says 201 = .ok (.getfield 18, 3) := by decide +kernel
theorem dX4_says_204 : decode cX4_says 204 = .ok (.iload 4, 2) := by decide +kernel
theorem dX4_says_206 : decode cX4_says 206 = .ok (.iconst 1, 1) := by decide +kernel
theorem dX4_says_207 : decode cX4_says 207 = .ok (.isub, 1) := by decide +kernel
theorem dX4_says_208 : decode cX4_says 208 = .ok (.iaload, 1) := by decide +kernel
theorem dX4_says_209 : decode cX4_says 209 = .ok (.aload_n 0, 1) := by decide +kernel
theorem dX4_says_210 : decode cX4_says 210 = .ok (.getfield 18, 3) := by decide +kernel
theorem dX4_says_213 : decode cX4_says 213 = .ok (.iload 4, 2) := by decide +kernel
theorem dX4_says_215 : decode cX4_says 215 = .ok (.iaload, 1) := by decide +kernel
theorem dX4_says_216 : decode cX4_says 216 = .ok (.invokestatic 35, 3) := by decide +kernel
theorem dX4_says_219 : decode cX4_says 219 = .ok (.iastore, 1) := by decide +kernel
theorem dX4_says_220 : decode cX4_says 220 = .ok (.iinc 5 1, 3) := by decide +kernel
theorem dX4_says_223 : decode cX4_says 223 = .ok (.goto (-202), 3) := by decide +kernel
theorem dX4_says_226 : decode cX4_says 226 = .ok (.iload_n 1, 1) := by decide +kernel
theorem dX4_says_227 : decode cX4_says 227 = .ok (.iconst 2, 1) := by decide +kernel
theorem dX4_says_228 : decode cX4_says 228 = .ok (.if_icmp .ne 8, 3) := by decide +kernel
theorem dX4_says_231 : decode cX4_says 231 = .ok (.bipush (-99), 2) := by decide +kernel
theorem dX4_says_233 : decode cX4_says 233 = .ok (.goto 4, 3) := by decide +kernel
theorem dX4_says_236 : decode cX4_says 236 = .ok (.iconst 0, 1) := by decide +kernel
theorem dX4_says_237 : decode cX4_says 237 = .ok (.bipush 99, 2) := by decide +kernel
theorem dX4_says_239 : decode cX4_says 239 = .ok (.aload_n 0, 1) := by decide +kernel
theorem dX4_says_240 : decode cX4_says 240 = .ok (.getfield 18, 3) := by decide +kernel
theorem dX4_says_243 : decode cX4_says 243 = .ok (.iconst 0, 1) := by decide +kernel
theorem dX4_says_244 : decode cX4_says 244 = .ok (.iaload, 1) := by decide +kernel
theorem dX4_says_245 : decode cX4_says 245 = .ok (.invokestatic 39, 3) := by decide +kernel
theorem dX4_says_248 : decode cX4_says 248 = .ok (.invokestatic 45, 3) := by decide +kernel
theorem dX4_says_251 : decode cX4_says 251 = .ok (.ireturn, 1) := by decide +kernel
theorem dX4_fact_0 : decode cX4_fact 0 = .ok (.iload_n 0, 1) := by decide +kernel
theorem dX4_fact_1 : decode cX4_fact 1 = .ok (.tableswitch 66 (-13) (-9) #[59, 54, 49, 42, 35], 35) := by decide +kernel
theorem dX4_fact_36 : decode cX4_fact 36 = .ok (.aload_n 1, 1) := by decide +kernel
theorem dX4_fact_37 : decode cX4_fact 37 = .ok (.getfield 48, 3) := by decide +kernel
theorem dX4_fact_40 : decode cX4_fact 40 = .ok (.iload_n 2, 1) := by decide +kernel
theorem dX4_fact_41 : decode cX4_fact 41 = .ok (.iaload, 1) := by decide +kernel
theorem dX4_fact_42 : decode cX4_fact 42 = .ok (.ireturn, 1) := by decide +kernel
theorem dX4_fact_43 : decode cX4_fact 43 = .ok (.aload_n 1, 1) := by decide +kernel
theorem dX4_fact_44 : decode cX4_fact 44 = .ok (.getfield 53, 3) := by decide +kernel
theorem dX4_fact_47 : decode cX4_fact 47 = .ok (.iload_n 2, 1) := by decide +kernel
theorem dX4_fact_48 : decode cX4_fact 48 = .ok (.iaload, 1) := by decide +kernel
theorem dX4_fact_49 : decode cX4_fact 49 = .ok (.ireturn, 1) := by decide +kernel
theorem dX4_fact_50 : decode cX4_fact 50 = .ok (.aload_n 1, 1) := by decide +kernel
theorem dX4_fact_51 : decode cX4_fact 51 = .ok (.getfield 56, 3) := by decide +kernel
theorem dX4_fact_54 : decode cX4_fact 54 = .ok (.ireturn, 1) := by decide +kernel
theorem dX4_fact_55 : decode cX4_fact 55 = .ok (.aload_n 1, 1) := by decide +kernel
theorem dX4_fact_56 : decode cX4_fact 56 = .ok (.invokevirtual 59, 3) := by decide +kernel
theorem dX4_fact_59 : decode cX4_fact 59 = .ok (.ireturn, 1) := by decide +kernel
theorem dX4_fact_60 : decode cX4_fact 60 = .ok (.aload_n 1, 1) := by decide +kernel
theorem dX4_fact_61 : decode cX4_fact 61 = .ok (.getfield 63, 3) := by decide +kernel
theorem dX4_fact_64 : decode cX4_fact 64 = .ok (.iload_n 2, 1) := by decide +kernel
theorem dX4_fact_65 : decode cX4_fact 65 = .ok (.iaload, 1) := by decide +kernel
theorem dX4_fact_66 : decode cX4_fact 66 = .ok (.ireturn, 1) := by decide +kernel
theorem dX4_fact_67 : decode cX4_fact 67 = .ok (.aload_n 1, 1) := by decide +kernel
theorem dX4_fact_68 : decode cX4_fact 68 = .ok (.getfield 66, 3) := by decide +kernel
theorem dX4_fact_71 : decode cX4_fact 71 = .ok (.iload_n 2, 1) := by decide +kernel
theorem dX4_fact_72 : decode cX4_fact 72 = .ok (.iaload, 1) := by decide +kernel
theorem dX4_fact_73 : decode cX4_fact 73 = .ok (.ireturn, 1) := by decide +kernel
theorem dX4_joined_0 : decode cX4_joined 0 = .ok (.iload_n 0, 1) := by decide +kernel
theorem dX4_joined_1 : decode cX4_joined 1 = .ok (.tableswitch 141 (-22) (-6) #[122, 111, 141, 137, 133, 141, 141, 141, 141, 141, 141, 141, 141, 141, 141, 97, 83], 83) := by decide +kernel
theorem dX4_joined_84 : decode cX4_joined 84 = .ok (.iload_n 1, 1) := by decide +kernel
theorem dX4_joined_85 : decode cX4_joined 85 = .ok (.ifCond .ne 7, 3) := by decide +kernel
theorem dX4_joined_88 : decode cX4_joined 88 = .ok (.iload_n 2, 1) := by decide +kernel
theorem dX4_joined_89 : decode cX4_joined 89 = .ok (.ifCond .eq 7, 3) := by decide +kernel
theorem dX4_joined_92 : decode cX4_joined 92 = .ok (.iconst 1, 1) := by decide +kernel
theorem dX4_joined_93 : decode cX4_joined 93 = .ok (.goto 4, 3) := by decide +kernel
theorem dX4_joined_96 : decode cX4_joined 96 = .ok (.iconst 0, 1) := by decide +kernel
theorem dX4_joined_97 : decode cX4_joined 97 = .ok (.ireturn, 1) := by decide +kernel
theorem dX4_joined_98 : decode cX4_joined 98 = .ok (.iload_n 1, 1) := by decide +kernel
theorem dX4_joined_99 : decode cX4_joined 99 = .ok (.ifCond .eq 11, 3) := by decide +kernel
theorem dX4_joined_102 : decode cX4_joined 102 = .ok (.iload_n 2, 1) := by decide +kernel
theorem dX4_joined_103 : decode cX4_joined 103 = .ok (.ifCond .eq 7, 3) := by decide +kernel
theorem dX4_joined_106 : decode cX4_joined 106 = .ok (.iconst 1, 1) := by decide +kernel
theorem dX4_joined_107 : decode cX4_joined 107 = .ok (.goto 4, 3) := by decide +kernel
theorem dX4_joined_110 : decode cX4_joined 110 = .ok (.iconst 0, 1) := by decide +kernel
theorem dX4_joined_111 : decode cX4_joined 111 = .ok (.ireturn, 1) := by decide +kernel
theorem dX4_joined_112 : decode cX4_joined 112 = .ok (.iload_n 1, 1) := by decide +kernel
theorem dX4_joined_113 : decode cX4_joined 113 = .ok (.iload_n 2, 1) := by decide +kernel
theorem dX4_joined_114 : decode cX4_joined 114 = .ok (.if_icmp .ge 7, 3) := by decide +kernel
theorem dX4_joined_117 : decode cX4_joined 117 = .ok (.iconst 1, 1) := by decide +kernel
theorem dX4_joined_118 : decode cX4_joined 118 = .ok (.goto 4, 3) := by decide +kernel
theorem dX4_joined_121 : decode cX4_joined 121 = .ok (.iconst 0, 1) := by decide +kernel
theorem dX4_joined_122 : decode cX4_joined 122 = .ok (.ireturn, 1) := by decide +kernel
theorem dX4_joined_123 : decode cX4_joined 123 = .ok (.iload_n 1, 1) := by decide +kernel
theorem dX4_joined_124 : decode cX4_joined 124 = .ok (.iload_n 2, 1) := by decide +kernel
theorem dX4_joined_125 : decode cX4_joined 125 = .ok (.if_icmp .ne 7, 3) := by decide +kernel
theorem dX4_joined_128 : decode cX4_joined 128 = .ok (.iconst 1, 1) := by decide +kernel
theorem dX4_joined_129 : decode cX4_joined 129 = .ok (.goto 4, 3) := by decide +kernel
theorem dX4_joined_132 : decode cX4_joined 132 = .ok (.iconst 0, 1) := by decide +kernel
theorem dX4_joined_133 : decode cX4_joined 133 = .ok (.ireturn, 1) := by decide +kernel
theorem dX4_joined_134 : decode cX4_joined 134 = .ok (.iload_n 1, 1) := by decide +kernel
theorem dX4_joined_135 : decode cX4_joined 135 = .ok (.iload_n 2, 1) := by decide +kernel
theorem dX4_joined_136 : decode cX4_joined 136 = .ok (.iadd, 1) := by decide +kernel
theorem dX4_joined_137 : decode cX4_joined 137 = .ok (.ireturn, 1) := by decide +kernel
theorem dX4_joined_138 : decode cX4_joined 138 = .ok (.iload_n 1, 1) := by decide +kernel
theorem dX4_joined_139 : decode cX4_joined 139 = .ok (.iload_n 2, 1) := by decide +kernel
theorem dX4_joined_140 : decode cX4_joined 140 = .ok (.isub, 1) := by decide +kernel
theorem dX4_joined_141 : decode cX4_joined 141 = .ok (.ireturn, 1) := by decide +kernel
theorem dX4_joined_142 : decode cX4_joined 142 = .ok (.iload_n 1, 1) := by decide +kernel
theorem dX4_joined_143 : decode cX4_joined 143 = .ok (.iload_n 2, 1) := by decide +kernel
theorem dX4_joined_144 : decode cX4_joined 144 = .ok (.imul, 1) := by decide +kernel
theorem dX4_joined_145 : decode cX4_joined 145 = .ok (.ireturn, 1) := by decide +kernel
theorem dX5_isName_0 : decode cX5_isName 0 = .ok (.iload_n 0, 1) := by decide +kernel
theorem dX5_isName_1 : decode cX5_isName 1 = .ok (.bipush (-9), 2) := by decide +kernel
theorem dX5_isName_3 : decode cX5_isName 3 = .ok (.if_icmp .gt 13, 3) := by decide +kernel
theorem dX5_isName_6 : decode cX5_isName 6 = .ok (.iload_n 0, 1) := by decide +kernel
theorem dX5_isName_7 : decode cX5_isName 7 = .ok (.bipush (-14), 2) := by decide +kernel
theorem dX5_isName_9 : decode cX5_isName 9 = .ok (.if_icmp .lt 7, 3) := by decide +kernel
theorem dX5_isName_12 : decode cX5_isName 12 = .ok (.iconst 1, 1) := by decide +kernel
theorem dX5_isName_13 : decode cX5_isName 13 = .ok (.goto 4, 3) := by decide +kernel
theorem dX5_isName_16 : decode cX5_isName 16 = .ok (.iconst 0, 1) := by decide +kernel
theorem dX5_isName_17 : decode cX5_isName 17 = .ok (.ireturn, 1) := by decide +kernel
theorem dX5_ofSign_0 : decode cX5_ofSign 0 = .ok (.iload_n 0, 1) := by decide +kernel
theorem dX5_ofSign_1 : decode cX5_ofSign 1 = .ok (.tableswitch 127 40 61 #[103, 106, 118, 112, 127, 115, 127, 127, 127, 127, 127, 127, 127, 127, 127, 127, 127, 127, 127, 109, 121, 124], 103) := by decide +kernel
theorem dX5_ofSign_104 : decode cX5_ofSign 104 = .ok (.bipush (-15), 2) := by decide +kernel
theorem dX5_ofSign_106 : decode cX5_ofSign 106 = .ok (.ireturn, 1) := by decide +kernel
theorem dX5_ofSign_107 : decode cX5_ofSign 107 = .ok (.bipush (-16), 2) := by decide +kernel
theorem dX5_ofSign_109 : decode cX5_ofSign 109 = .ok (.ireturn, 1) := by decide +kernel
theorem dX5_ofSign_110 : decode cX5_ofSign 110 = .ok (.bipush (-17), 2) := by decide +kernel
theorem dX5_ofSign_112 : decode cX5_ofSign 112 = .ok (.ireturn, 1) := by decide +kernel
theorem dX5_ofSign_113 : decode cX5_ofSign 113 = .ok (.bipush (-18), 2) := by decide +kernel
theorem dX5_ofSign_115 : decode cX5_ofSign 115 = .ok (.ireturn, 1) := by decide +kernel
theorem dX5_ofSign_116 : decode cX5_ofSign 116 = .ok (.bipush (-19), 2) := by decide +kernel
theorem dX5_ofSign_118 : decode cX5_ofSign 118 = .ok (.ireturn, 1) := by decide +kernel
theorem dX5_ofSign_119 : decode cX5_ofSign 119 = .ok (.bipush (-20), 2) := by decide +kernel
theorem dX5_ofSign_121 : decode cX5_ofSign 121 = .ok (.ireturn, 1) := by decide +kernel
theorem dX5_ofSign_122 : decode cX5_ofSign 122 = .ok (.bipush (-21), 2) := by decide +kernel
theorem dX5_ofSign_124 : decode cX5_ofSign 124 = .ok (.ireturn, 1) := by decide +kernel
theorem dX5_ofSign_125 : decode cX5_ofSign 125 = .ok (.bipush (-22), 2) := by decide +kernel
theorem dX5_ofSign_127 : decode cX5_ofSign 127 = .ok (.ireturn, 1) := by decide +kernel
theorem dX5_ofSign_128 : decode cX5_ofSign 128 = .ok (.bipush (-2), 2) := by decide +kernel
theorem dX5_ofSign_130 : decode cX5_ofSign 130 = .ok (.ireturn, 1) := by decide +kernel
theorem dJ6_bitCount_0f7a4_0 : decode cJ6_bitCount_0f7a4 0 = .ok (.iload_n 0, 1) := by decide +kernel
theorem dJ6_bitCount_0f7a4_1 : decode cJ6_bitCount_0f7a4 1 = .ok (.iload_n 0, 1) := by decide +kernel
theorem dJ6_bitCount_0f7a4_2 : decode cJ6_bitCount_0f7a4 2 = .ok (.iconst 1, 1) := by decide +kernel
theorem dJ6_bitCount_0f7a4_3 : decode cJ6_bitCount_0f7a4 3 = .ok (.iushr, 1) := by decide +kernel
theorem dJ6_bitCount_0f7a4_4 : decode cJ6_bitCount_0f7a4 4 = .ok (.ldc_w 265, 3) := by decide +kernel
theorem dJ6_bitCount_0f7a4_7 : decode cJ6_bitCount_0f7a4 7 = .ok (.iand, 1) := by decide +kernel
theorem dJ6_bitCount_0f7a4_8 : decode cJ6_bitCount_0f7a4 8 = .ok (.isub, 1) := by decide +kernel
theorem dJ6_bitCount_0f7a4_9 : decode cJ6_bitCount_0f7a4 9 = .ok (.istore_n 0, 1) := by decide +kernel
theorem dJ6_bitCount_0f7a4_10 : decode cJ6_bitCount_0f7a4 10 = .ok (.iload_n 0, 1) := by decide +kernel
theorem dJ6_bitCount_0f7a4_11 : decode cJ6_bitCount_0f7a4 11 = .ok (.ldc_w 266, 3) := by decide +kernel
theorem dJ6_bitCount_0f7a4_14 : decode cJ6_bitCount_0f7a4 14 = .ok (.iand, 1) := by decide +kernel
theorem dJ6_bitCount_0f7a4_15 : decode cJ6_bitCount_0f7a4 15 = .ok (.iload_n 0, 1) := by decide +kernel
theorem dJ6_bitCount_0f7a4_16 : decode cJ6_bitCount_0f7a4 16 = .ok (.iconst 2, 1) := by decide +kernel
theorem dJ6_bitCount_0f7a4_17 : decode cJ6_bitCount_0f7a4 17 = .ok (.iushr, 1) := by decide +kernel
theorem dJ6_bitCount_0f7a4_18 : decode cJ6_bitCount_0f7a4 18 = .ok (.ldc_w 266, 3) := by decide +kernel
theorem dJ6_bitCount_0f7a4_21 : decode cJ6_bitCount_0f7a4 21 = .ok (.iand, 1) := by decide +kernel
theorem dJ6_bitCount_0f7a4_22 : decode cJ6_bitCount_0f7a4 22 = .ok (.iadd, 1) := by decide +kernel
theorem dJ6_bitCount_0f7a4_23 : decode cJ6_bitCount_0f7a4 23 = .ok (.istore_n 0, 1) := by decide +kernel
theorem dJ6_bitCount_0f7a4_24 : decode cJ6_bitCount_0f7a4 24 = .ok (.iload_n 0, 1) := by decide +kernel
theorem dJ6_bitCount_0f7a4_25 : decode cJ6_bitCount_0f7a4 25 = .ok (.iload_n 0, 1) := by decide +kernel
theorem dJ6_bitCount_0f7a4_26 : decode cJ6_bitCount_0f7a4 26 = .ok (.iconst 4, 1) := by decide +kernel
theorem dJ6_bitCount_0f7a4_27 : decode cJ6_bitCount_0f7a4 27 = .ok (.iushr, 1) := by decide +kernel
theorem dJ6_bitCount_0f7a4_28 : decode cJ6_bitCount_0f7a4 28 = .ok (.iadd, 1) := by decide +kernel
theorem dJ6_bitCount_0f7a4_29 : decode cJ6_bitCount_0f7a4 29 = .ok (.ldc_w 267, 3) := by decide +kernel
theorem dJ6_bitCount_0f7a4_32 : decode cJ6_bitCount_0f7a4 32 = .ok (.iand, 1) := by decide +kernel
theorem dJ6_bitCount_0f7a4_33 : decode cJ6_bitCount_0f7a4 33 = .ok (.istore_n 0, 1) := by decide +kernel
theorem dJ6_bitCount_0f7a4_34 : decode cJ6_bitCount_0f7a4 34 = .ok (.iload_n 0, 1) := by decide +kernel
theorem dJ6_bitCount_0f7a4_35 : decode cJ6_bitCount_0f7a4 35 = .ok (.iload_n 0, 1) := by decide +kernel
theorem dJ6_bitCount_0f7a4_36 : decode cJ6_bitCount_0f7a4 36 = .ok (.bipush 8, 2) := by decide +kernel
theorem dJ6_bitCount_0f7a4_38 : decode cJ6_bitCount_0f7a4 38 = .ok (.iushr, 1) := by decide +kernel
theorem dJ6_bitCount_0f7a4_39 : decode cJ6_bitCount_0f7a4 39 = .ok (.iadd, 1) := by decide +kernel
theorem dJ6_bitCount_0f7a4_40 : decode cJ6_bitCount_0f7a4 40 = .ok (.istore_n 0, 1) := by decide +kernel
theorem dJ6_bitCount_0f7a4_41 : decode cJ6_bitCount_0f7a4 41 = .ok (.iload_n 0, 1) := by decide +kernel
theorem dJ6_bitCount_0f7a4_42 : decode cJ6_bitCount_0f7a4 42 = .ok (.iload_n 0, 1) := by decide +kernel
theorem dJ6_bitCount_0f7a4_43 : decode cJ6_bitCount_0f7a4 43 = .ok (.bipush 16, 2) := by decide +kernel
theorem dJ6_bitCount_0f7a4_45 : decode cJ6_bitCount_0f7a4 45 = .ok (.iushr, 1) := by decide +kernel
theorem dJ6_bitCount_0f7a4_46 : decode cJ6_bitCount_0f7a4 46 = .ok (.iadd, 1) := by decide +kernel
theorem dJ6_bitCount_0f7a4_47 : decode cJ6_bitCount_0f7a4 47 = .ok (.istore_n 0, 1) := by decide +kernel
theorem dJ6_bitCount_0f7a4_48 : decode cJ6_bitCount_0f7a4 48 = .ok (.iload_n 0, 1) := by decide +kernel
theorem dJ6_bitCount_0f7a4_49 : decode cJ6_bitCount_0f7a4 49 = .ok (.bipush 63, 2) := by decide +kernel
theorem dJ6_bitCount_0f7a4_51 : decode cJ6_bitCount_0f7a4 51 = .ok (.iand, 1) := by decide +kernel
theorem dJ6_bitCount_0f7a4_52 : decode cJ6_bitCount_0f7a4 52 = .ok (.ireturn, 1) := by decide +kernel
theorem dJ9_abs_0f7a4_0 : decode cJ9_abs_0f7a4 0 = .ok (.iload_n 0, 1) := by decide +kernel
theorem dJ9_abs_0f7a4_1 : decode cJ9_abs_0f7a4 1 = .ok (.ifCond .ge 8, 3) := by decide +kernel
theorem dJ9_abs_0f7a4_4 : decode cJ9_abs_0f7a4 4 = .ok (.iload_n 0, 1) := by decide +kernel
theorem dJ9_abs_0f7a4_5 : decode cJ9_abs_0f7a4 5 = .ok (.ineg, 1) := by decide +kernel
theorem dJ9_abs_0f7a4_6 : decode cJ9_abs_0f7a4 6 = .ok (.goto 4, 3) := by decide +kernel
theorem dJ9_abs_0f7a4_9 : decode cJ9_abs_0f7a4 9 = .ok (.iload_n 0, 1) := by decide +kernel
theorem dJ9_abs_0f7a4_10 : decode cJ9_abs_0f7a4 10 = .ok (.ireturn, 1) := by decide +kernel
theorem dJ9_max_7cf53_0 : decode cJ9_max_7cf53 0 = .ok (.iload_n 0, 1) := by decide +kernel
theorem dJ9_max_7cf53_1 : decode cJ9_max_7cf53 1 = .ok (.iload_n 1, 1) := by decide +kernel
theorem dJ9_max_7cf53_2 : decode cJ9_max_7cf53 2 = .ok (.if_icmp .lt 7, 3) := by decide +kernel
theorem dJ9_max_7cf53_5 : decode cJ9_max_7cf53 5 = .ok (.iload_n 0, 1) := by decide +kernel
theorem dJ9_max_7cf53_6 : decode cJ9_max_7cf53 6 = .ok (.goto 4, 3) := by decide +kernel
theorem dJ9_max_7cf53_9 : decode cJ9_max_7cf53 9 = .ok (.iload_n 1, 1) := by decide +kernel
theorem dJ9_max_7cf53_10 : decode cJ9_max_7cf53 10 = .ok (.ireturn, 1) := by decide +kernel
theorem dJ9_min_7cf53_0 : decode cJ9_min_7cf53 0 = .ok (.iload_n 0, 1) := by decide +kernel
theorem dJ9_min_7cf53_1 : decode cJ9_min_7cf53 1 = .ok (.iload_n 1, 1) := by decide +kernel
theorem dJ9_min_7cf53_2 : decode cJ9_min_7cf53 2 = .ok (.if_icmp .gt 7, 3) := by decide +kernel
theorem dJ9_min_7cf53_5 : decode cJ9_min_7cf53 5 = .ok (.iload_n 0, 1) := by decide +kernel
theorem dJ9_min_7cf53_6 : decode cJ9_min_7cf53 6 = .ok (.goto 4, 3) := by decide +kernel
theorem dJ9_min_7cf53_9 : decode cJ9_min_7cf53 9 = .ok (.iload_n 1, 1) := by decide +kernel
theorem dJ9_min_7cf53_10 : decode cJ9_min_7cf53 10 = .ok (.ireturn, 1) := by decide +kernel
theorem dJ0_length_8abf5_0 : decode cJ0_length_8abf5 0 = .ok (.aload_n 0, 1) := by decide +kernel
theorem dJ0_length_8abf5_1 : decode cJ0_length_8abf5 1 = .ok (.getfield 9, 3) := by decide +kernel
theorem dJ0_length_8abf5_4 : decode cJ0_length_8abf5 4 = .ok (.arraylength, 1) := by decide +kernel
theorem dJ0_length_8abf5_5 : decode cJ0_length_8abf5 5 = .ok (.aload_n 0, 1) := by decide +kernel
theorem dJ0_length_8abf5_6 : decode cJ0_length_8abf5 6 = .ok (.invokevirtual 335, 3) := by decide +kernel
theorem dJ0_length_8abf5_9 : decode cJ0_length_8abf5 9 = .ok (.ishr, 1) := by decide +kernel
theorem dJ0_length_8abf5_10 : decode cJ0_length_8abf5 10 = .ok (.ireturn, 1) := by decide +kernel
theorem dJ0_charAt_5068e_0 : decode cJ0_charAt_5068e 0 = .ok (.aload_n 0, 1) := by decide +kernel
theorem dJ0_charAt_5068e_1 : decode cJ0_charAt_5068e 1 = .ok (.invokevirtual 492, 3) := by decide +kernel
theorem dJ0_charAt_5068e_4 : decode cJ0_charAt_5068e 4 = .ok (.ifCond .eq 12, 3) := by decide +kernel
theorem dJ0_charAt_5068e_7 : decode cJ0_charAt_5068e 7 = .ok (.aload_n 0, 1) := by decide +kernel
theorem dJ0_charAt_5068e_8 : decode cJ0_charAt_5068e 8 = .ok (.getfield 9, 3) := by decide +kernel
theorem dJ0_charAt_5068e_11 : decode cJ0_charAt_5068e 11 = .ok (.iload_n 1, 1) := by decide +kernel
theorem dJ0_charAt_5068e_12 : decode cJ0_charAt_5068e 12 = .ok (.invokestatic 495, 3) := by decide +kernel
theorem dJ0_charAt_5068e_15 : decode cJ0_charAt_5068e 15 = .ok (.ireturn, 1) := by decide +kernel
theorem dJ0_charAt_5068e_16 : decode cJ0_charAt_5068e 16 = .ok (.aload_n 0, 1) := by decide +kernel
theorem dJ0_charAt_5068e_17 : decode cJ0_charAt_5068e 17 = .ok (.getfield 9, 3) := by decide +kernel
theorem dJ0_charAt_5068e_20 : decode cJ0_charAt_5068e 20 = .ok (.iload_n 1, 1) := by decide +kernel
theorem dJ0_charAt_5068e_21 : decode cJ0_charAt_5068e 21 = .ok (.invokestatic 498, 3) := by decide +kernel
theorem dJ0_charAt_5068e_24 : decode cJ0_charAt_5068e 24 = .ok (.ireturn, 1) := by decide +kernel
theorem dJ0_coder_7d493_0 : decode cJ0_coder_7d493 0 = .ok (.getstatic 38, 3) := by decide +kernel
theorem dJ0_coder_7d493_3 : decode cJ0_coder_7d493 3 = .ok (.ifCond .eq 10, 3) := by decide +kernel
theorem dJ0_coder_7d493_6 : decode cJ0_coder_7d493 6 = .ok (.aload_n 0, 1) := by decide +kernel
theorem dJ0_coder_7d493_7 : decode cJ0_coder_7d493 7 = .ok (.getfield 15, 3) := by decide +kernel
theorem dJ0_coder_7d493_10 : decode cJ0_coder_7d493 10 = .ok (.goto 4, 3) := by decide +kernel
theorem dJ0_coder_7d493_13 : decode cJ0_coder_7d493 13 = .ok (.iconst 1, 1) := by decide +kernel
theorem dJ0_coder_7d493_14 : decode cJ0_coder_7d493 14 = .ok (.ireturn, 1) := by decide +kernel
theorem dJ0_isLatin1_aae02_0 : decode cJ0_isLatin1_aae02 0 = .ok (.getstatic 38, 3) := by decide +kernel
theorem dJ0_isLatin1_aae02_3 : decode cJ0_isLatin1_aae02 3 = .ok (.ifCond .eq 14, 3) := by decide +kernel
theorem dJ0_isLatin1_aae02_6 : decode cJ0_isLatin1_aae02 6 = .ok (.aload_n 0, 1) := by decide +kernel
theorem dJ0_isLatin1_aae02_7 : decode cJ0_isLatin1_aae02 7 = .ok (.getfield 15, 3) := by decide +kernel
theorem dJ0_isLatin1_aae02_10 : decode cJ0_isLatin1_aae02 10 = .ok (.ifCond .ne 7, 3) := by decide +kernel
theorem dJ0_isLatin1_aae02_13 : decode cJ0_isLatin1_aae02 13 = .ok (.iconst 1, 1) := by decide +kernel
theorem dJ0_isLatin1_aae02_14 : decode cJ0_isLatin1_aae02 14 = .ok (.goto 4, 3) := by decide +kernel
theorem dJ0_isLatin1_aae02_17 : decode cJ0_isLatin1_aae02 17 = .ok (.iconst 0, 1) := by decide +kernel
theorem dJ0_isLatin1_aae02_18 : decode cJ0_isLatin1_aae02 18 = .ok (.ireturn, 1) := by decide +kernel
theorem dJ0_checkIndex_df160_0 : decode cJ0_checkIndex_df160 0 = .ok (.iload_n 0, 1) := by decide +kernel
theorem dJ0_checkIndex_df160_1 : decode cJ0_checkIndex_df160 1 = .ok (.iload_n 1, 1) := by decide +kernel
theorem dJ0_checkIndex_df160_2 : decode cJ0_checkIndex_df160 2 = .ok (.getstatic 1053, 3) := by decide +kernel
theorem dJ0_checkIndex_df160_5 : decode cJ0_checkIndex_df160 5 = .ok (.invokestatic 1059, 3) := by decide +kernel
theorem dJ0_checkIndex_df160_8 : decode cJ0_checkIndex_df160 8 = .ok (.pop, 1) := by decide +kernel
theorem dJ0_checkIndex_df160_9 : decode cJ0_checkIndex_df160 9 = .ok (.return_, 1) := by decide +kernel
theorem dJ1_charAt_3b067_0 : decode cJ1_charAt_3b067 0 = .ok (.iload_n 1, 1) := by decide +kernel
theorem dJ1_charAt_3b067_1 : decode cJ1_charAt_3b067 1 = .ok (.aload_n 0, 1) := by decide +kernel
theorem dJ1_charAt_3b067_2 : decode cJ1_charAt_3b067 2 = .ok (.arraylength, 1) := by decide +kernel
theorem dJ1_charAt_3b067_3 : decode cJ1_charAt_3b067 3 = .ok (.invokestatic 9, 3) := by decide +kernel
theorem dJ1_charAt_3b067_6 : decode cJ1_charAt_3b067 6 = .ok (.aload_n 0, 1) := by decide +kernel
theorem dJ1_charAt_3b067_7 : decode cJ1_charAt_3b067 7 = .ok (.iload_n 1, 1) := by decide +kernel
theorem dJ1_charAt_3b067_8 : decode cJ1_charAt_3b067 8 = .ok (.baload, 1) := by decide +kernel
theorem dJ1_charAt_3b067_9 : decode cJ1_charAt_3b067 9 = .ok (.sipush 255, 3) := by decide +kernel
theorem dJ1_charAt_3b067_12 : decode cJ1_charAt_3b067 12 = .ok (.iand, 1) := by decide +kernel
theorem dJ1_charAt_3b067_13 : decode cJ1_charAt_3b067 13 = .ok (.i2c, 1) := by decide +kernel
theorem dJ1_charAt_3b067_14 : decode cJ1_charAt_3b067 14 = .ok (.ireturn, 1) := by decide +kernel
theorem dJ2_getChar_3b067_0 : decode cJ2_getChar_3b067 0 = .ok (.getstatic 44, 3) := by decide +kernel
theorem dJ2_getChar_3b067_3 : decode cJ2_getChar_3b067 3 = .ok (.ifCond .ne 25, 3) := by decide +kernel
theorem dJ2_getChar_3b067_6 : decode cJ2_getChar_3b067 6 = .ok (.iload_n 1, 1) := by decide +kernel
theorem dJ2_getChar_3b067_7 : decode cJ2_getChar_3b067 7 = .ok (.ifCond .lt 11, 3) := by decide +kernel
theorem dJ2_getChar_3b067_10 : decode cJ2_getChar_3b067 10 = .ok (.iload_n 1, 1) := by decide +kernel
theorem dJ2_getChar_3b067_11 : decode cJ2_getChar_3b067 11 = .ok (.aload_n 0, 1) := by decide +kernel
theorem dJ2_getChar_3b067_12 : decode cJ2_getChar_3b067 12 = .ok (.invokestatic 48, 3) := by decide +kernel
theorem dJ2_getChar_3b067_15 : decode cJ2_getChar_3b067 15 = .ok (.if_icmp .lt 13, 3) := by decide +kernel
theorem dJ2_getChar_3b067_18 : decode cJ2_getChar_3b067 18 = .ok (.new 52, 3) := by decide +kernel
theorem dJ2_getChar_3b067_21 : decode cJ2_getChar_3b067 21 = .ok (.dup, 1) := by decide +kernel
theorem dJ2_getChar_3b067_22 : decode cJ2_getChar_3b067 22 = .ok (.ldc 54, 2) := by decide +kernel
theorem dJ2_getChar_3b067_24 : decode cJ2_getChar_3b067 24 = .ok (.invokespecial 56, 3) := by decide +kernel
theorem dJ2_getChar_3b067_27 : decode cJ2_getChar_3b067 27 = .ok (.athrow, 1) := by decide +kernel
theorem dJ2_getChar_3b067_28 : decode cJ2_getChar_3b067 28 = .ok (.iload_n 1, 1) := by decide +kernel
theorem dJ2_getChar_3b067_29 : decode cJ2_getChar_3b067 29 = .ok (.iconst 1, 1) := by decide +kernel
theorem dJ2_getChar_3b067_30 : decode cJ2_getChar_3b067 30 = .ok (.ishl, 1) := by decide +kernel
theorem dJ2_getChar_3b067_31 : decode cJ2_getChar_3b067 31 = .ok (.istore_n 1, 1) := by decide +kernel
theorem dJ2_getChar_3b067_32 : decode cJ2_getChar_3b067 32 = .ok (.aload_n 0, 1) := by decide +kernel
theorem dJ2_getChar_3b067_33 : decode cJ2_getChar_3b067 33 = .ok (.iload_n 1, 1) := by decide +kernel
theorem dJ2_getChar_3b067_34 : decode cJ2_getChar_3b067 34 = .ok (.iinc 1 1, 3) := by decide +kernel
theorem dJ2_getChar_3b067_37 : decode cJ2_getChar_3b067 37 = .ok (.baload, 1) := by decide +kernel
theorem dJ2_getChar_3b067_38 : decode cJ2_getChar_3b067 38 = .ok (.sipush 255, 3) := by decide +kernel
theorem dJ2_getChar_3b067_41 : decode cJ2_getChar_3b067 41 = .ok (.iand, 1) := by decide +kernel
theorem dJ2_getChar_3b067_42 : decode cJ2_getChar_3b067 42 = .ok (.getstatic 59, 3) := by decide +kernel
theorem dJ2_getChar_3b067_45 : decode cJ2_getChar_3b067 45 = .ok (.ishl, 1) := by decide +kernel
theorem dJ2_getChar_3b067_46 : decode cJ2_getChar_3b067 46 = .ok (.aload_n 0, 1) := by decide +kernel
theorem dJ2_getChar_3b067_47 : decode cJ2_getChar_3b067 47 = .ok (.iload_n 1, 1) := by decide +kernel
theorem dJ2_getChar_3b067_48 : decode cJ2_getChar_3b067 48 = .ok (.baload, 1) := by decide +kernel
theorem dJ2_getChar_3b067_49 : decode cJ2_getChar_3b067 49 = .ok (.sipush 255, 3) := by decide +kernel
theorem dJ2_getChar_3b067_52 : decode cJ2_getChar_3b067 52 = .ok (.iand, 1) := by decide +kernel
theorem dJ2_getChar_3b067_53 : decode cJ2_getChar_3b067 53 = .ok (.getstatic 63, 3) := by decide +kernel
theorem dJ2_getChar_3b067_56 : decode cJ2_getChar_3b067 56 = .ok (.ishl, 1) := by decide +kernel
theorem dJ2_getChar_3b067_57 : decode cJ2_getChar_3b067 57 = .ok (.ior, 1) := by decide +kernel
theorem dJ2_getChar_3b067_58 : decode cJ2_getChar_3b067 58 = .ok (.i2c, 1) := by decide +kernel
theorem dJ2_getChar_3b067_59 : decode cJ2_getChar_3b067 59 = .ok (.ireturn, 1) := by decide +kernel
theorem dJ2_length_9d52b_0 : decode cJ2_length_9d52b 0 = .ok (.aload_n 0, 1) := by decide +kernel
theorem dJ2_length_9d52b_1 : decode cJ2_length_9d52b 1 = .ok (.arraylength, 1) := by decide +kernel
theorem dJ2_length_9d52b_2 : decode cJ2_length_9d52b 2 = .ok (.iconst 1, 1) := by decide +kernel
theorem dJ2_length_9d52b_3 : decode cJ2_length_9d52b 3 = .ok (.ishr, 1) := by decide +kernel
theorem dJ2_length_9d52b_4 : decode cJ2_length_9d52b 4 = .ok (.ireturn, 1) := by decide +kernel
theorem dJ2_charAt_3b067_0 : decode cJ2_charAt_3b067 0 = .ok (.iload_n 1, 1) := by decide +kernel
theorem dJ2_charAt_3b067_1 : decode cJ2_charAt_3b067 1 = .ok (.aload_n 0, 1) := by decide +kernel
theorem dJ2_charAt_3b067_2 : decode cJ2_charAt_3b067 2 = .ok (.invokestatic 67, 3) := by decide +kernel
theorem dJ2_charAt_3b067_5 : decode cJ2_charAt_3b067 5 = .ok (.aload_n 0, 1) := by decide +kernel
theorem dJ2_charAt_3b067_6 : decode cJ2_charAt_3b067 6 = .ok (.iload_n 1, 1) := by decide +kernel
theorem dJ2_charAt_3b067_7 : decode cJ2_charAt_3b067 7 = .ok (.invokestatic 71, 3) := by decide +kernel
theorem dJ2_charAt_3b067_10 : decode cJ2_charAt_3b067 10 = .ok (.ireturn, 1) := by decide +kernel
theorem dJ2_checkIndex_2214a_0 : decode cJ2_checkIndex_2214a 0 = .ok (.iload_n 0, 1) := by decide +kernel
theorem dJ2_checkIndex_2214a_1 : decode cJ2_checkIndex_2214a 1 = .ok (.aload_n 1, 1) := by decide +kernel
theorem dJ2_checkIndex_2214a_2 : decode cJ2_checkIndex_2214a 2 = .ok (.invokestatic 48, 3) := by decide +kernel
theorem dJ2_checkIndex_2214a_5 : decode cJ2_checkIndex_2214a 5 = .ok (.invokestatic 414, 3) := by decide +kernel
theorem dJ2_checkIndex_2214a_8 : decode cJ2_checkIndex_2214a 8 = .ok (.return_, 1) := by decide +kernel
theorem dJ7_fill_53178_0 : decode cJ7_fill_53178 0 = .ok (.iconst 0, 1) := by decide +kernel
theorem dJ7_fill_53178_1 : decode cJ7_fill_53178 1 = .ok (.istore_n 2, 1) := by decide +kernel
theorem dJ7_fill_53178_2 : decode cJ7_fill_53178 2 = .ok (.aload_n 0, 1) := by decide +kernel
theorem dJ7_fill_53178_3 : decode cJ7_fill_53178 3 = .ok (.arraylength, 1) := by decide +kernel
theorem dJ7_fill_53178_4 : decode cJ7_fill_53178 4 = .ok (.istore_n 3, 1) := by decide +kernel
theorem dJ7_fill_53178_5 : decode cJ7_fill_53178 5 = .ok (.iload_n 2, 1) := by decide +kernel
theorem dJ7_fill_53178_6 : decode cJ7_fill_53178 6 = .ok (.iload_n 3, 1) := by decide +kernel
theorem dJ7_fill_53178_7 : decode cJ7_fill_53178 7 = .ok (.if_icmp .ge 13, 3) := by decide +kernel
theorem dJ7_fill_53178_10 : decode cJ7_fill_53178 10 = .ok (.aload_n 0, 1) := by decide +kernel
theorem dJ7_fill_53178_11 : decode cJ7_fill_53178 11 = .ok (.iload_n 2, 1) := by decide +kernel
theorem dJ7_fill_53178_12 : decode cJ7_fill_53178 12 = .ok (.iload_n 1, 1) := by decide +kernel
theorem dJ7_fill_53178_13 : decode cJ7_fill_53178 13 = .ok (.iastore, 1) := by decide +kernel
theorem dJ7_fill_53178_14 : decode cJ7_fill_53178 14 = .ok (.iinc 2 1, 3) := by decide +kernel
theorem dJ7_fill_53178_17 : decode cJ7_fill_53178 17 = .ok (.goto (-12), 3) := by decide +kernel
theorem dJ7_fill_53178_20 : decode cJ7_fill_53178 20 = .ok (.return_, 1) := by decide +kernel
theorem dJ3_checkIndex_8e157_0 : decode cJ3_checkIndex_8e157 0 = .ok (.iload_n 0, 1) := by decide +kernel
theorem dJ3_checkIndex_8e157_1 : decode cJ3_checkIndex_8e157 1 = .ok (.ifCond .lt 8, 3) := by decide +kernel
theorem dJ3_checkIndex_8e157_4 : decode cJ3_checkIndex_8e157 4 = .ok (.iload_n 0, 1) := by decide +kernel
theorem dJ3_checkIndex_8e157_5 : decode cJ3_checkIndex_8e157 5 = .ok (.iload_n 1, 1) := by decide +kernel
theorem dJ3_checkIndex_8e157_6 : decode cJ3_checkIndex_8e157 6 = .ok (.if_icmp .lt 10, 3) := by decide +kernel
theorem dJ3_checkIndex_8e157_9 : decode cJ3_checkIndex_8e157 9 = .ok (.aload_n 2, 1) := by decide +kernel
theorem dJ3_checkIndex_8e157_10 : decode cJ3_checkIndex_8e157 10 = .ok (.iload_n 0, 1) := by decide +kernel
theorem dJ3_checkIndex_8e157_11 : decode cJ3_checkIndex_8e157 11 = .ok (.iload_n 1, 1) := by decide +kernel
theorem dJ3_checkIndex_8e157_12 : decode cJ3_checkIndex_8e157 12 = .ok (.invokestatic 95, 3) := by decide +kernel
theorem dJ3_checkIndex_8e157_15 : decode cJ3_checkIndex_8e157 15 = .ok (.athrow, 1) := by decide +kernel
theorem dJ3_checkIndex_8e157_16 : decode cJ3_checkIndex_8e157 16 = .ok (.iload_n 0, 1) := by decide +kernel
theorem dJ3_checkIndex_8e157_17 : decode cJ3_checkIndex_8e157 17 = .ok (.ireturn, 1) := by decide +kernel
end
section
/-! BASE: the tables' words that may be handed on; the world of one run (all cells, by places); memories; the judgement EE and its rows -/
def TT : List Cond := lw_tbl.filter goodWord
theorem TT_in {i : Nat} {w : Cond} (h : lw_tbl[i]? = some w) (hg : goodWord w = true) : w ∈ TT := List.mem_filter.mpr ⟨List.mem_of_getElem? h, hg⟩
theorem TT_good {big : List Cond} {ws : List Cond} (h1 : ∀ w ∈ ws, w ∈ TT) (h2 : ∀ w ∈ TT, w ∈ big) : GoodIn big ws := fun w h => ⟨h2 w (h1 w h), good_of_word (List.mem_filter.mp (h1 w h)).2⟩
/-- a memory: what the int places of the cells hold -/
abbrev Mem : Type := Nat → Nat → Int32
def wr (I : Mem) (k j : Nat) (x : Int32) : Mem := fun k' => if k' = k then upd (I k) j x else I k'
def lt1 {α β : Type} (x : α) (f : α → β) : β := f x
def bnd {α β : Type} (x : Option (α × Mem)) (f : α → Mem → Option (β × Mem)) : Option (β × Mem) := x.bind (fun z => f z.1 z.2)
theorem bnd_some {α β : Type} (v : α) (J : Mem) (f : α → Mem → Option (β × Mem)) : bnd (some (v, J)) f = f v J := rfl
/-- a world: addresses of places, where its addresses begin, classes and slots, array classes (int, Sheet, Text), how many places, the texts' addresses -/
abbrev Om : Type := (Nat → Nat) × Nat × va_G × ClassId × ClassId × ClassId × Nat × (Nat → Nat) × (Nat → Nat)
abbrev oA (ω : Om) (k : Nat) : Nat := ω.1 k
abbrev oB (ω : Om) : Nat := ω.2.1
abbrev oD (ω : Om) : va_G := ω.2.2.1
abbrev oI (ω : Om) : ClassId := ω.2.2.2.1
abbrev oS (ω : Om) : ClassId := ω.2.2.2.2.1
abbrev oT (ω : Om) : ClassId := ω.2.2.2.2.2.1
abbrev oN (ω : Om) : Nat := ω.2.2.2.2.2.2.1
abbrev oK (ω : Om) (i : Nat) : Nat := ω.2.2.2.2.2.2.2.1 i
abbrev oV (ω : Om) (i : Nat) : Nat := ω.2.2.2.2.2.2.2.2 i
def oFr (ω : Om) : Nat → Prop := fun q => oB ω ≤ q
/-- kind and length of each place -/
def layT : List (Nat × Nat) := [(4, 0), (8, 6), (1, 0), (6, 6), (6, 6), (6, 6), (6, 6), (6, 6), (6, 6), (6, 36), (1, 0), (6, 6), (6, 6), (6, 6), (6, 6), (6, 6), (6, 6), (6, 36), (1, 0), (6, 6), (6, 6), (6, 6), (6, 6), (6, 6), (6, 6), (6, 36), (0, 0), (6, 160), (7, 4), (6, 160),
  (3, 0), (6, 160), (6, 3), (3, 0), (6, 160), (6, 3), (3, 0), (6, 160), (6, 3), (3, 0), (6, 160), (6, 3), (3, 0), (6, 160), (6, 3), (3, 0), (6, 160), (6, 3), (2, 0), (6, 40), (2, 0), (6, 40), (2, 0), (6, 40), (2, 0), (6, 40),
  (5, 0), (6, 6), (6, 6), (6, 24), (6, 36), (6, 160), (6, 1200), (6, 24), (6, 60), (6, 3), (6, 4), (6, 4), (6, 160), (6, 26), (6, 96), (6, 200), (6, 200), (6, 6), (6, 61)]
def rfo (ω : Om) (x : Int32) (f : Nat → Nat) : Value := if x = 0 then .null else .ref (oA ω (f (x.toNatClampNeg - 1)))
def F_Rd (ω : Om) (f : Nat → Int32) : List Value := [rfo ω (f 0) (fun _ => 27), .int (f 1), .int (f 2), .int (f 3), .int (f 4), .int (f 5), rfo ω (f 6) (fun i => 30 + 3 * i)]
def F_Rg (ω : Om) (k : Nat) (f : Nat → Int32) : List Value := [.ref (oA ω 1), .ref (oA ω (k + 1)), .ref (oA ω (k + 2)), .ref (oA ω (k + 3)), .ref (oA ω (k + 4)), .ref (oA ω (k + 5)), .ref (oA ω (k + 6)), .ref (oA ω (k + 7)), .int (f 8), .int (f 9), .int (f 10)]
def F_Sh (ω : Om) (k : Nat) (f : Nat → Int32) : List Value := [.ref (oA ω (k + 1)), .int (f 1), .int (f 2)]
def F_Tx (ω : Om) (k : Nat) (f : Nat → Int32) : List Value := [.ref (oA ω 29), .ref (oA ω (k + 1)), .ref (oA ω (k + 2)), .int (f 3)]
def F_Ha (ω : Om) (f : Nat → Int32) : List Value := [.ref (oA ω 1), .ref (oA ω 2), .ref (oA ω 10), .ref (oA ω 18), .ref (oA ω 26), .ref (oA ω 27), .ref (oA ω 28), .int (f 7), .int (f 8), .int (f 9)]
def F_Mo (ω : Om) (f : Nat → Int32) : List Value := [.int (f 0), .ref (oA ω 57), .ref (oA ω 58), .ref (oA ω 59), .ref (oA ω 60), .int (f 5), .ref (oA ω 61), .int (f 7), .ref (oA ω 62), .ref (oA ω 63), .int (f 10), .int (f 11), .int (f 12), .ref (oA ω 64), .ref (oA ω 65), .ref (oA ω 66), .ref (oA ω 67), .ref (oA ω 68), .ref (oA ω 69), .int (f 19), .int (f 20), .int (f 21), .int (f 22), .ref (oA ω 70), .ref (oA ω 71), .int (f 25), .int (f 26), .int (f 27), .ref (oA ω 72), .ref (oA ω 73), .ref (oA ω 74), .int (f 31)]
def cellK (ω : Om) (k : Nat) (f : Nat → Int32) : va_E :=
  match layT.getD k (9, 0) with
  | (0, _) => .inr (0, F_Rd ω f)
  | (1, _) => .inr (1, F_Rg ω k f)
  | (2, _) => .inr (2, F_Sh ω k f)
  | (3, _) => .inr (3, F_Tx ω k f)
  | (4, _) => .inr (4, F_Ha ω f)
  | (5, _) => .inr (5, F_Mo ω f)
  | (6, n) => .inl (oI ω, n, .inl f)
  | (7, n) => .inl (oS ω, n, .inr (.inr (.inr (.inr (fun i => some (oA ω (48 + 2 * i)))))))
  | (_, n) => .inl (oT ω, n, .inr (.inr (.inr (.inr (fun i => some (oA ω (30 + 3 * i)))))))
def WL (ω : Om) (I : Mem) : va_W := (List.range (oN ω)).map (fun k => (oA ω k, cellK ω k (I k)))
theorem WL_get {ω : Om} {I : Mem} {k : Nat} (h : k < oN ω) : (WL ω I)[k]? = some (oA ω k, cellK ω k (I k)) := by
  simp [WL, h]
theorem WL_set {ω : Om} {I : Mem} {k j : Nat} {x : Int32} {e : va_E} (he : e = cellK ω k (upd (I k) j x)) : (WL ω I).set k (oA ω k, e) = WL ω (wr I k j x) := by
  subst he
  apply List.ext_getElem?
  intro i
  rw [List.getElem?_set]
  by_cases hi : k = i
  · subst hi
    by_cases hk : k < oN ω
    · simp [WL, wr, hk]
    · simp [WL, hk]
  · rw [if_neg hi]
    by_cases hk : i < oN ω
    · rw [WL_get hk, WL_get hk]
      simp [wr, Ne.symm hi]
    · simp [WL, hk]
def TY (ω : Om) : List (ClassId × FieldType) := [(oI ω, .int), (oS ω, .object RX3), (oT ω, .object RX4)]
def HP (ω : Om) (I : Mem) (H : Heap) : Prop := va_P (oD ω) vwCl (WL ω I) H ∧ va_D (oFr ω) (WL ω I)
/-- what the launch gives of the class statics and the texts -/
def above : List Int32 := [-1, 0, 0, 1, 2, 0]
def strL : List Nat := [26, 4, 4, 4, 2, 3, 3, 4, 5, 5, 2, 5, 4]
def strB : List (List Int32) := [[103, 111, 101, 115, 32, 49, 32, 59, 32, 104, 105, 116, 115, 32, 53, 32, 59, 32, 115, 111, 102, 116, 32, 48, 32, 59], [103, 111, 101, 115], [104, 105, 116, 115], [115, 111, 102, 116], [111, 114], [97, 110, 100], [110, 111, 116], [102, 101, 108, 116], [112, 114, 105, 100, 101], [114, 111, 117, 110, 100], [117, 112], [98, 108, 111, 119, 115], [109, 111, 114, 101]]
def strOwn (i : Nat) : String := if i = 0 then "HatsInRing" else "HatsInRing$Reader"
def strIx (i : Nat) : Nat := [51, 103, 109, 111, 113, 115, 117, 119, 121, 123, 125, 127, 129].getD i 0
def strTx (i : Nat) : String := ["goes 1 ; hits 5 ; soft 0 ;", "goes", "hits", "soft", "or", "and", "not", "felt", "pride", "round", "up", "blows", "more"].getD i ""
def SX (ω : Om) (U : State) (H : Heap) : Prop :=
  (∃ t : Nat, va_Z "HatsInRing$Kinds" "ABOVE" "[I" (.ref t) (oFr ω) U H ∧ va_T .int t 6 (fun i => .int (above.getD i 0)) (oFr ω) U H) ∧
  va_Z "java/lang/String" "COMPACT_STRINGS" "Z" (.int 1) (oFr ω) U H ∧
  va_Zq "jdk/internal/util/Preconditions" "SIOOBE_FORMATTER" "Ljava/util/function/BiFunction;" (oFr ω) U H ∧
  vk_S 13 strL strB (oK ω) (oV ω) (oFr ω) U H ∧
  (∀ i : Nat, i < 13 → vk_R (strOwn i) (strIx i) (strTx i) (oK ω i) U) ∧
  va_Nw (.methodLinkNest "HatsInRing$Kinds" 9 ⟨"HatsInRing", "within", "(III)Z"⟩ "HatsInRing") U
theorem SX.same {ω : Om} {u U : State} {H : Heap} (hv : U.vm = u.vm) (h : SX ω u H) : SX ω U H := by
  obtain ⟨⟨t, h1, h2⟩, h3, h4, h5, h6, h7⟩ := h
  have hA : u.vm.Alike U.vm := by rw [hv]; exact Vm.Alike.refl u.vm
  exact ⟨⟨t, h1.moved hA, h2.moved hA⟩, h3.moved hA, h4.moved hA, h5.moved hA, fun i hi => (h6 i hi).same hv, va_Nw.same rfl hv.symm h7⟩
theorem SX.go {ω : Om} {s U : State} {H : Heap} {locs : List Loc} (hW : s.WarmedH U.vm) (hS : va_S (oFr ω) s.heap H locs) (h : SX ω s s.heap) : SX ω U H := by
  obtain ⟨⟨t, h1, h2⟩, h3, h4, h5, h6, h7⟩ := h
  have hA : s.vm.Alike U.vm := hW.alike
  exact ⟨⟨t, (h1.kept hS.2.1).moved hA, (h2.kept hS.2.1).moved hA⟩, (h3.kept hS.2.1).moved hA, (h4.kept hS.2.1).moved hA, (h5.kept hS.2.1).moved hA, fun i hi => (h6 i hi).warm hW, va_Nw.warmM hW h7⟩
/-- a method's start -/
def WD (ω : Om) (I : Mem) (U : State) : Prop := HP ω I U.heap ∧ va_K (oD ω) vwCl (TY ω) U ∧ SX ω U U.heap ∧ oB ω ≤ U.heap.size
theorem WD.blind {ω : Om} {I : Mem} {av : List Value} : FrameBlind (va_Pc av (WD ω I)) := by
  intro a U g mk q
  obtain ⟨q0, q1, q2, q3, q4⟩ := q
  exact ⟨q0, q1, va_K.moved (u := U) (U := U.calling g mk a) (Vm.Alike.refl U.vm) q2, SX.same (u := U) (U := U.calling g mk a) rfl q3, q4⟩
abbrev RM (d : Nat) : Room := { frames := d, cells := 0, slots := 0, locals := 64 * d }
abbrev Kx : Type := Program × Launch × Env × Room × State × MethodId × Array Value × List Frame × Method × Code
def CX (κ : Kx) (ω : Om) (cc : ByteArray) (nL d : Nat) (own : String) : Prop :=
  match κ with
  | (p, l, e, R, s, m, args, below, meth, c) => p.tables.exec = Jvm.exec ∧ c.code = cc ∧ c.maxLocals = nL ∧ s.vm.findClass own = some m.cls ∧ (∀ w ∈ TT, w.before args s = true) ∧ va_K (oD ω) vwCl (TY ω) s ∧ meth.locks = false ∧ R = RM d ∧ SX ω s s.heap ∧ oB ω ≤ s.heap.size
def EW (κ : Kx) (ω : Om) (nL : Nat) (Q : State → Prop) (I : Mem) (pc : Nat) (lv : List (Nat × Value)) (st : List Value) : Prop :=
  match κ with
  | (p, l, e, R, s, m, args, below, meth, c) => ∀ (H : Heap) (locs : List Loc) (ls : Array Slot), HP ω I H → va_S (oFr ω) s.heap H locs → lv_has ls nL lv → W p l e R s m args below meth c H locs 0 0 Q (F0 m pc ls st)
/-- the pure answer X is what the machine comes to -/
def EE {α : Type} (κ : Kx) (ω : Om) (nL : Nat) (G : α × Mem → State → Prop) (X : Option (α × Mem)) (I : Mem) (pc : Nat) (lv : List (Nat × Value)) (st : List Value) : Prop :=
  ∀ r, X = some r → EW κ ω nL (G r) I pc lv st
def Gi (κ : Kx) (ω : Om) (r : Int32 × Mem) : State → Prop := match κ with
  | (_, _, _, _, s, _, args, below, _, _) => MQ below (va_Qi (fun (v : Int32) (_ : Unit) => v = r.1) (fun (_ : Unit) t => HP ω r.2 t.heap) (oFr ω)) args s 0 0 (oFr ω)
def Gl (κ : Kx) (ω : Om) (r : Int64 × Mem) : State → Prop := match κ with
  | (_, _, _, _, s, _, args, below, _, _) => MQ below (va_Ql (fun (v : Int64) (_ : Unit) => v = r.1) (fun (_ : Unit) t => HP ω r.2 t.heap) (oFr ω)) args s 0 0 (oFr ω)
def Gv (κ : Kx) (ω : Om) (r : Unit × Mem) : State → Prop := match κ with
  | (_, _, _, _, s, _, args, below, _, _) => MQ below (va_Qv (fun (_ : Unit) => True) (fun (_ : Unit) t => HP ω r.2 t.heap) (oFr ω)) args s 0 0 (oFr ω)
def Gq (κ : Kx) (ω : Om) (r : Option Nat × Mem) : State → Prop := match κ with
  | (_, _, _, _, s, _, args, below, _, _) => MQ below (va_Qq (fun (v : Option Nat) (_ : Unit) => v = r.1.map (oA ω)) (fun (_ : Unit) t => HP ω r.2 t.heap) (oFr ω)) args s 0 0 (oFr ω)
/-- contracts: the pure answer is the method's -/
def CTi (l : Launch) (ω : Om) (y : MethodName) (b : ByteArray) (maxL : Nat) (ret : Option FieldType) (d : Nat) (av : List Value) (X : Option (Int32 × Mem)) (I : Mem) : Prop :=
  ∀ r, X = some r → Met l y (.code y b maxL ret :: TT) (RM d) (va_Pc av (WD ω I)) (va_Qi (fun (v : Int32) (_ : Unit) => v = r.1) (fun (_ : Unit) t => HP ω r.2 t.heap) (oFr ω)) 0 0 (oFr ω)
def CTl (l : Launch) (ω : Om) (y : MethodName) (b : ByteArray) (maxL : Nat) (ret : Option FieldType) (d : Nat) (av : List Value) (X : Option (Int64 × Mem)) (I : Mem) : Prop :=
  ∀ r, X = some r → Met l y (.code y b maxL ret :: TT) (RM d) (va_Pc av (WD ω I)) (va_Ql (fun (v : Int64) (_ : Unit) => v = r.1) (fun (_ : Unit) t => HP ω r.2 t.heap) (oFr ω)) 0 0 (oFr ω)
def CTv (l : Launch) (ω : Om) (y : MethodName) (b : ByteArray) (maxL : Nat) (ret : Option FieldType) (d : Nat) (av : List Value) (X : Option (Unit × Mem)) (I : Mem) : Prop :=
  ∀ r, X = some r → Met l y (.code y b maxL ret :: TT) (RM d) (va_Pc av (WD ω I)) (va_Qv (fun (_ : Unit) => True) (fun (_ : Unit) t => HP ω r.2 t.heap) (oFr ω)) 0 0 (oFr ω)
def CTq (l : Launch) (ω : Om) (y : MethodName) (b : ByteArray) (maxL : Nat) (ret : Option FieldType) (d : Nat) (av : List Value) (X : Option (Option Nat × Mem)) (I : Mem) : Prop :=
  ∀ r, X = some r → Met l y (.code y b maxL ret :: TT) (RM d) (va_Pc av (WD ω I)) (va_Qq (fun (v : Option Nat) (_ : Unit) => v = r.1.map (oA ω)) (fun (_ : Unit) t => HP ω r.2 t.heap) (oFr ω)) 0 0 (oFr ω)
end
section
section EErows
variable {κ : Kx} {ω : Om} {cc : ByteArray} {nL d : Nat} {own : String} {α : Type} {G : α × Mem → State → Prop} {X A B : Option (α × Mem)} {I : Mem} {pc q : Nat} {lv : List (Nat × Value)} {st : List Value}
theorem e_iconst (C : CX κ ω cc nL d own) {n : Int} {v : Int32} (hdg : decode cc pc = .ok (.iconst n, 1)) (hv : Int32.ofInt n = v) (hq : pc + 1 = q) (kk : EE κ ω nL G X I q lv (.int v :: st)) : EE κ ω nL G X I pc lv (st) := by
  obtain ⟨p, l, e, R, s, m, args, below, meth, c⟩ := κ
  obtain ⟨hx, hb, hml, hown, hts, hK, hlk, hR, hSX, hB⟩ := C
  intro r hr H locs ls hP hS hl
  subst hq
  exact lv_iconst hx hb hdg hv (kk r hr H locs ls hP hS hl)
theorem e_bipush (C : CX κ ω cc nL d own) {n : Int} {v : Int32} (hdg : decode cc pc = .ok (.bipush n, 2)) (hv : (Int8.ofInt n).toInt32 = v) (hq : pc + 2 = q) (kk : EE κ ω nL G X I q lv (.int v :: st)) : EE κ ω nL G X I pc lv (st) := by
  obtain ⟨p, l, e, R, s, m, args, below, meth, c⟩ := κ
  obtain ⟨hx, hb, hml, hown, hts, hK, hlk, hR, hSX, hB⟩ := C
  intro r hr H locs ls hP hS hl
  subst hq
  exact lv_bipush hx hb hdg hv (kk r hr H locs ls hP hS hl)
theorem e_sipush (C : CX κ ω cc nL d own) {n : Int} {v : Int32} (hdg : decode cc pc = .ok (.sipush n, 3)) (hv : (Int16.ofInt n).toInt32 = v) (hq : pc + 3 = q) (kk : EE κ ω nL G X I q lv (.int v :: st)) : EE κ ω nL G X I pc lv (st) := by
  obtain ⟨p, l, e, R, s, m, args, below, meth, c⟩ := κ
  obtain ⟨hx, hb, hml, hown, hts, hK, hlk, hR, hSX, hB⟩ := C
  intro r hr H locs ls hP hS hl
  subst hq
  exact lv_sipush hx hb hdg hv (kk r hr H locs ls hP hS hl)
theorem e_lconst (C : CX κ ω cc nL d own) {n : Fin 2} {v : Int64} (hdg : decode cc pc = .ok (.lconst n, 1)) (hv : Int64.ofNat (n : Nat) = v) (hq : pc + 1 = q) (kk : EE κ ω nL G X I q lv (.long v :: st)) : EE κ ω nL G X I pc lv (st) := by
  obtain ⟨p, l, e, R, s, m, args, below, meth, c⟩ := κ
  obtain ⟨hx, hb, hml, hown, hts, hK, hlk, hR, hSX, hB⟩ := C
  intro r hr H locs ls hP hS hl
  subst hq
  exact lv_lconst hx hb hdg hv (kk r hr H locs ls hP hS hl)
theorem e_null (C : CX κ ω cc nL d own)  (hdg : decode cc pc = .ok (.aconst_null, 1))  (hq : pc + 1 = q) (kk : EE κ ω nL G X I q lv (.null :: st)) : EE κ ω nL G X I pc lv (st) := by
  obtain ⟨p, l, e, R, s, m, args, below, meth, c⟩ := κ
  obtain ⟨hx, hb, hml, hown, hts, hK, hlk, hR, hSX, hB⟩ := C
  intro r hr H locs ls hP hS hl
  subst hq
  exact lv_null hx hb hdg  (kk r hr H locs ls hP hS hl)
theorem e_ldc (C : CX κ ω cc nL d own) {ix : Nat} {v : Int32} (hdg : decode cc pc = .ok (.ldc ix, 2)) (hw : Cond.constant own ix v ∈ TT) (hq : pc + 2 = q) (kk : EE κ ω nL G X I q lv (.int v :: st)) : EE κ ω nL G X I pc lv (st) := by
  obtain ⟨p, l, e, R, s, m, args, below, meth, c⟩ := κ
  obtain ⟨hx, hb, hml, hown, hts, hK, hlk, hR, hSX, hB⟩ := C
  intro r hr H locs ls hP hS hl
  subst hq
  exact lv_ldc hx hb hown (hts _ hw) hdg (kk r hr H locs ls hP hS hl)
theorem e_ldcw (C : CX κ ω cc nL d own) {ix : Nat} {v : Int32} (hdg : decode cc pc = .ok (.ldc_w ix, 3)) (hw : Cond.constant own ix v ∈ TT) (hq : pc + 3 = q) (kk : EE κ ω nL G X I q lv (.int v :: st)) : EE κ ω nL G X I pc lv (st) := by
  obtain ⟨p, l, e, R, s, m, args, below, meth, c⟩ := κ
  obtain ⟨hx, hb, hml, hown, hts, hK, hlk, hR, hSX, hB⟩ := C
  intro r hr H locs ls hP hS hl
  subst hq
  exact lv_ldcw hx hb hown (hts _ hw) hdg (kk r hr H locs ls hP hS hl)
theorem e_ldc2 (C : CX κ ω cc nL d own) {ix : Nat} {v : Int64} (hdg : decode cc pc = .ok (.ldc2_w ix, 3)) (hw : Cond.constantLong own ix v ∈ TT) (hq : pc + 3 = q) (kk : EE κ ω nL G X I q lv (.long v :: st)) : EE κ ω nL G X I pc lv (st) := by
  obtain ⟨p, l, e, R, s, m, args, below, meth, c⟩ := κ
  obtain ⟨hx, hb, hml, hown, hts, hK, hlk, hR, hSX, hB⟩ := C
  intro r hr H locs ls hP hS hl
  subst hq
  exact lv_ldc2 hx hb hown (hts _ hw) hdg (kk r hr H locs ls hP hS hl)
theorem e_iload (C : CX κ ω cc nL d own) {i : Nat} {x : Int32} (hdg : decode cc pc = .ok (.iload i, 2)) (k : Nat) (hk : lv[k]? = some (i, .int x)) (hq : pc + 2 = q) (kk : EE κ ω nL G X I q lv (.int x :: st)) : EE κ ω nL G X I pc lv (st) := by
  obtain ⟨p, l, e, R, s, m, args, below, meth, c⟩ := κ
  obtain ⟨hx, hb, hml, hown, hts, hK, hlk, hR, hSX, hB⟩ := C
  intro r hr H locs ls hP hS hl
  subst hq
  exact lv_iload hx hb hdg (lv_at hl k hk) (kk r hr H locs ls hP hS hl)
theorem e_iload_n (C : CX κ ω cc nL d own) {i0 : Fin 4} {i : Nat} {x : Int32} (hdg : decode cc pc = .ok (.iload_n i0, 1)) (hi : (i0 : Nat) = i) (k : Nat) (hk : lv[k]? = some (i, .int x)) (hq : pc + 1 = q) (kk : EE κ ω nL G X I q lv (.int x :: st)) : EE κ ω nL G X I pc lv (st) := by
  obtain ⟨p, l, e, R, s, m, args, below, meth, c⟩ := κ
  obtain ⟨hx, hb, hml, hown, hts, hK, hlk, hR, hSX, hB⟩ := C
  intro r hr H locs ls hP hS hl
  subst hq
  exact lv_iload_n hx hb hdg hi (lv_at hl k hk) (kk r hr H locs ls hP hS hl)
theorem e_aload (C : CX κ ω cc nL d own) {i : Nat} {x : Nat} (hdg : decode cc pc = .ok (.aload i, 2)) (k : Nat) (hk : lv[k]? = some (i, .ref x)) (hq : pc + 2 = q) (kk : EE κ ω nL G X I q lv (.ref x :: st)) : EE κ ω nL G X I pc lv (st) := by
  obtain ⟨p, l, e, R, s, m, args, below, meth, c⟩ := κ
  obtain ⟨hx, hb, hml, hown, hts, hK, hlk, hR, hSX, hB⟩ := C
  intro r hr H locs ls hP hS hl
  subst hq
  exact lv_aload hx hb hdg (lv_at hl k hk) (kk r hr H locs ls hP hS hl)
theorem e_aload_n (C : CX κ ω cc nL d own) {i0 : Fin 4} {i : Nat} {x : Nat} (hdg : decode cc pc = .ok (.aload_n i0, 1)) (hi : (i0 : Nat) = i) (k : Nat) (hk : lv[k]? = some (i, .ref x)) (hq : pc + 1 = q) (kk : EE κ ω nL G X I q lv (.ref x :: st)) : EE κ ω nL G X I pc lv (st) := by
  obtain ⟨p, l, e, R, s, m, args, below, meth, c⟩ := κ
  obtain ⟨hx, hb, hml, hown, hts, hK, hlk, hR, hSX, hB⟩ := C
  intro r hr H locs ls hP hS hl
  subst hq
  exact lv_aload_n hx hb hdg hi (lv_at hl k hk) (kk r hr H locs ls hP hS hl)
theorem e_lload (C : CX κ ω cc nL d own) {i : Nat} {x : Int64} (hdg : decode cc pc = .ok (.lload i, 2)) (k : Nat) (hk : lv[k]? = some (i, .long x)) (hq : pc + 2 = q) (kk : EE κ ω nL G X I q lv (.long x :: st)) : EE κ ω nL G X I pc lv (st) := by
  obtain ⟨p, l, e, R, s, m, args, below, meth, c⟩ := κ
  obtain ⟨hx, hb, hml, hown, hts, hK, hlk, hR, hSX, hB⟩ := C
  intro r hr H locs ls hP hS hl
  subst hq
  exact lv_lload hx hb hdg (lv_at hl k hk) (kk r hr H locs ls hP hS hl)
theorem e_lload_n (C : CX κ ω cc nL d own) {i0 : Fin 4} {i : Nat} {x : Int64} (hdg : decode cc pc = .ok (.lload_n i0, 1)) (hi : (i0 : Nat) = i) (k : Nat) (hk : lv[k]? = some (i, .long x)) (hq : pc + 1 = q) (kk : EE κ ω nL G X I q lv (.long x :: st)) : EE κ ω nL G X I pc lv (st) := by
  obtain ⟨p, l, e, R, s, m, args, below, meth, c⟩ := κ
  obtain ⟨hx, hb, hml, hown, hts, hK, hlk, hR, hSX, hB⟩ := C
  intro r hr H locs ls hP hS hl
  subst hq
  exact lv_lload_n hx hb hdg hi (lv_at hl k hk) (kk r hr H locs ls hP hS hl)
theorem e_aloadN (C : CX κ ω cc nL d own) {i : Nat} (hdg : decode cc pc = .ok (.aload i, 2)) (k : Nat) (hk : lv[k]? = some (i, .null)) (hq : pc + 2 = q) (kk : EE κ ω nL G X I q lv (.null :: st)) : EE κ ω nL G X I pc lv (st) := by
  obtain ⟨p, l, e, R, s, m, args, below, meth, c⟩ := κ
  obtain ⟨hx, hb, hml, hown, hts, hK, hlk, hR, hSX, hB⟩ := C
  intro r hr H locs ls hP hS hl
  subst hq
  exact lv_aloadN hx hb hdg (lv_at hl k hk) (kk r hr H locs ls hP hS hl)
theorem e_aload_nN (C : CX κ ω cc nL d own) {i0 : Fin 4} {i : Nat} (hdg : decode cc pc = .ok (.aload_n i0, 1)) (hi : (i0 : Nat) = i) (k : Nat) (hk : lv[k]? = some (i, .null)) (hq : pc + 1 = q) (kk : EE κ ω nL G X I q lv (.null :: st)) : EE κ ω nL G X I pc lv (st) := by
  obtain ⟨p, l, e, R, s, m, args, below, meth, c⟩ := κ
  obtain ⟨hx, hb, hml, hown, hts, hK, hlk, hR, hSX, hB⟩ := C
  intro r hr H locs ls hP hS hl
  subst hq
  exact lv_aload_nN hx hb hdg hi (lv_at hl k hk) (kk r hr H locs ls hP hS hl)
theorem e_istore (C : CX κ ω cc nL d own) {i : Nat} {x : Int32} {lv1 : List (Nat × Value)} (hdg : decode cc pc = .ok (.istore i, 2)) (hn : i < nL) (hv : (i, Value.int x) :: lv.filter (fun q => !(q.1 == i) && !(q.1 + 1 == i && q.2.category == 2)) = lv1) (hq : pc + 2 = q) (kk : EE κ ω nL G X I q lv1 st) : EE κ ω nL G X I pc lv (.int x :: st) := by
  obtain ⟨p, l, e, R, s, m, args, below, meth, c⟩ := κ
  obtain ⟨hx, hb, hml, hown, hts, hK, hlk, hR, hSX, hB⟩ := C
  intro r hr H locs ls hP hS hl
  subst hq
  exact lv_istore hx hb hdg hl hn hv (fun ls1 hl1 => kk r hr H locs ls1 hP hS hl1)
theorem e_istore_n (C : CX κ ω cc nL d own) {i0 : Fin 4} {i : Nat} {x : Int32} {lv1 : List (Nat × Value)} (hdg : decode cc pc = .ok (.istore_n i0, 1)) (hi : (i0 : Nat) = i) (hn : i < nL) (hv : (i, Value.int x) :: lv.filter (fun q => !(q.1 == i) && !(q.1 + 1 == i && q.2.category == 2)) = lv1) (hq : pc + 1 = q) (kk : EE κ ω nL G X I q lv1 st) : EE κ ω nL G X I pc lv (.int x :: st) := by
  obtain ⟨p, l, e, R, s, m, args, below, meth, c⟩ := κ
  obtain ⟨hx, hb, hml, hown, hts, hK, hlk, hR, hSX, hB⟩ := C
  intro r hr H locs ls hP hS hl
  subst hq
  exact lv_istore_n hx hb hdg hi hl hn hv (fun ls1 hl1 => kk r hr H locs ls1 hP hS hl1)
theorem e_astore (C : CX κ ω cc nL d own) {i : Nat} {x : Nat} {lv1 : List (Nat × Value)} (hdg : decode cc pc = .ok (.astore i, 2)) (hn : i < nL) (hv : (i, Value.ref x) :: lv.filter (fun q => !(q.1 == i) && !(q.1 + 1 == i && q.2.category == 2)) = lv1) (hq : pc + 2 = q) (kk : EE κ ω nL G X I q lv1 st) : EE κ ω nL G X I pc lv (.ref x :: st) := by
  obtain ⟨p, l, e, R, s, m, args, below, meth, c⟩ := κ
  obtain ⟨hx, hb, hml, hown, hts, hK, hlk, hR, hSX, hB⟩ := C
  intro r hr H locs ls hP hS hl
  subst hq
  exact lv_astore hx hb hdg hl hn hv (fun ls1 hl1 => kk r hr H locs ls1 hP hS hl1)
theorem e_astore_n (C : CX κ ω cc nL d own) {i0 : Fin 4} {i : Nat} {x : Nat} {lv1 : List (Nat × Value)} (hdg : decode cc pc = .ok (.astore_n i0, 1)) (hi : (i0 : Nat) = i) (hn : i < nL) (hv : (i, Value.ref x) :: lv.filter (fun q => !(q.1 == i) && !(q.1 + 1 == i && q.2.category == 2)) = lv1) (hq : pc + 1 = q) (kk : EE κ ω nL G X I q lv1 st) : EE κ ω nL G X I pc lv (.ref x :: st) := by
  obtain ⟨p, l, e, R, s, m, args, below, meth, c⟩ := κ
  obtain ⟨hx, hb, hml, hown, hts, hK, hlk, hR, hSX, hB⟩ := C
  intro r hr H locs ls hP hS hl
  subst hq
  exact lv_astore_n hx hb hdg hi hl hn hv (fun ls1 hl1 => kk r hr H locs ls1 hP hS hl1)
theorem e_lstore (C : CX κ ω cc nL d own) {i : Nat} {x : Int64} {lv1 : List (Nat × Value)} (hdg : decode cc pc = .ok (.lstore i, 2)) (hn : i + 1 < nL) (hv : (i, Value.long x) :: lv.filter (fun q => !(q.1 == i) && (!(q.1 == i + 1) && !(q.1 + 1 == i && q.2.category == 2))) = lv1) (hq : pc + 2 = q) (kk : EE κ ω nL G X I q lv1 st) : EE κ ω nL G X I pc lv (.long x :: st) := by
  obtain ⟨p, l, e, R, s, m, args, below, meth, c⟩ := κ
  obtain ⟨hx, hb, hml, hown, hts, hK, hlk, hR, hSX, hB⟩ := C
  intro r hr H locs ls hP hS hl
  subst hq
  exact lv_lstore hx hb hdg hl hn hv (fun ls1 hl1 => kk r hr H locs ls1 hP hS hl1)
theorem e_lstore_n (C : CX κ ω cc nL d own) {i0 : Fin 4} {i : Nat} {x : Int64} {lv1 : List (Nat × Value)} (hdg : decode cc pc = .ok (.lstore_n i0, 1)) (hi : (i0 : Nat) = i) (hn : i + 1 < nL) (hv : (i, Value.long x) :: lv.filter (fun q => !(q.1 == i) && (!(q.1 == i + 1) && !(q.1 + 1 == i && q.2.category == 2))) = lv1) (hq : pc + 1 = q) (kk : EE κ ω nL G X I q lv1 st) : EE κ ω nL G X I pc lv (.long x :: st) := by
  obtain ⟨p, l, e, R, s, m, args, below, meth, c⟩ := κ
  obtain ⟨hx, hb, hml, hown, hts, hK, hlk, hR, hSX, hB⟩ := C
  intro r hr H locs ls hP hS hl
  subst hq
  exact lv_lstore_n hx hb hdg hi hl hn hv (fun ls1 hl1 => kk r hr H locs ls1 hP hS hl1)
theorem e_astoreN (C : CX κ ω cc nL d own) {i : Nat} {lv1 : List (Nat × Value)} (hdg : decode cc pc = .ok (.astore i, 2)) (hn : i < nL) (hv : (i, Value.null) :: lv.filter (fun q => !(q.1 == i) && !(q.1 + 1 == i && q.2.category == 2)) = lv1) (hq : pc + 2 = q) (kk : EE κ ω nL G X I q lv1 st) : EE κ ω nL G X I pc lv (.null :: st) := by
  obtain ⟨p, l, e, R, s, m, args, below, meth, c⟩ := κ
  obtain ⟨hx, hb, hml, hown, hts, hK, hlk, hR, hSX, hB⟩ := C
  intro r hr H locs ls hP hS hl
  subst hq
  exact lv_astoreN hx hb hdg hl hn hv (fun ls1 hl1 => kk r hr H locs ls1 hP hS hl1)
theorem e_astore_nN (C : CX κ ω cc nL d own) {i0 : Fin 4} {i : Nat} {lv1 : List (Nat × Value)} (hdg : decode cc pc = .ok (.astore_n i0, 1)) (hi : (i0 : Nat) = i) (hn : i < nL) (hv : (i, Value.null) :: lv.filter (fun q => !(q.1 == i) && !(q.1 + 1 == i && q.2.category == 2)) = lv1) (hq : pc + 1 = q) (kk : EE κ ω nL G X I q lv1 st) : EE κ ω nL G X I pc lv (.null :: st) := by
  obtain ⟨p, l, e, R, s, m, args, below, meth, c⟩ := κ
  obtain ⟨hx, hb, hml, hown, hts, hK, hlk, hR, hSX, hB⟩ := C
  intro r hr H locs ls hP hS hl
  subst hq
  exact lv_astore_nN hx hb hdg hi hl hn hv (fun ls1 hl1 => kk r hr H locs ls1 hP hS hl1)
theorem e_iinc (C : CX κ ω cc nL d own) {i : Nat} {n : Int} {x v : Int32} {lv1 : List (Nat × Value)} (hdg : decode cc pc = .ok (.iinc i n, 3)) (k : Nat) (hk : lv[k]? = some (i, .int x)) (hn : i < nL) (hw : x + Int32.ofInt n = v) (hv : (i, Value.int v) :: lv.filter (fun q => !(q.1 == i) && !(q.1 + 1 == i && q.2.category == 2)) = lv1) (hq : pc + 3 = q) (kk : EE κ ω nL G X I q lv1 st) : EE κ ω nL G X I pc lv st := by
  obtain ⟨p, l, e, R, s, m, args, below, meth, c⟩ := κ
  obtain ⟨hx, hb, hml, hown, hts, hK, hlk, hR, hSX, hB⟩ := C
  intro r hr H locs ls hP hS hl
  subst hq
  exact lv_iinc hx hb hdg hl hk hw hn hv (fun ls1 hl1 => kk r hr H locs ls1 hP hS hl1)
theorem e_iadd (C : CX κ ω cc nL d own) {x y : Int32} (hdg : decode cc pc = .ok (.iadd, 1))  (hq : pc + 1 = q) (kk : EE κ ω nL G X I q lv (.int (x + y) :: st)) : EE κ ω nL G X I pc lv (.int y :: .int x :: st) := by
  obtain ⟨p, l, e, R, s, m, args, below, meth, c⟩ := κ
  obtain ⟨hx, hb, hml, hown, hts, hK, hlk, hR, hSX, hB⟩ := C
  intro r hr H locs ls hP hS hl
  subst hq
  exact lv_iadd hx hb hdg  (kk r hr H locs ls hP hS hl)
theorem e_isub (C : CX κ ω cc nL d own) {x y : Int32} (hdg : decode cc pc = .ok (.isub, 1))  (hq : pc + 1 = q) (kk : EE κ ω nL G X I q lv (.int (x - y) :: st)) : EE κ ω nL G X I pc lv (.int y :: .int x :: st) := by
  obtain ⟨p, l, e, R, s, m, args, below, meth, c⟩ := κ
  obtain ⟨hx, hb, hml, hown, hts, hK, hlk, hR, hSX, hB⟩ := C
  intro r hr H locs ls hP hS hl
  subst hq
  exact lv_isub hx hb hdg  (kk r hr H locs ls hP hS hl)
theorem e_imul (C : CX κ ω cc nL d own) {x y : Int32} (hdg : decode cc pc = .ok (.imul, 1))  (hq : pc + 1 = q) (kk : EE κ ω nL G X I q lv (.int (x * y) :: st)) : EE κ ω nL G X I pc lv (.int y :: .int x :: st) := by
  obtain ⟨p, l, e, R, s, m, args, below, meth, c⟩ := κ
  obtain ⟨hx, hb, hml, hown, hts, hK, hlk, hR, hSX, hB⟩ := C
  intro r hr H locs ls hP hS hl
  subst hq
  exact lv_imul hx hb hdg  (kk r hr H locs ls hP hS hl)
theorem e_iand (C : CX κ ω cc nL d own) {x y : Int32} (hdg : decode cc pc = .ok (.iand, 1))  (hq : pc + 1 = q) (kk : EE κ ω nL G X I q lv (.int (x &&& y) :: st)) : EE κ ω nL G X I pc lv (.int y :: .int x :: st) := by
  obtain ⟨p, l, e, R, s, m, args, below, meth, c⟩ := κ
  obtain ⟨hx, hb, hml, hown, hts, hK, hlk, hR, hSX, hB⟩ := C
  intro r hr H locs ls hP hS hl
  subst hq
  exact lv_iand hx hb hdg  (kk r hr H locs ls hP hS hl)
theorem e_ior (C : CX κ ω cc nL d own) {x y : Int32} (hdg : decode cc pc = .ok (.ior, 1))  (hq : pc + 1 = q) (kk : EE κ ω nL G X I q lv (.int (x ||| y) :: st)) : EE κ ω nL G X I pc lv (.int y :: .int x :: st) := by
  obtain ⟨p, l, e, R, s, m, args, below, meth, c⟩ := κ
  obtain ⟨hx, hb, hml, hown, hts, hK, hlk, hR, hSX, hB⟩ := C
  intro r hr H locs ls hP hS hl
  subst hq
  exact lv_ior hx hb hdg  (kk r hr H locs ls hP hS hl)
theorem e_ishl (C : CX κ ω cc nL d own) {x y : Int32} (hdg : decode cc pc = .ok (.ishl, 1))  (hq : pc + 1 = q) (kk : EE κ ω nL G X I q lv (.int (x <<< (y &&& 31)) :: st)) : EE κ ω nL G X I pc lv (.int y :: .int x :: st) := by
  obtain ⟨p, l, e, R, s, m, args, below, meth, c⟩ := κ
  obtain ⟨hx, hb, hml, hown, hts, hK, hlk, hR, hSX, hB⟩ := C
  intro r hr H locs ls hP hS hl
  subst hq
  exact lv_ishl hx hb hdg  (kk r hr H locs ls hP hS hl)
theorem e_ishr (C : CX κ ω cc nL d own) {x y : Int32} (hdg : decode cc pc = .ok (.ishr, 1))  (hq : pc + 1 = q) (kk : EE κ ω nL G X I q lv (.int (x >>> (y &&& 31)) :: st)) : EE κ ω nL G X I pc lv (.int y :: .int x :: st) := by
  obtain ⟨p, l, e, R, s, m, args, below, meth, c⟩ := κ
  obtain ⟨hx, hb, hml, hown, hts, hK, hlk, hR, hSX, hB⟩ := C
  intro r hr H locs ls hP hS hl
  subst hq
  exact lv_ishr hx hb hdg  (kk r hr H locs ls hP hS hl)
theorem e_idiv (C : CX κ ω cc nL d own) {x y : Int32} (hdg : decode cc pc = .ok (.idiv, 1)) (hne : ¬ y = 0) (hq : pc + 1 = q) (kk : EE κ ω nL G X I q lv (.int (x / y) :: st)) : EE κ ω nL G X I pc lv (.int y :: .int x :: st) := by
  obtain ⟨p, l, e, R, s, m, args, below, meth, c⟩ := κ
  obtain ⟨hx, hb, hml, hown, hts, hK, hlk, hR, hSX, hB⟩ := C
  intro r hr H locs ls hP hS hl
  subst hq
  exact lv_idiv hx hb hdg hne (kk r hr H locs ls hP hS hl)
theorem e_irem (C : CX κ ω cc nL d own) {x y : Int32} (hdg : decode cc pc = .ok (.irem, 1)) (hne : ¬ y = 0) (hq : pc + 1 = q) (kk : EE κ ω nL G X I q lv (.int (x - x / y * y) :: st)) : EE κ ω nL G X I pc lv (.int y :: .int x :: st) := by
  obtain ⟨p, l, e, R, s, m, args, below, meth, c⟩ := κ
  obtain ⟨hx, hb, hml, hown, hts, hK, hlk, hR, hSX, hB⟩ := C
  intro r hr H locs ls hP hS hl
  subst hq
  exact lv_irem hx hb hdg hne (kk r hr H locs ls hP hS hl)
theorem e_ladd (C : CX κ ω cc nL d own) {x y : Int64} (hdg : decode cc pc = .ok (.ladd, 1))  (hq : pc + 1 = q) (kk : EE κ ω nL G X I q lv (.long (x + y) :: st)) : EE κ ω nL G X I pc lv (.long y :: .long x :: st) := by
  obtain ⟨p, l, e, R, s, m, args, below, meth, c⟩ := κ
  obtain ⟨hx, hb, hml, hown, hts, hK, hlk, hR, hSX, hB⟩ := C
  intro r hr H locs ls hP hS hl
  subst hq
  exact lv_ladd hx hb hdg  (kk r hr H locs ls hP hS hl)
theorem e_lmul (C : CX κ ω cc nL d own) {x y : Int64} (hdg : decode cc pc = .ok (.lmul, 1))  (hq : pc + 1 = q) (kk : EE κ ω nL G X I q lv (.long (x * y) :: st)) : EE κ ω nL G X I pc lv (.long y :: .long x :: st) := by
  obtain ⟨p, l, e, R, s, m, args, below, meth, c⟩ := κ
  obtain ⟨hx, hb, hml, hown, hts, hK, hlk, hR, hSX, hB⟩ := C
  intro r hr H locs ls hP hS hl
  subst hq
  exact lv_lmul hx hb hdg  (kk r hr H locs ls hP hS hl)
theorem e_lor (C : CX κ ω cc nL d own) {x y : Int64} (hdg : decode cc pc = .ok (.lor, 1))  (hq : pc + 1 = q) (kk : EE κ ω nL G X I q lv (.long (x ||| y) :: st)) : EE κ ω nL G X I pc lv (.long y :: .long x :: st) := by
  obtain ⟨p, l, e, R, s, m, args, below, meth, c⟩ := κ
  obtain ⟨hx, hb, hml, hown, hts, hK, hlk, hR, hSX, hB⟩ := C
  intro r hr H locs ls hP hS hl
  subst hq
  exact lv_lor hx hb hdg  (kk r hr H locs ls hP hS hl)
theorem e_ldiv (C : CX κ ω cc nL d own) {x y : Int64} (hdg : decode cc pc = .ok (.ldiv, 1)) (hne : ¬ y = 0) (hq : pc + 1 = q) (kk : EE κ ω nL G X I q lv (.long (x / y) :: st)) : EE κ ω nL G X I pc lv (.long y :: .long x :: st) := by
  obtain ⟨p, l, e, R, s, m, args, below, meth, c⟩ := κ
  obtain ⟨hx, hb, hml, hown, hts, hK, hlk, hR, hSX, hB⟩ := C
  intro r hr H locs ls hP hS hl
  subst hq
  exact lv_ldiv hx hb hdg hne (kk r hr H locs ls hP hS hl)
theorem e_lrem (C : CX κ ω cc nL d own) {x y : Int64} (hdg : decode cc pc = .ok (.lrem, 1)) (hne : ¬ y = 0) (hq : pc + 1 = q) (kk : EE κ ω nL G X I q lv (.long (x - x / y * y) :: st)) : EE κ ω nL G X I pc lv (.long y :: .long x :: st) := by
  obtain ⟨p, l, e, R, s, m, args, below, meth, c⟩ := κ
  obtain ⟨hx, hb, hml, hown, hts, hK, hlk, hR, hSX, hB⟩ := C
  intro r hr H locs ls hP hS hl
  subst hq
  exact lv_lrem hx hb hdg hne (kk r hr H locs ls hP hS hl)
theorem e_ineg (C : CX κ ω cc nL d own) {x : Int32} (hdg : decode cc pc = .ok (.ineg, 1))  (hq : pc + 1 = q) (kk : EE κ ω nL G X I q lv (.int (-x) :: st)) : EE κ ω nL G X I pc lv (.int x :: st) := by
  obtain ⟨p, l, e, R, s, m, args, below, meth, c⟩ := κ
  obtain ⟨hx, hb, hml, hown, hts, hK, hlk, hR, hSX, hB⟩ := C
  intro r hr H locs ls hP hS hl
  subst hq
  exact lv_ineg hx hb hdg  (kk r hr H locs ls hP hS hl)
theorem e_iushr (C : CX κ ω cc nL d own) {x y : Int32} (hdg : decode cc pc = .ok (.iushr, 1))  (hq : pc + 1 = q) (kk : EE κ ω nL G X I q lv (.int ((x.toUInt32 >>> (y.toUInt32 &&& Int32.toUInt32 31)).toInt32) :: st)) : EE κ ω nL G X I pc lv (.int y :: .int x :: st) := by
  obtain ⟨p, l, e, R, s, m, args, below, meth, c⟩ := κ
  obtain ⟨hx, hb, hml, hown, hts, hK, hlk, hR, hSX, hB⟩ := C
  intro r hr H locs ls hP hS hl
  subst hq
  exact lv_iushr hx hb hdg rfl (kk r hr H locs ls hP hS hl)
theorem e_i2b (C : CX κ ω cc nL d own) {x : Int32} (hdg : decode cc pc = .ok (.i2b, 1))  (hq : pc + 1 = q) (kk : EE κ ω nL G X I q lv (.int (x.toInt8.toInt32) :: st)) : EE κ ω nL G X I pc lv (.int x :: st) := by
  obtain ⟨p, l, e, R, s, m, args, below, meth, c⟩ := κ
  obtain ⟨hx, hb, hml, hown, hts, hK, hlk, hR, hSX, hB⟩ := C
  intro r hr H locs ls hP hS hl
  subst hq
  exact lv_i2b hx hb hdg rfl (kk r hr H locs ls hP hS hl)
theorem e_i2s (C : CX κ ω cc nL d own) {x : Int32} (hdg : decode cc pc = .ok (.i2s, 1))  (hq : pc + 1 = q) (kk : EE κ ω nL G X I q lv (.int (x.toInt16.toInt32) :: st)) : EE κ ω nL G X I pc lv (.int x :: st) := by
  obtain ⟨p, l, e, R, s, m, args, below, meth, c⟩ := κ
  obtain ⟨hx, hb, hml, hown, hts, hK, hlk, hR, hSX, hB⟩ := C
  intro r hr H locs ls hP hS hl
  subst hq
  exact lv_i2s hx hb hdg rfl (kk r hr H locs ls hP hS hl)
theorem e_i2l (C : CX κ ω cc nL d own) {x : Int32} (hdg : decode cc pc = .ok (.i2l, 1))  (hq : pc + 1 = q) (kk : EE κ ω nL G X I q lv (.long (x.toInt64) :: st)) : EE κ ω nL G X I pc lv (.int x :: st) := by
  obtain ⟨p, l, e, R, s, m, args, below, meth, c⟩ := κ
  obtain ⟨hx, hb, hml, hown, hts, hK, hlk, hR, hSX, hB⟩ := C
  intro r hr H locs ls hP hS hl
  subst hq
  exact lv_i2l hx hb hdg rfl (kk r hr H locs ls hP hS hl)
theorem e_l2i (C : CX κ ω cc nL d own) {x : Int64} (hdg : decode cc pc = .ok (.l2i, 1))  (hq : pc + 1 = q) (kk : EE κ ω nL G X I q lv (.int (x.toInt32) :: st)) : EE κ ω nL G X I pc lv (.long x :: st) := by
  obtain ⟨p, l, e, R, s, m, args, below, meth, c⟩ := κ
  obtain ⟨hx, hb, hml, hown, hts, hK, hlk, hR, hSX, hB⟩ := C
  intro r hr H locs ls hP hS hl
  subst hq
  exact lv_l2i hx hb hdg rfl (kk r hr H locs ls hP hS hl)
theorem e_lshl (C : CX κ ω cc nL d own) {x : Int64} {y : Int32} (hdg : decode cc pc = .ok (.lshl, 1))  (hq : pc + 1 = q) (kk : EE κ ω nL G X I q lv (.long (x <<< (y.toInt64 &&& 63)) :: st)) : EE κ ω nL G X I pc lv (.int y :: .long x :: st) := by
  obtain ⟨p, l, e, R, s, m, args, below, meth, c⟩ := κ
  obtain ⟨hx, hb, hml, hown, hts, hK, hlk, hR, hSX, hB⟩ := C
  intro r hr H locs ls hP hS hl
  subst hq
  exact lv_lshl hx hb hdg rfl (kk r hr H locs ls hP hS hl)
theorem e_lcmp (C : CX κ ω cc nL d own) {x y : Int64} (hdg : decode cc pc = .ok (.lcmp, 1))  (hq : pc + 1 = q) (kk : EE κ ω nL G X I q lv (.int (lg_cmp x y) :: st)) : EE κ ω nL G X I pc lv (.long y :: .long x :: st) := by
  obtain ⟨p, l, e, R, s, m, args, below, meth, c⟩ := κ
  obtain ⟨hx, hb, hml, hown, hts, hK, hlk, hR, hSX, hB⟩ := C
  intro r hr H locs ls hP hS hl
  subst hq
  exact W.lcmp hx hb hdg  (kk r hr H locs ls hP hS hl)
theorem e_dup (C : CX κ ω cc nL d own) {v : Value} (hdg : decode cc pc = .ok (.dup, 1)) (hv : v.category = 1) (hq : pc + 1 = q) (kk : EE κ ω nL G X I q lv (v :: v :: st)) : EE κ ω nL G X I pc lv (v :: st) := by
  obtain ⟨p, l, e, R, s, m, args, below, meth, c⟩ := κ
  obtain ⟨hx, hb, hml, hown, hts, hK, hlk, hR, hSX, hB⟩ := C
  intro r hr H locs ls hP hS hl
  subst hq
  exact lv_dup hx hb hdg hv (kk r hr H locs ls hP hS hl)
theorem e_dup2 (C : CX κ ω cc nL d own) {v w : Value} (hdg : decode cc pc = .ok (.dup2, 1)) (hv : v.category = 1) (hw : w.category = 1) (hq : pc + 1 = q) (kk : EE κ ω nL G X I q lv (v :: w :: v :: w :: st)) : EE κ ω nL G X I pc lv (v :: w :: st) := by
  obtain ⟨p, l, e, R, s, m, args, below, meth, c⟩ := κ
  obtain ⟨hx, hb, hml, hown, hts, hK, hlk, hR, hSX, hB⟩ := C
  intro r hr H locs ls hP hS hl
  subst hq
  exact lv_dup2_11 hx hb hdg hv hw (kk r hr H locs ls hP hS hl)
theorem e_pop (C : CX κ ω cc nL d own) {v : Value} (hdg : decode cc pc = .ok (.pop, 1)) (hv : v.category = 1) (hq : pc + 1 = q) (kk : EE κ ω nL G X I q lv (st)) : EE κ ω nL G X I pc lv (v :: st) := by
  obtain ⟨p, l, e, R, s, m, args, below, meth, c⟩ := κ
  obtain ⟨hx, hb, hml, hown, hts, hK, hlk, hR, hSX, hB⟩ := C
  intro r hr H locs ls hP hS hl
  subst hq
  exact lv_pop hx hb hdg hv (kk r hr H locs ls hP hS hl)
theorem e_ifeq (C : CX κ ω cc nL d own) {x : Int32} {off : Int} {tgt : Nat} (hdg : decode cc pc = .ok (.ifCond .eq off, 3)) (ht : (pc : Int) + off = (tgt : Int)) (hq : pc + 3 = q) (kt : EE κ ω nL G A I tgt lv st) (kf : EE κ ω nL G B I q lv st) : EE κ ω nL G (if x = 0 then A else B) I pc lv (.int x :: st) := by
  obtain ⟨p, l, e, R, s, m, args, below, meth, c⟩ := κ
  obtain ⟨hx, hb, hml, hown, hts, hK, hlk, hR, hSX, hB⟩ := C
  intro r hr H locs ls hP hS hl
  subst hq
  by_cases h : x = 0
  · rw [if_pos h] at hr
    exact lv_if_eq hx hb hdg ht (fun h2 => kt r hr H locs ls hP hS hl) (fun h2 => absurd h h2)
  · rw [if_neg h] at hr
    exact lv_if_eq hx hb hdg ht (fun h2 => absurd h2 h) (fun h2 => kf r hr H locs ls hP hS hl)
theorem e_ifne (C : CX κ ω cc nL d own) {x : Int32} {off : Int} {tgt : Nat} (hdg : decode cc pc = .ok (.ifCond .ne off, 3)) (ht : (pc : Int) + off = (tgt : Int)) (hq : pc + 3 = q) (kt : EE κ ω nL G B I tgt lv st) (kf : EE κ ω nL G A I q lv st) : EE κ ω nL G (if x = 0 then A else B) I pc lv (.int x :: st) := by
  obtain ⟨p, l, e, R, s, m, args, below, meth, c⟩ := κ
  obtain ⟨hx, hb, hml, hown, hts, hK, hlk, hR, hSX, hB⟩ := C
  intro r hr H locs ls hP hS hl
  subst hq
  by_cases h : x = 0
  · rw [if_pos h] at hr
    exact lv_if_ne hx hb hdg ht (fun h2 => absurd h h2) (fun h2 => kf r hr H locs ls hP hS hl)
  · rw [if_neg h] at hr
    exact lv_if_ne hx hb hdg ht (fun h2 => kt r hr H locs ls hP hS hl) (fun h2 => absurd h2 h)
theorem e_iflt (C : CX κ ω cc nL d own) {x : Int32} {off : Int} {tgt : Nat} (hdg : decode cc pc = .ok (.ifCond .lt off, 3)) (ht : (pc : Int) + off = (tgt : Int)) (hq : pc + 3 = q) (kt : EE κ ω nL G A I tgt lv st) (kf : EE κ ω nL G B I q lv st) : EE κ ω nL G (if x < 0 then A else B) I pc lv (.int x :: st) := by
  obtain ⟨p, l, e, R, s, m, args, below, meth, c⟩ := κ
  obtain ⟨hx, hb, hml, hown, hts, hK, hlk, hR, hSX, hB⟩ := C
  intro r hr H locs ls hP hS hl
  subst hq
  by_cases h : x < 0
  · rw [if_pos h] at hr
    exact lv_if_lt hx hb hdg ht (fun h2 => kt r hr H locs ls hP hS hl) (fun h2 => absurd h h2)
  · rw [if_neg h] at hr
    exact lv_if_lt hx hb hdg ht (fun h2 => absurd h2 h) (fun h2 => kf r hr H locs ls hP hS hl)
theorem e_ifge (C : CX κ ω cc nL d own) {x : Int32} {off : Int} {tgt : Nat} (hdg : decode cc pc = .ok (.ifCond .ge off, 3)) (ht : (pc : Int) + off = (tgt : Int)) (hq : pc + 3 = q) (kt : EE κ ω nL G A I tgt lv st) (kf : EE κ ω nL G B I q lv st) : EE κ ω nL G (if 0 ≤ x then A else B) I pc lv (.int x :: st) := by
  obtain ⟨p, l, e, R, s, m, args, below, meth, c⟩ := κ
  obtain ⟨hx, hb, hml, hown, hts, hK, hlk, hR, hSX, hB⟩ := C
  intro r hr H locs ls hP hS hl
  subst hq
  by_cases h : 0 ≤ x
  · rw [if_pos h] at hr
    exact lv_if_ge hx hb hdg ht (fun h2 => kt r hr H locs ls hP hS hl) (fun h2 => absurd h h2)
  · rw [if_neg h] at hr
    exact lv_if_ge hx hb hdg ht (fun h2 => absurd h2 h) (fun h2 => kf r hr H locs ls hP hS hl)
theorem e_ifgt (C : CX κ ω cc nL d own) {x : Int32} {off : Int} {tgt : Nat} (hdg : decode cc pc = .ok (.ifCond .gt off, 3)) (ht : (pc : Int) + off = (tgt : Int)) (hq : pc + 3 = q) (kt : EE κ ω nL G A I tgt lv st) (kf : EE κ ω nL G B I q lv st) : EE κ ω nL G (if 0 < x then A else B) I pc lv (.int x :: st) := by
  obtain ⟨p, l, e, R, s, m, args, below, meth, c⟩ := κ
  obtain ⟨hx, hb, hml, hown, hts, hK, hlk, hR, hSX, hB⟩ := C
  intro r hr H locs ls hP hS hl
  subst hq
  by_cases h : 0 < x
  · rw [if_pos h] at hr
    exact lv_if_gt hx hb hdg ht (fun h2 => kt r hr H locs ls hP hS hl) (fun h2 => absurd h h2)
  · rw [if_neg h] at hr
    exact lv_if_gt hx hb hdg ht (fun h2 => absurd h2 h) (fun h2 => kf r hr H locs ls hP hS hl)
theorem e_ifle (C : CX κ ω cc nL d own) {x : Int32} {off : Int} {tgt : Nat} (hdg : decode cc pc = .ok (.ifCond .le off, 3)) (ht : (pc : Int) + off = (tgt : Int)) (hq : pc + 3 = q) (kt : EE κ ω nL G A I tgt lv st) (kf : EE κ ω nL G B I q lv st) : EE κ ω nL G (if x ≤ 0 then A else B) I pc lv (.int x :: st) := by
  obtain ⟨p, l, e, R, s, m, args, below, meth, c⟩ := κ
  obtain ⟨hx, hb, hml, hown, hts, hK, hlk, hR, hSX, hB⟩ := C
  intro r hr H locs ls hP hS hl
  subst hq
  by_cases h : x ≤ 0
  · rw [if_pos h] at hr
    exact lv_if_le hx hb hdg ht (fun h2 => kt r hr H locs ls hP hS hl) (fun h2 => absurd h h2)
  · rw [if_neg h] at hr
    exact lv_if_le hx hb hdg ht (fun h2 => absurd h2 h) (fun h2 => kf r hr H locs ls hP hS hl)
theorem e_icmpeq (C : CX κ ω cc nL d own) {x y : Int32} {off : Int} {tgt : Nat} (hdg : decode cc pc = .ok (.if_icmp .eq off, 3)) (ht : (pc : Int) + off = (tgt : Int)) (hq : pc + 3 = q) (kt : EE κ ω nL G A I tgt lv st) (kf : EE κ ω nL G B I q lv st) : EE κ ω nL G (if x = y then A else B) I pc lv (.int y :: .int x :: st) := by
  obtain ⟨p, l, e, R, s, m, args, below, meth, c⟩ := κ
  obtain ⟨hx, hb, hml, hown, hts, hK, hlk, hR, hSX, hB⟩ := C
  intro r hr H locs ls hP hS hl
  subst hq
  by_cases h : x = y
  · rw [if_pos h] at hr
    exact lv_icmp_eq hx hb hdg ht (fun h2 => kt r hr H locs ls hP hS hl) (fun h2 => absurd h h2)
  · rw [if_neg h] at hr
    exact lv_icmp_eq hx hb hdg ht (fun h2 => absurd h2 h) (fun h2 => kf r hr H locs ls hP hS hl)
theorem e_icmpne (C : CX κ ω cc nL d own) {x y : Int32} {off : Int} {tgt : Nat} (hdg : decode cc pc = .ok (.if_icmp .ne off, 3)) (ht : (pc : Int) + off = (tgt : Int)) (hq : pc + 3 = q) (kt : EE κ ω nL G B I tgt lv st) (kf : EE κ ω nL G A I q lv st) : EE κ ω nL G (if x = y then A else B) I pc lv (.int y :: .int x :: st) := by
  obtain ⟨p, l, e, R, s, m, args, below, meth, c⟩ := κ
  obtain ⟨hx, hb, hml, hown, hts, hK, hlk, hR, hSX, hB⟩ := C
  intro r hr H locs ls hP hS hl
  subst hq
  by_cases h : x = y
  · rw [if_pos h] at hr
    exact lv_icmp_ne hx hb hdg ht (fun h2 => absurd h h2) (fun h2 => kf r hr H locs ls hP hS hl)
  · rw [if_neg h] at hr
    exact lv_icmp_ne hx hb hdg ht (fun h2 => kt r hr H locs ls hP hS hl) (fun h2 => absurd h2 h)
theorem e_icmplt (C : CX κ ω cc nL d own) {x y : Int32} {off : Int} {tgt : Nat} (hdg : decode cc pc = .ok (.if_icmp .lt off, 3)) (ht : (pc : Int) + off = (tgt : Int)) (hq : pc + 3 = q) (kt : EE κ ω nL G A I tgt lv st) (kf : EE κ ω nL G B I q lv st) : EE κ ω nL G (if x < y then A else B) I pc lv (.int y :: .int x :: st) := by
  obtain ⟨p, l, e, R, s, m, args, below, meth, c⟩ := κ
  obtain ⟨hx, hb, hml, hown, hts, hK, hlk, hR, hSX, hB⟩ := C
  intro r hr H locs ls hP hS hl
  subst hq
  by_cases h : x < y
  · rw [if_pos h] at hr
    exact lv_icmp_lt hx hb hdg ht (fun h2 => kt r hr H locs ls hP hS hl) (fun h2 => absurd h h2)
  · rw [if_neg h] at hr
    exact lv_icmp_lt hx hb hdg ht (fun h2 => absurd h2 h) (fun h2 => kf r hr H locs ls hP hS hl)
theorem e_icmpge (C : CX κ ω cc nL d own) {x y : Int32} {off : Int} {tgt : Nat} (hdg : decode cc pc = .ok (.if_icmp .ge off, 3)) (ht : (pc : Int) + off = (tgt : Int)) (hq : pc + 3 = q) (kt : EE κ ω nL G A I tgt lv st) (kf : EE κ ω nL G B I q lv st) : EE κ ω nL G (if y ≤ x then A else B) I pc lv (.int y :: .int x :: st) := by
  obtain ⟨p, l, e, R, s, m, args, below, meth, c⟩ := κ
  obtain ⟨hx, hb, hml, hown, hts, hK, hlk, hR, hSX, hB⟩ := C
  intro r hr H locs ls hP hS hl
  subst hq
  by_cases h : y ≤ x
  · rw [if_pos h] at hr
    exact lv_icmp_ge hx hb hdg ht (fun h2 => kt r hr H locs ls hP hS hl) (fun h2 => absurd h h2)
  · rw [if_neg h] at hr
    exact lv_icmp_ge hx hb hdg ht (fun h2 => absurd h2 h) (fun h2 => kf r hr H locs ls hP hS hl)
theorem e_icmpgt (C : CX κ ω cc nL d own) {x y : Int32} {off : Int} {tgt : Nat} (hdg : decode cc pc = .ok (.if_icmp .gt off, 3)) (ht : (pc : Int) + off = (tgt : Int)) (hq : pc + 3 = q) (kt : EE κ ω nL G A I tgt lv st) (kf : EE κ ω nL G B I q lv st) : EE κ ω nL G (if y < x then A else B) I pc lv (.int y :: .int x :: st) := by
  obtain ⟨p, l, e, R, s, m, args, below, meth, c⟩ := κ
  obtain ⟨hx, hb, hml, hown, hts, hK, hlk, hR, hSX, hB⟩ := C
  intro r hr H locs ls hP hS hl
  subst hq
  by_cases h : y < x
  · rw [if_pos h] at hr
    exact lv_icmp_gt hx hb hdg ht (fun h2 => kt r hr H locs ls hP hS hl) (fun h2 => absurd h h2)
  · rw [if_neg h] at hr
    exact lv_icmp_gt hx hb hdg ht (fun h2 => absurd h2 h) (fun h2 => kf r hr H locs ls hP hS hl)
theorem e_icmple (C : CX κ ω cc nL d own) {x y : Int32} {off : Int} {tgt : Nat} (hdg : decode cc pc = .ok (.if_icmp .le off, 3)) (ht : (pc : Int) + off = (tgt : Int)) (hq : pc + 3 = q) (kt : EE κ ω nL G A I tgt lv st) (kf : EE κ ω nL G B I q lv st) : EE κ ω nL G (if x ≤ y then A else B) I pc lv (.int y :: .int x :: st) := by
  obtain ⟨p, l, e, R, s, m, args, below, meth, c⟩ := κ
  obtain ⟨hx, hb, hml, hown, hts, hK, hlk, hR, hSX, hB⟩ := C
  intro r hr H locs ls hP hS hl
  subst hq
  by_cases h : x ≤ y
  · rw [if_pos h] at hr
    exact lv_icmp_le hx hb hdg ht (fun h2 => kt r hr H locs ls hP hS hl) (fun h2 => absurd h h2)
  · rw [if_neg h] at hr
    exact lv_icmp_le hx hb hdg ht (fun h2 => absurd h2 h) (fun h2 => kf r hr H locs ls hP hS hl)
theorem e_goto (C : CX κ ω cc nL d own) {off : Int} {tgt : Nat} (hdg : decode cc pc = .ok (.goto off, 3)) (ht : (pc : Int) + off = (tgt : Int)) (kk : EE κ ω nL G X I tgt lv st) : EE κ ω nL G X I pc lv st := by
  obtain ⟨p, l, e, R, s, m, args, below, meth, c⟩ := κ
  obtain ⟨hx, hb, hml, hown, hts, hK, hlk, hR, hSX, hB⟩ := C
  intro r hr H locs ls hP hS hl
  exact lv_goto hx hb hdg ht (kk r hr H locs ls hP hS hl)
theorem e_ifnull (C : CX κ ω cc nL d own) {x : Nat} {off : Int} (hdg : decode cc pc = .ok (.ifnull off, 3)) (hq : pc + 3 = q) (kk : EE κ ω nL G X I q lv st) : EE κ ω nL G X I pc lv (.ref x :: st) := by
  obtain ⟨p, l, e, R, s, m, args, below, meth, c⟩ := κ
  obtain ⟨hx, hb, hml, hown, hts, hK, hlk, hR, hSX, hB⟩ := C
  intro r hr H locs ls hP hS hl
  subst hq
  exact lv_ifnull hx hb hdg (kk r hr H locs ls hP hS hl)
theorem e_ifnullN (C : CX κ ω cc nL d own) {off : Int} {tgt : Nat} (hdg : decode cc pc = .ok (.ifnull off, 3)) (ht : (pc : Int) + off = (tgt : Int)) (kk : EE κ ω nL G X I tgt lv st) : EE κ ω nL G X I pc lv (.null :: st) := by
  obtain ⟨p, l, e, R, s, m, args, below, meth, c⟩ := κ
  obtain ⟨hx, hb, hml, hown, hts, hK, hlk, hR, hSX, hB⟩ := C
  intro r hr H locs ls hP hS hl
  exact lv_ifnullN hx hb hdg ht (kk r hr H locs ls hP hS hl)
theorem e_if {P : Prop} [Decidable P] (kt : P → EE κ ω nL G A I pc lv st) (kf : ¬ P → EE κ ω nL G B I pc lv st) : EE κ ω nL G (if P then A else B) I pc lv st := by
  intro r hr
  by_cases h : P
  · rw [if_pos h] at hr
    exact kt h r hr
  · rw [if_neg h] at hr
    exact kf h r hr
theorem e_none : EE κ ω nL G none I pc lv st := fun _ hr => nomatch hr
theorem e_grd {P : Prop} [Decidable P] (kt : P → EE κ ω nL G A I pc lv st) : EE κ ω nL G (if P then A else none) I pc lv st := e_if kt (fun _ => e_none)
theorem e_grdn {P : Prop} [Decidable P] (kf : ¬ P → EE κ ω nL G A I pc lv st) : EE κ ω nL G (if P then none else A) I pc lv st := e_if (fun _ => e_none) kf
theorem e_eq (h : X = A) (k : EE κ ω nL G A I pc lv st) : EE κ ω nL G X I pc lv st := h ▸ k

theorem e_lv {lv1 : List (Nat × Value)} (ks : List Nat) (hv : lv_pick lv ks = lv1) (kk : EE κ ω nL G X I pc lv1 st) : EE κ ω nL G X I pc lv st := by
  obtain ⟨p, l, e, R, s, m, args, below, meth, c⟩ := κ
  intro r hr H locs ls hP hS hl
  exact kk r hr H locs ls hP hS (lv_sub hl ks hv)
def inb (i : Int32) (n : Nat) : Bool := decide (0 ≤ i.toInt ∧ i.toInt < n)
theorem inb_iff {i : Int32} {n : Nat} : inb i n = true ↔ vp_in i n := by rw [vp_in_iff, inb, decide_eq_true_iff]
theorem e_tabIn (C : CX κ ω cc nL d own) {dflt lo hi : Int} {offs : Array Int} {len : Nat} {x : Int32} {v off : Int} {tgt : Nat} (hdg : decode cc pc = .ok (.tableswitch dflt lo hi offs, len)) (hv : x.toInt = v) (h1 : lo ≤ v ∧ v ≤ hi) (ho : offs[(v - lo).toNat]? = some off) (ht : (pc : Int) + off = (tgt : Int)) (kk : EE κ ω nL G X I tgt lv st) : EE κ ω nL G X I pc lv (.int x :: st) := by
  obtain ⟨p, l, e, R, s, m, args, below, meth, c⟩ := κ
  obtain ⟨hx, hb, hml, hown, hts, hK, hlk, hR, hSX, hB⟩ := C
  intro r hr H locs ls hP hS hl
  subst hv
  exact lv_tableIn hx hb hdg (by omega) (by omega) ho ht (kk r hr H locs ls hP hS hl)
theorem e_tabOut (C : CX κ ω cc nL d own) {dflt lo hi : Int} {offs : Array Int} {len : Nat} {x : Int32} {tgt : Nat} (hdg : decode cc pc = .ok (.tableswitch dflt lo hi offs, len)) (h : x.toInt < lo ∨ hi < x.toInt) (ht : (pc : Int) + dflt = (tgt : Int)) (kk : EE κ ω nL G X I tgt lv st) : EE κ ω nL G X I pc lv (.int x :: st) := by
  obtain ⟨p, l, e, R, s, m, args, below, meth, c⟩ := κ
  obtain ⟨hx, hb, hml, hown, hts, hK, hlk, hR, hSX, hB⟩ := C
  intro r hr H locs ls hP hS hl
  exact lv_tableOut hx hb hdg h ht (kk r hr H locs ls hP hS hl)
theorem i32_ne {x y : Int32} (h : ¬ x = y) : x.toInt ≠ y.toInt := fun h2 => h (Int32.toInt_inj.mp h2)
theorem e_getf (C : CX κ ω cc nL d own) {ix ci N j k : Nat} {Cn : String} {T : u_T} {fs : List Value} {v : Value} (hdg : decode cc pc = .ok (.getfield ix, 3)) (hk : k < oN ω) (he : cellK ω k (I k) = .inr (ci, fs)) (hc : vwCl[ci]? = some (Cn, T, N)) (hj : j < N) (hin : ∀ w ∈ u_ws Cn T N, w ∈ TT) (hw : Cond.fieldLink own ix (T j).1 (T j).2.1 (T j).2.2.1 ∈ TT) (hv : fs[j]? = some v) (hq : pc + 3 = q) (kk : EE κ ω nL G X I q lv (v :: st)) : EE κ ω nL G X I pc lv (.ref (oA ω k) :: st) := by
  obtain ⟨p, l, e, R, s, m, args, below, meth, c⟩ := κ
  obtain ⟨hx, hb, hml, hown, hts, hK, hlk, hR, hSX, hB⟩ := C
  intro r hr H locs ls hP hS hl
  subst hq
  exact va_get (D := oD ω) hx hb hts hin hown hK hP.1 k ((WL_get hk).trans (congrArg (fun z => some (oA ω k, z)) he)) hc j hj (hts _ hw) (fun _ h => h) hv hdg (kk r hr H locs ls hP hS hl)
theorem e_putf (C : CX κ ω cc nL d own) {ix ci N j k : Nat} {x : Int32} {Cn : String} {T : u_T} {ty0 : Nat → FieldType} {fs : List Value} (hdg : decode cc pc = .ok (.putfield ix, 3)) (hk : k < oN ω) (he : cellK ω k (I k) = .inr (ci, fs)) (hc : vwCl[ci]? = some (Cn, T, N)) (hj : j < N) (hin : ∀ w ∈ u_ws Cn T N, w ∈ TT) (hw : Cond.fieldLink own ix (T j).1 (T j).2.1 (T j).2.2.1 ∈ TT) (hty : ∀ k, k < N → parseFieldDescriptor (T k).2.2.1 = some (ty0 k)) (hnm : ∀ a, a < N → ∀ b, b < N → a ≠ b → (T a).2.1 ≠ (T b).2.1) (hfin : (T j).2.2.2 = false) (hn : narrow (ty0 j) (.int x) = .int x) (hfit : fits (ty0 j) (.int x) = true) (hl0 : j < fs.length) (hset : Sum.inr (ci, fs.set j (.int x)) = cellK ω k (upd (I k) j x)) (hq : pc + 3 = q) (kk : EE κ ω nL G X (wr I k j x) q lv st) : EE κ ω nL G X I pc lv (.int x :: .ref (oA ω k) :: st) := by
  obtain ⟨p, l, e, R, s, m, args, below, meth, c⟩ := κ
  obtain ⟨hx, hb, hml, hown, hts, hK, hlk, hR, hSX, hB⟩ := C
  intro r hr H locs ls hP hS hl
  subst hq
  refine va_put (D := oD ω) hx hb hts hin ty0 hty hnm hown hK hP.1 hP.2 hS k ((WL_get hk).trans (congrArg (fun z => some (oA ω k, z)) he)) hc j hj (hts _ hw) (fun _ h => h) hfin (hty j hj) hn hfit hl0 hdg (fun H1 locs1 hP1 hD1 hS1 => ?_)
  rw [WL_set hset] at hP1 hD1
  exact kk r hr H1 locs1 ls ⟨hP1, hD1⟩ hS1 hl
theorem e_putr (C : CX κ ω cc nL d own) {ix ci N j k : Nat} {x : Int32} {a : Nat} {Cn : String} {T : u_T} {ty0 : Nat → FieldType} {fs : List Value} (hdg : decode cc pc = .ok (.putfield ix, 3)) (hk : k < oN ω) (he : cellK ω k (I k) = .inr (ci, fs)) (hc : vwCl[ci]? = some (Cn, T, N)) (hj : j < N) (hin : ∀ w ∈ u_ws Cn T N, w ∈ TT) (hw : Cond.fieldLink own ix (T j).1 (T j).2.1 (T j).2.2.1 ∈ TT) (hty : ∀ k, k < N → parseFieldDescriptor (T k).2.2.1 = some (ty0 k)) (hnm : ∀ a, a < N → ∀ b, b < N → a ≠ b → (T a).2.1 ≠ (T b).2.1) (hfin : (T j).2.2.2 = false) (hn : narrow (ty0 j) (.ref a) = .ref a) (hfit : fits (ty0 j) (.ref a) = true) (hl0 : j < fs.length) (hset : Sum.inr (ci, fs.set j (.ref a)) = cellK ω k (upd (I k) j x)) (hq : pc + 3 = q) (kk : EE κ ω nL G X (wr I k j x) q lv st) : EE κ ω nL G X I pc lv (.ref a :: .ref (oA ω k) :: st) := by
  obtain ⟨p, l, e, R, s, m, args, below, meth, c⟩ := κ
  obtain ⟨hx, hb, hml, hown, hts, hK, hlk, hR, hSX, hB⟩ := C
  intro r hr H locs ls hP hS hl
  subst hq
  refine va_put (D := oD ω) hx hb hts hin ty0 hty hnm hown hK hP.1 hP.2 hS k ((WL_get hk).trans (congrArg (fun z => some (oA ω k, z)) he)) hc j hj (hts _ hw) (fun _ h => h) hfin (hty j hj) hn hfit hl0 hdg (fun H1 locs1 hP1 hD1 hS1 => ?_)
  rw [WL_set hset] at hP1 hD1
  exact kk r hr H1 locs1 ls ⟨hP1, hD1⟩ hS1 hl
theorem e_iald (C : CX κ ω cc nL d own) {k n : Nat} {i : Int32} (hdg : decode cc pc = .ok (.iaload, 1)) (hk : k < oN ω) (he : cellK ω k (I k) = .inl (oI ω, n, .inl (I k))) (hq : pc + 1 = q) (kk : EE κ ω nL G X I q lv (.int (I k i.toNatClampNeg) :: st)) : EE κ ω nL G (if inb i n = true then X else none) I pc lv (.int i :: .ref (oA ω k) :: st) := by
  refine e_grd (fun hi => ?_)
  obtain ⟨p, l, e, R, s, m, args, below, meth, c⟩ := κ
  obtain ⟨hx, hb, hml, hown, hts, hK, hlk, hR, hSX, hB⟩ := C
  intro r hr H locs ls hP hS hl
  subst hq
  exact va_iald hx hb hK hP.1 k 0 ((WL_get hk).trans (congrArg (fun z => some (oA ω k, z)) he)) rfl (inb_iff.mp hi) hdg (kk r hr H locs ls hP hS hl)
theorem e_iast (C : CX κ ω cc nL d own) {k n : Nat} {i x : Int32} (hdg : decode cc pc = .ok (.iastore, 1)) (hk : k < oN ω) (he : ∀ f, cellK ω k f = .inl (oI ω, n, .inl f)) (hq : pc + 1 = q) (kk : EE κ ω nL G X (wr I k i.toNatClampNeg x) q lv st) : EE κ ω nL G (if inb i n = true then X else none) I pc lv (.int x :: .int i :: .ref (oA ω k) :: st) := by
  refine e_grd (fun hi => ?_)
  obtain ⟨p, l, e, R, s, m, args, below, meth, c⟩ := κ
  obtain ⟨hx, hb, hml, hown, hts, hK, hlk, hR, hSX, hB⟩ := C
  intro r hr H locs ls hP hS hl
  subst hq
  refine va_iast hx hb hK hP.1 hP.2 hS k 0 ((WL_get hk).trans (congrArg (fun z => some (oA ω k, z)) (he _))) rfl (inb_iff.mp hi) hdg (fun H1 locs1 hP1 hD1 hS1 => ?_)
  rw [WL_set (he _).symm] at hP1 hD1
  exact kk r hr H1 locs1 ls ⟨hP1, hD1⟩ hS1 hl
theorem e_alen (C : CX κ ω cc nL d own) {k n : Nat} {f : Nat → Int32} {v : Int32} (hdg : decode cc pc = .ok (.arraylength, 1)) (hk : k < oN ω) (he : cellK ω k (I k) = .inl (oI ω, n, .inl f)) (hv : Int32.ofNat n = v) (hq : pc + 1 = q) (kk : EE κ ω nL G X I q lv (.int v :: st)) : EE κ ω nL G X I pc lv (.ref (oA ω k) :: st) := by
  obtain ⟨p, l, e, R, s, m, args, below, meth, c⟩ := κ
  obtain ⟨hx, hb, hml, hown, hts, hK, hlk, hR, hSX, hB⟩ := C
  intro r hr H locs ls hP hS hl
  subst hq
  exact va_alen hx hb hK hP.1 k 0 ((WL_get hk).trans (congrArg (fun z => some (oA ω k, z)) he)) (ty := .int) rfl hv hdg (kk r hr H locs ls hP hS hl)
theorem e_aldT (C : CX κ ω cc nL d own) {i : Int32} (hN : 56 ≤ oN ω) (hdg : decode cc pc = .ok (.aaload, 1)) (hq : pc + 1 = q) (kk : EE κ ω nL G X I q lv (.ref (oA ω (30 + 3 * i.toNatClampNeg)) :: st)) : EE κ ω nL G (if inb i 6 = true then X else none) I pc lv (.int i :: .ref (oA ω 1) :: st) := by
  refine e_grd (fun hi => ?_)
  obtain ⟨p, l, e, R, s, m, args, below, meth, c⟩ := κ
  obtain ⟨hx, hb, hml, hown, hts, hK, hlk, hR, hSX, hB⟩ := C
  intro r hr H locs ls hP hS hl
  subst hq
  exact va_aldq (f := fun i => some (oA ω (30 + 3 * i))) hx hb hK hP.1 1 2 ((WL_get (by omega)).trans rfl) rfl (inb_iff.mp hi) hdg (kk r hr H locs ls hP hS hl)
theorem e_aldS (C : CX κ ω cc nL d own) {i : Int32} (hN : 56 ≤ oN ω) (hdg : decode cc pc = .ok (.aaload, 1)) (hq : pc + 1 = q) (kk : EE κ ω nL G X I q lv (.ref (oA ω (48 + 2 * i.toNatClampNeg)) :: st)) : EE κ ω nL G (if inb i 4 = true then X else none) I pc lv (.int i :: .ref (oA ω 28) :: st) := by
  refine e_grd (fun hi => ?_)
  obtain ⟨p, l, e, R, s, m, args, below, meth, c⟩ := κ
  obtain ⟨hx, hb, hml, hown, hts, hK, hlk, hR, hSX, hB⟩ := C
  intro r hr H locs ls hP hS hl
  subst hq
  exact va_aldq (f := fun i => some (oA ω (48 + 2 * i))) hx hb hK hP.1 28 1 ((WL_get (by omega)).trans rfl) rfl (inb_iff.mp hi) hdg (kk r hr H locs ls hP hS hl)
theorem e_ireturn (C : CX κ ω cc nL d own) {v : Int32} {ty : FieldType} (hdg : decode cc pc = .ok (.ireturn, 1)) (hret : κ.2.2.2.2.2.2.2.2.1.sig.returnType = some ty) (hn : narrow ty (.int v) = .int v) : EE κ ω nL (Gi κ ω) (some (v, I)) I pc lv [.int v] := by
  obtain ⟨p, l, e, R, s, m, args, below, meth, c⟩ := κ
  obtain ⟨hx, hb, hml, hown, hts, hK, hlk, hR, hSX, hB⟩ := C
  intro r hr H locs ls hP hS hl
  cases hr
  exact W.zret hx hb hret hn (fun t ht hW => ⟨⟨v, (), rfl, rfl, show HP ω I t.heap by rw [ht]; exact hP⟩, hS.F ht⟩) hS.2.2 hdg hlk
theorem e_ireturn_t (C : CX κ ω cc nL d own) {v : Int32} {ty : FieldType} (hdg : decode cc pc = .ok (.ireturn, 1)) (hret : κ.2.2.2.2.2.2.2.2.1.sig.returnType = some ty) (hn0 : narrow ty (.int 0) = .int 0) (hn1 : narrow ty (.int 1) = .int 1) : EE κ ω nL (Gi κ ω) (if v = 0 then some (v, I) else if v = 1 then some (v, I) else none) I pc lv [.int v] := by
  refine e_if (fun h => ?_) (fun _ => e_grd (fun h => ?_))
  · exact e_ireturn C hdg hret (by rw [h]; exact hn0)
  · exact e_ireturn C hdg hret (by rw [h]; exact hn1)
theorem e_lreturn (C : CX κ ω cc nL d own) {v : Int64} (hdg : decode cc pc = .ok (.lreturn, 1)) (hret : κ.2.2.2.2.2.2.2.2.1.sig.returnType = some .long) : EE κ ω nL (Gl κ ω) (some (v, I)) I pc lv [.long v] := by
  obtain ⟨p, l, e, R, s, m, args, below, meth, c⟩ := κ
  obtain ⟨hx, hb, hml, hown, hts, hK, hlk, hR, hSX, hB⟩ := C
  intro r hr H locs ls hP hS hl
  cases hr
  exact W.lret hx hb hret (fun t ht hW => ⟨⟨v, (), rfl, rfl, show HP ω I t.heap by rw [ht]; exact hP⟩, hS.F ht⟩) hS.2.2 hdg hlk
theorem e_vreturn (C : CX κ ω cc nL d own) (hdg : decode cc pc = .ok (.return_, 1)) (hret : κ.2.2.2.2.2.2.2.2.1.sig.returnType = none) : EE κ ω nL (Gv κ ω) (some ((), I)) I pc lv [] := by
  obtain ⟨p, l, e, R, s, m, args, below, meth, c⟩ := κ
  obtain ⟨hx, hb, hml, hown, hts, hK, hlk, hR, hSX, hB⟩ := C
  intro r hr H locs ls hP hS hl
  cases hr
  exact W.vret hx hb hret (fun t ht hW => ⟨⟨(), rfl, trivial, show HP ω I t.heap by rw [ht]; exact hP⟩, hS.F ht⟩) hS.2.2 hdg hlk
theorem e_areturn (C : CX κ ω cc nL d own) {v : Option Nat} {w : Value} {ty : FieldType} (hdg : decode cc pc = .ok (.areturn, 1)) (hret : κ.2.2.2.2.2.2.2.2.1.sig.returnType = some (.array ty)) (hw : w = va_rf (v.map (oA ω))) : EE κ ω nL (Gq κ ω) (some (v, I)) I pc lv [w] := by
  obtain ⟨p, l, e, R, s, m, args, below, meth, c⟩ := κ
  obtain ⟨hx, hb, hml, hown, hts, hK, hlk, hR, hSX, hB⟩ := C
  intro r hr H locs ls hP hS hl
  cases hr
  subst hw
  exact W.aret hx hb hret (Or.inr ⟨_, rfl⟩) (va_rf_or _) (fun t ht hW => ⟨⟨v.map (oA ω), (), rfl, rfl, show HP ω I t.heap by rw [ht]; exact hP⟩, hS.F ht⟩) hS.2.2 hdg hlk
theorem in_ws0 {y : MethodName} {b : ByteArray} {maxL : Nat} {ret : Option FieldType} (h4 : Cond.code y b maxL ret ∈ TT) : ∀ w ∈ Cond.code y b maxL ret :: TT, w ∈ TT := by
  intro w h
  rcases List.mem_cons.mp h with rfl | h
  · exact h4
  · exact h
theorem in_wsS {own : String} {ix : Nat} {y : MethodName} {b : ByteArray} {maxL : Nat} {ret : Option FieldType} (h1 : Cond.methodLink own ix y ∈ TT) (h2 : Cond.static y ∈ TT) (h3 : Cond.initialized y.cls ∈ TT) (h4 : Cond.code y b maxL ret ∈ TT) : ∀ w ∈ va_wsS own ix y (Cond.code y b maxL ret :: TT), w ∈ TT := by
  intro w h
  rcases List.mem_append.mp h with h | h
  · simp only [List.mem_cons, List.not_mem_nil, or_false] at h
    rcases h with rfl | rfl | rfl <;> assumption
  · exact in_ws0 h4 w h
theorem in_wsV {own : String} {ix : Nat} {C : String} {y : MethodName} {b : ByteArray} {maxL : Nat} {ret : Option FieldType} (h1 : Cond.methodLink own ix y ∈ TT) (h2 : Cond.instanceMethod y ∈ TT) (h5 : Cond.selects C y y ∈ TT) (h3 : Cond.initialized C ∈ TT) (h4 : Cond.code y b maxL ret ∈ TT) : ∀ w ∈ wsV own ix C y (Cond.code y b maxL ret :: TT), w ∈ TT := by
  intro w h
  rcases List.mem_append.mp h with h | h
  · simp only [List.mem_cons, List.not_mem_nil, or_false] at h
    rcases h with rfl | rfl | rfl | rfl <;> assumption
  · exact in_ws0 h4 w h
theorem e_callSi (C : CX κ ω cc nL d own) {l : Launch} {y : MethodName} {b : ByteArray} {maxL d' ix : Nat} {ret : Option FieldType} {av sin : List Value} {x : Option (Int32 × Mem)} {f : Int32 → Mem → Option (α × Mem)} (hlau : κ.2.1 = l) (hC : CTi l ω y b maxL ret d' av x I) (hdg : decode cc pc = .ok (.invokestatic ix, 3)) (hw1 : Cond.methodLink own ix y ∈ TT) (hw2 : Cond.static y ∈ TT) (hw3 : Cond.initialized y.cls ∈ TT) (hw4 : Cond.code y b maxL ret ∈ TT) (hdsc : y.cls ≠ "java/lang/invoke/MethodHandle" ∧ y.cls ≠ "java/lang/invoke/VarHandle" ∧ (parseMethodDescriptor y.desc).map (fun d => d.parameters.length) = some av.length) (hd : d' < d) (hmx : maxL ≤ 45) (hst : av.reverse ++ st = sin) (hroom : (st.map fun v => v.category).sum ≤ 8) (hq : pc + 3 = q) (kk : ∀ (v : Int32) (J : Mem), EE κ ω nL G (f v J) J q lv (.int v :: st)) : EE κ ω nL G (bnd x f) I pc lv sin := by
  obtain ⟨p, l, e, R, s, m, args, below, meth, c⟩ := κ
  obtain ⟨hx, hb, hml, hown, hts, hK, hlk, hR, hSX, hB⟩ := C
  intro r hr
  subst hst
  subst hq
  dsimp only at hlau
  subst hlau
  subst hR
  obtain ⟨z, hz, hr⟩ := Option.bind_eq_some_iff.mp hr
  intro H locs ls hP hS hl
  refine va_calli (va_runS (As := av) (rest := st) ⟨hx, hb, hml, hown, hts⟩ (hC z hz) (va_cwS av.length hts (TT_good (in_wsS hw1 hw2 hw3 hw4) (fun w h => h)) rfl rfl rfl hdsc ⟨by show d' + 1 ≤ d; omega, by show 8 + (maxL + 11) + 64 * d' ≤ 64 * d; omega⟩) ⟨WD.blind, fun U hU hW => ⟨rfl, by rw [hU]; exact hP, va_K.moved hW.alike hK, by rw [hU]; exact SX.go hW hS hSX, by rw [hU]; exact Nat.le_trans hB hS.1⟩⟩ rfl rfl hl.1 rfl (lv_room hroom) hdg ⟨Nat.le_refl 0, Nat.le_refl 0⟩) hS (fun q _ h => h) (fun q h => h) (fun u1 u t H1 locs1 ht hvm hw hB hz1 hk1 hS1 => ?_)
  obtain ⟨v, J⟩ := z
  subst ht
  cases hw
  exact kk v J r hr t.heap locs1 ls hB hS1 hl
theorem e_callVi (C : CX κ ω cc nL d own) {k ci N : Nat} {T : u_T} {fs : List Value} {l : Launch} {y : MethodName} {b : ByteArray} {maxL d' ix : Nat} {ret : Option FieldType} {av sin : List Value} {x : Option (Int32 × Mem)} {f : Int32 → Mem → Option (α × Mem)} (hlau : κ.2.1 = l) (hC : CTi l ω y b maxL ret d' (.ref (oA ω k) :: av) x I) (hdg : decode cc pc = .ok (.invokevirtual ix, 3)) (hw1 : Cond.methodLink own ix y ∈ TT) (hw2 : Cond.instanceMethod y ∈ TT) (hw5 : Cond.selects y.cls y y ∈ TT) (hw3 : Cond.initialized y.cls ∈ TT) (hw4 : Cond.code y b maxL ret ∈ TT) (hdsc : y.cls ≠ "java/lang/invoke/MethodHandle" ∧ y.cls ≠ "java/lang/invoke/VarHandle" ∧ (parseMethodDescriptor y.desc).map (fun d => d.parameters.length) = some av.length) (hd : d' < d) (hmx : maxL ≤ 45) (hst : av.reverse ++ .ref (oA ω k) :: st = sin) (hkN : k < oN ω) (he : cellK ω k (I k) = .inr (ci, fs)) (hc : vwCl[ci]? = some (y.cls, T, N)) (hroom : (st.map fun v => v.category).sum ≤ 8) (hq : pc + 3 = q) (kk : ∀ (v : Int32) (J : Mem), EE κ ω nL G (f v J) J q lv (.int v :: st)) : EE κ ω nL G (bnd x f) I pc lv sin := by
  obtain ⟨p, l, e, R, s, m, args, below, meth, c⟩ := κ
  obtain ⟨hx, hb, hml, hown, hts, hK, hlk, hR, hSX, hB⟩ := C
  intro r hr
  subst hst
  subst hq
  dsimp only at hlau
  subst hlau
  subst hR
  obtain ⟨z, hz, hr⟩ := Option.bind_eq_some_iff.mp hr
  intro H locs ls hP hS hl
  refine va_calli (va_runV (C := y.cls) (As := av) (rest := st) ⟨hx, hb, hml, hown, hts⟩ (hC z hz) (cwV av.length hts (TT_good (in_wsV hw1 hw2 hw5 hw3 hw4) (fun w h => h)) rfl rfl rfl ⟨rfl, hdsc⟩ ⟨by show d' + 1 ≤ d; omega, by show 8 + (maxL + 11) + 64 * d' ≤ 64 * d; omega⟩) ⟨WD.blind, va_recv hK hP.1 hc ((WL_get hkN).trans (congrArg (fun z => some (oA ω k, z)) he)), fun U hU hW => ⟨rfl, by rw [hU]; exact hP, va_K.moved hW.alike hK, by rw [hU]; exact SX.go hW hS hSX, by rw [hU]; exact Nat.le_trans hB hS.1⟩⟩ rfl rfl hl.1 rfl (lv_room hroom) hdg ⟨Nat.le_refl 0, Nat.le_refl 0⟩) hS (fun q _ h => h) (fun q h => h) (fun u1 u t H1 locs1 ht hvm hw hB hz1 hk1 hS1 => ?_)
  obtain ⟨v, J⟩ := z
  subst ht
  cases hw
  exact kk v J r hr t.heap locs1 ls hB hS1 hl
theorem e_callNi (C : CX κ ω cc nL d own) {l : Launch} {y : MethodName} {b : ByteArray} {maxL d' ix : Nat} {ret : Option FieldType} {av sin : List Value} {x : Option (Int32 × Mem)} {f : Int32 → Mem → Option (α × Mem)} (hlau : κ.2.1 = l) (hC : CTi l ω y b maxL ret d' av x I) (hdg : decode cc pc = .ok (.invokestatic ix, 3)) (hw1 : y = ⟨"HatsInRing", "within", "(III)Z"⟩) (hw2 : Cond.static y ∈ TT) (hw9 : own = "HatsInRing$Kinds" ∧ ix = 9) (hw3 : Cond.initialized y.cls ∈ TT) (hw4 : Cond.code y b maxL ret ∈ TT) (hdsc : y.cls ≠ "java/lang/invoke/MethodHandle" ∧ y.cls ≠ "java/lang/invoke/VarHandle" ∧ (parseMethodDescriptor y.desc).map (fun d => d.parameters.length) = some av.length) (hd : d' < d) (hmx : maxL ≤ 45) (hst : av.reverse ++ st = sin) (hroom : (st.map fun v => v.category).sum ≤ 8) (hq : pc + 3 = q) (kk : ∀ (v : Int32) (J : Mem), EE κ ω nL G (f v J) J q lv (.int v :: st)) : EE κ ω nL G (bnd x f) I pc lv sin := by
  obtain ⟨p, l, e, R, s, m, args, below, meth, c⟩ := κ
  obtain ⟨hx, hb, hml, hown, hts, hK, hlk, hR, hSX, hB⟩ := C
  intro r hr
  subst hst
  subst hq
  dsimp only at hlau
  subst hlau
  subst hR
  obtain ⟨z, hz, hr⟩ := Option.bind_eq_some_iff.mp hr
  intro H locs ls hP hS hl
  refine va_calli (va_runSN (As := av) (rest := st) ⟨hx, hb, hml, hown, hts⟩ (hC z hz) ⟨va_cnB av.length hts (TT_good (in_ws0 hw4) (fun w h => h)) rfl rfl rfl (host := "HatsInRing") (by rw [hw1, hw9.1, hw9.2]; exact hSX.2.2.2.2.2) (hts _ hw3) hdsc ⟨by show d' + 1 ≤ d; omega, by show 8 + (maxL + 11) + 64 * d' ≤ 64 * d; omega⟩, hts _ hw2, trivial⟩ ⟨WD.blind, fun U hU hW => ⟨rfl, by rw [hU]; exact hP, va_K.moved hW.alike hK, by rw [hU]; exact SX.go hW hS hSX, by rw [hU]; exact Nat.le_trans hB hS.1⟩⟩ rfl rfl hl.1 rfl (lv_room hroom) hdg ⟨Nat.le_refl 0, Nat.le_refl 0⟩) hS (fun q _ h => h) (fun q h => h) (fun u1 u t H1 locs1 ht hvm hw hB hz1 hk1 hS1 => ?_)
  obtain ⟨v, J⟩ := z
  subst ht
  cases hw
  exact kk v J r hr t.heap locs1 ls hB hS1 hl
theorem e_callSl (C : CX κ ω cc nL d own) {l : Launch} {y : MethodName} {b : ByteArray} {maxL d' ix : Nat} {ret : Option FieldType} {av sin : List Value} {x : Option (Int64 × Mem)} {f : Int64 → Mem → Option (α × Mem)} (hlau : κ.2.1 = l) (hC : CTl l ω y b maxL ret d' av x I) (hdg : decode cc pc = .ok (.invokestatic ix, 3)) (hw1 : Cond.methodLink own ix y ∈ TT) (hw2 : Cond.static y ∈ TT) (hw3 : Cond.initialized y.cls ∈ TT) (hw4 : Cond.code y b maxL ret ∈ TT) (hdsc : y.cls ≠ "java/lang/invoke/MethodHandle" ∧ y.cls ≠ "java/lang/invoke/VarHandle" ∧ (parseMethodDescriptor y.desc).map (fun d => d.parameters.length) = some av.length) (hd : d' < d) (hmx : maxL ≤ 45) (hst : av.reverse ++ st = sin) (hroom : (st.map fun v => v.category).sum ≤ 8) (hq : pc + 3 = q) (kk : ∀ (v : Int64) (J : Mem), EE κ ω nL G (f v J) J q lv (.long v :: st)) : EE κ ω nL G (bnd x f) I pc lv sin := by
  obtain ⟨p, l, e, R, s, m, args, below, meth, c⟩ := κ
  obtain ⟨hx, hb, hml, hown, hts, hK, hlk, hR, hSX, hB⟩ := C
  intro r hr
  subst hst
  subst hq
  dsimp only at hlau
  subst hlau
  subst hR
  obtain ⟨z, hz, hr⟩ := Option.bind_eq_some_iff.mp hr
  intro H locs ls hP hS hl
  refine va_calll (va_runS (As := av) (rest := st) ⟨hx, hb, hml, hown, hts⟩ (hC z hz) (va_cwS av.length hts (TT_good (in_wsS hw1 hw2 hw3 hw4) (fun w h => h)) rfl rfl rfl hdsc ⟨by show d' + 1 ≤ d; omega, by show 8 + (maxL + 11) + 64 * d' ≤ 64 * d; omega⟩) ⟨WD.blind, fun U hU hW => ⟨rfl, by rw [hU]; exact hP, va_K.moved hW.alike hK, by rw [hU]; exact SX.go hW hS hSX, by rw [hU]; exact Nat.le_trans hB hS.1⟩⟩ rfl rfl hl.1 rfl (lv_room hroom) hdg ⟨Nat.le_refl 0, Nat.le_refl 0⟩) hS (fun q _ h => h) (fun q h => h) (fun u1 u t H1 locs1 ht hvm hw hB hz1 hk1 hS1 => ?_)
  obtain ⟨v, J⟩ := z
  subst ht
  cases hw
  exact kk v J r hr t.heap locs1 ls hB hS1 hl
theorem e_callVl (C : CX κ ω cc nL d own) {k ci N : Nat} {T : u_T} {fs : List Value} {l : Launch} {y : MethodName} {b : ByteArray} {maxL d' ix : Nat} {ret : Option FieldType} {av sin : List Value} {x : Option (Int64 × Mem)} {f : Int64 → Mem → Option (α × Mem)} (hlau : κ.2.1 = l) (hC : CTl l ω y b maxL ret d' (.ref (oA ω k) :: av) x I) (hdg : decode cc pc = .ok (.invokevirtual ix, 3)) (hw1 : Cond.methodLink own ix y ∈ TT) (hw2 : Cond.instanceMethod y ∈ TT) (hw5 : Cond.selects y.cls y y ∈ TT) (hw3 : Cond.initialized y.cls ∈ TT) (hw4 : Cond.code y b maxL ret ∈ TT) (hdsc : y.cls ≠ "java/lang/invoke/MethodHandle" ∧ y.cls ≠ "java/lang/invoke/VarHandle" ∧ (parseMethodDescriptor y.desc).map (fun d => d.parameters.length) = some av.length) (hd : d' < d) (hmx : maxL ≤ 45) (hst : av.reverse ++ .ref (oA ω k) :: st = sin) (hkN : k < oN ω) (he : cellK ω k (I k) = .inr (ci, fs)) (hc : vwCl[ci]? = some (y.cls, T, N)) (hroom : (st.map fun v => v.category).sum ≤ 8) (hq : pc + 3 = q) (kk : ∀ (v : Int64) (J : Mem), EE κ ω nL G (f v J) J q lv (.long v :: st)) : EE κ ω nL G (bnd x f) I pc lv sin := by
  obtain ⟨p, l, e, R, s, m, args, below, meth, c⟩ := κ
  obtain ⟨hx, hb, hml, hown, hts, hK, hlk, hR, hSX, hB⟩ := C
  intro r hr
  subst hst
  subst hq
  dsimp only at hlau
  subst hlau
  subst hR
  obtain ⟨z, hz, hr⟩ := Option.bind_eq_some_iff.mp hr
  intro H locs ls hP hS hl
  refine va_calll (va_runV (C := y.cls) (As := av) (rest := st) ⟨hx, hb, hml, hown, hts⟩ (hC z hz) (cwV av.length hts (TT_good (in_wsV hw1 hw2 hw5 hw3 hw4) (fun w h => h)) rfl rfl rfl ⟨rfl, hdsc⟩ ⟨by show d' + 1 ≤ d; omega, by show 8 + (maxL + 11) + 64 * d' ≤ 64 * d; omega⟩) ⟨WD.blind, va_recv hK hP.1 hc ((WL_get hkN).trans (congrArg (fun z => some (oA ω k, z)) he)), fun U hU hW => ⟨rfl, by rw [hU]; exact hP, va_K.moved hW.alike hK, by rw [hU]; exact SX.go hW hS hSX, by rw [hU]; exact Nat.le_trans hB hS.1⟩⟩ rfl rfl hl.1 rfl (lv_room hroom) hdg ⟨Nat.le_refl 0, Nat.le_refl 0⟩) hS (fun q _ h => h) (fun q h => h) (fun u1 u t H1 locs1 ht hvm hw hB hz1 hk1 hS1 => ?_)
  obtain ⟨v, J⟩ := z
  subst ht
  cases hw
  exact kk v J r hr t.heap locs1 ls hB hS1 hl
theorem e_callNl (C : CX κ ω cc nL d own) {l : Launch} {y : MethodName} {b : ByteArray} {maxL d' ix : Nat} {ret : Option FieldType} {av sin : List Value} {x : Option (Int64 × Mem)} {f : Int64 → Mem → Option (α × Mem)} (hlau : κ.2.1 = l) (hC : CTl l ω y b maxL ret d' av x I) (hdg : decode cc pc = .ok (.invokestatic ix, 3)) (hw1 : y = ⟨"HatsInRing", "within", "(III)Z"⟩) (hw2 : Cond.static y ∈ TT) (hw9 : own = "HatsInRing$Kinds" ∧ ix = 9) (hw3 : Cond.initialized y.cls ∈ TT) (hw4 : Cond.code y b maxL ret ∈ TT) (hdsc : y.cls ≠ "java/lang/invoke/MethodHandle" ∧ y.cls ≠ "java/lang/invoke/VarHandle" ∧ (parseMethodDescriptor y.desc).map (fun d => d.parameters.length) = some av.length) (hd : d' < d) (hmx : maxL ≤ 45) (hst : av.reverse ++ st = sin) (hroom : (st.map fun v => v.category).sum ≤ 8) (hq : pc + 3 = q) (kk : ∀ (v : Int64) (J : Mem), EE κ ω nL G (f v J) J q lv (.long v :: st)) : EE κ ω nL G (bnd x f) I pc lv sin := by
  obtain ⟨p, l, e, R, s, m, args, below, meth, c⟩ := κ
  obtain ⟨hx, hb, hml, hown, hts, hK, hlk, hR, hSX, hB⟩ := C
  intro r hr
  subst hst
  subst hq
  dsimp only at hlau
  subst hlau
  subst hR
  obtain ⟨z, hz, hr⟩ := Option.bind_eq_some_iff.mp hr
  intro H locs ls hP hS hl
  refine va_calll (va_runSN (As := av) (rest := st) ⟨hx, hb, hml, hown, hts⟩ (hC z hz) ⟨va_cnB av.length hts (TT_good (in_ws0 hw4) (fun w h => h)) rfl rfl rfl (host := "HatsInRing") (by rw [hw1, hw9.1, hw9.2]; exact hSX.2.2.2.2.2) (hts _ hw3) hdsc ⟨by show d' + 1 ≤ d; omega, by show 8 + (maxL + 11) + 64 * d' ≤ 64 * d; omega⟩, hts _ hw2, trivial⟩ ⟨WD.blind, fun U hU hW => ⟨rfl, by rw [hU]; exact hP, va_K.moved hW.alike hK, by rw [hU]; exact SX.go hW hS hSX, by rw [hU]; exact Nat.le_trans hB hS.1⟩⟩ rfl rfl hl.1 rfl (lv_room hroom) hdg ⟨Nat.le_refl 0, Nat.le_refl 0⟩) hS (fun q _ h => h) (fun q h => h) (fun u1 u t H1 locs1 ht hvm hw hB hz1 hk1 hS1 => ?_)
  obtain ⟨v, J⟩ := z
  subst ht
  cases hw
  exact kk v J r hr t.heap locs1 ls hB hS1 hl
theorem e_callSv (C : CX κ ω cc nL d own) {l : Launch} {y : MethodName} {b : ByteArray} {maxL d' ix : Nat} {ret : Option FieldType} {av sin : List Value} {x : Option (Unit × Mem)} {f : Unit → Mem → Option (α × Mem)} (hlau : κ.2.1 = l) (hC : CTv l ω y b maxL ret d' av x I) (hdg : decode cc pc = .ok (.invokestatic ix, 3)) (hw1 : Cond.methodLink own ix y ∈ TT) (hw2 : Cond.static y ∈ TT) (hw3 : Cond.initialized y.cls ∈ TT) (hw4 : Cond.code y b maxL ret ∈ TT) (hdsc : y.cls ≠ "java/lang/invoke/MethodHandle" ∧ y.cls ≠ "java/lang/invoke/VarHandle" ∧ (parseMethodDescriptor y.desc).map (fun d => d.parameters.length) = some av.length) (hd : d' < d) (hmx : maxL ≤ 45) (hst : av.reverse ++ st = sin) (hroom : (st.map fun v => v.category).sum ≤ 8) (hq : pc + 3 = q) (kk : ∀ (v : Unit) (J : Mem), EE κ ω nL G (f v J) J q lv (st)) : EE κ ω nL G (bnd x f) I pc lv sin := by
  obtain ⟨p, l, e, R, s, m, args, below, meth, c⟩ := κ
  obtain ⟨hx, hb, hml, hown, hts, hK, hlk, hR, hSX, hB⟩ := C
  intro r hr
  subst hst
  subst hq
  dsimp only at hlau
  subst hlau
  subst hR
  obtain ⟨z, hz, hr⟩ := Option.bind_eq_some_iff.mp hr
  intro H locs ls hP hS hl
  refine va_callv (va_runS (As := av) (rest := st) ⟨hx, hb, hml, hown, hts⟩ (hC z hz) (va_cwS av.length hts (TT_good (in_wsS hw1 hw2 hw3 hw4) (fun w h => h)) rfl rfl rfl hdsc ⟨by show d' + 1 ≤ d; omega, by show 8 + (maxL + 11) + 64 * d' ≤ 64 * d; omega⟩) ⟨WD.blind, fun U hU hW => ⟨rfl, by rw [hU]; exact hP, va_K.moved hW.alike hK, by rw [hU]; exact SX.go hW hS hSX, by rw [hU]; exact Nat.le_trans hB hS.1⟩⟩ rfl rfl hl.1 rfl (lv_room hroom) hdg ⟨Nat.le_refl 0, Nat.le_refl 0⟩) hS (fun q _ h => h) (fun q h => h) (fun u t H1 locs1 ht hvm hw hB hz1 hk1 hS1 => ?_)
  obtain ⟨v, J⟩ := z
  subst ht
  exact kk v J r hr t.heap locs1 ls hB hS1 hl
theorem e_callVv (C : CX κ ω cc nL d own) {k ci N : Nat} {T : u_T} {fs : List Value} {l : Launch} {y : MethodName} {b : ByteArray} {maxL d' ix : Nat} {ret : Option FieldType} {av sin : List Value} {x : Option (Unit × Mem)} {f : Unit → Mem → Option (α × Mem)} (hlau : κ.2.1 = l) (hC : CTv l ω y b maxL ret d' (.ref (oA ω k) :: av) x I) (hdg : decode cc pc = .ok (.invokevirtual ix, 3)) (hw1 : Cond.methodLink own ix y ∈ TT) (hw2 : Cond.instanceMethod y ∈ TT) (hw5 : Cond.selects y.cls y y ∈ TT) (hw3 : Cond.initialized y.cls ∈ TT) (hw4 : Cond.code y b maxL ret ∈ TT) (hdsc : y.cls ≠ "java/lang/invoke/MethodHandle" ∧ y.cls ≠ "java/lang/invoke/VarHandle" ∧ (parseMethodDescriptor y.desc).map (fun d => d.parameters.length) = some av.length) (hd : d' < d) (hmx : maxL ≤ 45) (hst : av.reverse ++ .ref (oA ω k) :: st = sin) (hkN : k < oN ω) (he : cellK ω k (I k) = .inr (ci, fs)) (hc : vwCl[ci]? = some (y.cls, T, N)) (hroom : (st.map fun v => v.category).sum ≤ 8) (hq : pc + 3 = q) (kk : ∀ (v : Unit) (J : Mem), EE κ ω nL G (f v J) J q lv (st)) : EE κ ω nL G (bnd x f) I pc lv sin := by
  obtain ⟨p, l, e, R, s, m, args, below, meth, c⟩ := κ
  obtain ⟨hx, hb, hml, hown, hts, hK, hlk, hR, hSX, hB⟩ := C
  intro r hr
  subst hst
  subst hq
  dsimp only at hlau
  subst hlau
  subst hR
  obtain ⟨z, hz, hr⟩ := Option.bind_eq_some_iff.mp hr
  intro H locs ls hP hS hl
  refine va_callv (va_runV (C := y.cls) (As := av) (rest := st) ⟨hx, hb, hml, hown, hts⟩ (hC z hz) (cwV av.length hts (TT_good (in_wsV hw1 hw2 hw5 hw3 hw4) (fun w h => h)) rfl rfl rfl ⟨rfl, hdsc⟩ ⟨by show d' + 1 ≤ d; omega, by show 8 + (maxL + 11) + 64 * d' ≤ 64 * d; omega⟩) ⟨WD.blind, va_recv hK hP.1 hc ((WL_get hkN).trans (congrArg (fun z => some (oA ω k, z)) he)), fun U hU hW => ⟨rfl, by rw [hU]; exact hP, va_K.moved hW.alike hK, by rw [hU]; exact SX.go hW hS hSX, by rw [hU]; exact Nat.le_trans hB hS.1⟩⟩ rfl rfl hl.1 rfl (lv_room hroom) hdg ⟨Nat.le_refl 0, Nat.le_refl 0⟩) hS (fun q _ h => h) (fun q h => h) (fun u t H1 locs1 ht hvm hw hB hz1 hk1 hS1 => ?_)
  obtain ⟨v, J⟩ := z
  subst ht
  exact kk v J r hr t.heap locs1 ls hB hS1 hl
theorem e_callNv (C : CX κ ω cc nL d own) {l : Launch} {y : MethodName} {b : ByteArray} {maxL d' ix : Nat} {ret : Option FieldType} {av sin : List Value} {x : Option (Unit × Mem)} {f : Unit → Mem → Option (α × Mem)} (hlau : κ.2.1 = l) (hC : CTv l ω y b maxL ret d' av x I) (hdg : decode cc pc = .ok (.invokestatic ix, 3)) (hw1 : y = ⟨"HatsInRing", "within", "(III)Z"⟩) (hw2 : Cond.static y ∈ TT) (hw9 : own = "HatsInRing$Kinds" ∧ ix = 9) (hw3 : Cond.initialized y.cls ∈ TT) (hw4 : Cond.code y b maxL ret ∈ TT) (hdsc : y.cls ≠ "java/lang/invoke/MethodHandle" ∧ y.cls ≠ "java/lang/invoke/VarHandle" ∧ (parseMethodDescriptor y.desc).map (fun d => d.parameters.length) = some av.length) (hd : d' < d) (hmx : maxL ≤ 45) (hst : av.reverse ++ st = sin) (hroom : (st.map fun v => v.category).sum ≤ 8) (hq : pc + 3 = q) (kk : ∀ (v : Unit) (J : Mem), EE κ ω nL G (f v J) J q lv (st)) : EE κ ω nL G (bnd x f) I pc lv sin := by
  obtain ⟨p, l, e, R, s, m, args, below, meth, c⟩ := κ
  obtain ⟨hx, hb, hml, hown, hts, hK, hlk, hR, hSX, hB⟩ := C
  intro r hr
  subst hst
  subst hq
  dsimp only at hlau
  subst hlau
  subst hR
  obtain ⟨z, hz, hr⟩ := Option.bind_eq_some_iff.mp hr
  intro H locs ls hP hS hl
  refine va_callv (va_runSN (As := av) (rest := st) ⟨hx, hb, hml, hown, hts⟩ (hC z hz) ⟨va_cnB av.length hts (TT_good (in_ws0 hw4) (fun w h => h)) rfl rfl rfl (host := "HatsInRing") (by rw [hw1, hw9.1, hw9.2]; exact hSX.2.2.2.2.2) (hts _ hw3) hdsc ⟨by show d' + 1 ≤ d; omega, by show 8 + (maxL + 11) + 64 * d' ≤ 64 * d; omega⟩, hts _ hw2, trivial⟩ ⟨WD.blind, fun U hU hW => ⟨rfl, by rw [hU]; exact hP, va_K.moved hW.alike hK, by rw [hU]; exact SX.go hW hS hSX, by rw [hU]; exact Nat.le_trans hB hS.1⟩⟩ rfl rfl hl.1 rfl (lv_room hroom) hdg ⟨Nat.le_refl 0, Nat.le_refl 0⟩) hS (fun q _ h => h) (fun q h => h) (fun u t H1 locs1 ht hvm hw hB hz1 hk1 hS1 => ?_)
  obtain ⟨v, J⟩ := z
  subst ht
  exact kk v J r hr t.heap locs1 ls hB hS1 hl
theorem e_callSq (C : CX κ ω cc nL d own) {l : Launch} {y : MethodName} {b : ByteArray} {maxL d' ix : Nat} {ret : Option FieldType} {av sin : List Value} {x : Option (Option Nat × Mem)} {f : Option Nat → Mem → Option (α × Mem)} (hlau : κ.2.1 = l) (hC : CTq l ω y b maxL ret d' av x I) (hdg : decode cc pc = .ok (.invokestatic ix, 3)) (hw1 : Cond.methodLink own ix y ∈ TT) (hw2 : Cond.static y ∈ TT) (hw3 : Cond.initialized y.cls ∈ TT) (hw4 : Cond.code y b maxL ret ∈ TT) (hdsc : y.cls ≠ "java/lang/invoke/MethodHandle" ∧ y.cls ≠ "java/lang/invoke/VarHandle" ∧ (parseMethodDescriptor y.desc).map (fun d => d.parameters.length) = some av.length) (hd : d' < d) (hmx : maxL ≤ 45) (hst : av.reverse ++ st = sin) (hroom : (st.map fun v => v.category).sum ≤ 8) (hq : pc + 3 = q) (kk : ∀ (v : Option Nat) (J : Mem), EE κ ω nL G (f v J) J q lv (va_rf (v.map (oA ω)) :: st)) : EE κ ω nL G (bnd x f) I pc lv sin := by
  obtain ⟨p, l, e, R, s, m, args, below, meth, c⟩ := κ
  obtain ⟨hx, hb, hml, hown, hts, hK, hlk, hR, hSX, hB⟩ := C
  intro r hr
  subst hst
  subst hq
  dsimp only at hlau
  subst hlau
  subst hR
  obtain ⟨z, hz, hr⟩ := Option.bind_eq_some_iff.mp hr
  intro H locs ls hP hS hl
  refine va_callq (va_runS (As := av) (rest := st) ⟨hx, hb, hml, hown, hts⟩ (hC z hz) (va_cwS av.length hts (TT_good (in_wsS hw1 hw2 hw3 hw4) (fun w h => h)) rfl rfl rfl hdsc ⟨by show d' + 1 ≤ d; omega, by show 8 + (maxL + 11) + 64 * d' ≤ 64 * d; omega⟩) ⟨WD.blind, fun U hU hW => ⟨rfl, by rw [hU]; exact hP, va_K.moved hW.alike hK, by rw [hU]; exact SX.go hW hS hSX, by rw [hU]; exact Nat.le_trans hB hS.1⟩⟩ rfl rfl hl.1 rfl (lv_room hroom) hdg ⟨Nat.le_refl 0, Nat.le_refl 0⟩) hS (fun q _ h => h) (fun q h => h) (fun u1 u t H1 locs1 ht hvm hw hB hz1 hk1 hS1 => ?_)
  obtain ⟨v, J⟩ := z
  subst ht
  cases hw
  exact kk v J r hr t.heap locs1 ls hB hS1 hl
theorem e_callVq (C : CX κ ω cc nL d own) {k ci N : Nat} {T : u_T} {fs : List Value} {l : Launch} {y : MethodName} {b : ByteArray} {maxL d' ix : Nat} {ret : Option FieldType} {av sin : List Value} {x : Option (Option Nat × Mem)} {f : Option Nat → Mem → Option (α × Mem)} (hlau : κ.2.1 = l) (hC : CTq l ω y b maxL ret d' (.ref (oA ω k) :: av) x I) (hdg : decode cc pc = .ok (.invokevirtual ix, 3)) (hw1 : Cond.methodLink own ix y ∈ TT) (hw2 : Cond.instanceMethod y ∈ TT) (hw5 : Cond.selects y.cls y y ∈ TT) (hw3 : Cond.initialized y.cls ∈ TT) (hw4 : Cond.code y b maxL ret ∈ TT) (hdsc : y.cls ≠ "java/lang/invoke/MethodHandle" ∧ y.cls ≠ "java/lang/invoke/VarHandle" ∧ (parseMethodDescriptor y.desc).map (fun d => d.parameters.length) = some av.length) (hd : d' < d) (hmx : maxL ≤ 45) (hst : av.reverse ++ .ref (oA ω k) :: st = sin) (hkN : k < oN ω) (he : cellK ω k (I k) = .inr (ci, fs)) (hc : vwCl[ci]? = some (y.cls, T, N)) (hroom : (st.map fun v => v.category).sum ≤ 8) (hq : pc + 3 = q) (kk : ∀ (v : Option Nat) (J : Mem), EE κ ω nL G (f v J) J q lv (va_rf (v.map (oA ω)) :: st)) : EE κ ω nL G (bnd x f) I pc lv sin := by
  obtain ⟨p, l, e, R, s, m, args, below, meth, c⟩ := κ
  obtain ⟨hx, hb, hml, hown, hts, hK, hlk, hR, hSX, hB⟩ := C
  intro r hr
  subst hst
  subst hq
  dsimp only at hlau
  subst hlau
  subst hR
  obtain ⟨z, hz, hr⟩ := Option.bind_eq_some_iff.mp hr
  intro H locs ls hP hS hl
  refine va_callq (va_runV (C := y.cls) (As := av) (rest := st) ⟨hx, hb, hml, hown, hts⟩ (hC z hz) (cwV av.length hts (TT_good (in_wsV hw1 hw2 hw5 hw3 hw4) (fun w h => h)) rfl rfl rfl ⟨rfl, hdsc⟩ ⟨by show d' + 1 ≤ d; omega, by show 8 + (maxL + 11) + 64 * d' ≤ 64 * d; omega⟩) ⟨WD.blind, va_recv hK hP.1 hc ((WL_get hkN).trans (congrArg (fun z => some (oA ω k, z)) he)), fun U hU hW => ⟨rfl, by rw [hU]; exact hP, va_K.moved hW.alike hK, by rw [hU]; exact SX.go hW hS hSX, by rw [hU]; exact Nat.le_trans hB hS.1⟩⟩ rfl rfl hl.1 rfl (lv_room hroom) hdg ⟨Nat.le_refl 0, Nat.le_refl 0⟩) hS (fun q _ h => h) (fun q h => h) (fun u1 u t H1 locs1 ht hvm hw hB hz1 hk1 hS1 => ?_)
  obtain ⟨v, J⟩ := z
  subst ht
  cases hw
  exact kk v J r hr t.heap locs1 ls hB hS1 hl
theorem e_callNq (C : CX κ ω cc nL d own) {l : Launch} {y : MethodName} {b : ByteArray} {maxL d' ix : Nat} {ret : Option FieldType} {av sin : List Value} {x : Option (Option Nat × Mem)} {f : Option Nat → Mem → Option (α × Mem)} (hlau : κ.2.1 = l) (hC : CTq l ω y b maxL ret d' av x I) (hdg : decode cc pc = .ok (.invokestatic ix, 3)) (hw1 : y = ⟨"HatsInRing", "within", "(III)Z"⟩) (hw2 : Cond.static y ∈ TT) (hw9 : own = "HatsInRing$Kinds" ∧ ix = 9) (hw3 : Cond.initialized y.cls ∈ TT) (hw4 : Cond.code y b maxL ret ∈ TT) (hdsc : y.cls ≠ "java/lang/invoke/MethodHandle" ∧ y.cls ≠ "java/lang/invoke/VarHandle" ∧ (parseMethodDescriptor y.desc).map (fun d => d.parameters.length) = some av.length) (hd : d' < d) (hmx : maxL ≤ 45) (hst : av.reverse ++ st = sin) (hroom : (st.map fun v => v.category).sum ≤ 8) (hq : pc + 3 = q) (kk : ∀ (v : Option Nat) (J : Mem), EE κ ω nL G (f v J) J q lv (va_rf (v.map (oA ω)) :: st)) : EE κ ω nL G (bnd x f) I pc lv sin := by
  obtain ⟨p, l, e, R, s, m, args, below, meth, c⟩ := κ
  obtain ⟨hx, hb, hml, hown, hts, hK, hlk, hR, hSX, hB⟩ := C
  intro r hr
  subst hst
  subst hq
  dsimp only at hlau
  subst hlau
  subst hR
  obtain ⟨z, hz, hr⟩ := Option.bind_eq_some_iff.mp hr
  intro H locs ls hP hS hl
  refine va_callq (va_runSN (As := av) (rest := st) ⟨hx, hb, hml, hown, hts⟩ (hC z hz) ⟨va_cnB av.length hts (TT_good (in_ws0 hw4) (fun w h => h)) rfl rfl rfl (host := "HatsInRing") (by rw [hw1, hw9.1, hw9.2]; exact hSX.2.2.2.2.2) (hts _ hw3) hdsc ⟨by show d' + 1 ≤ d; omega, by show 8 + (maxL + 11) + 64 * d' ≤ 64 * d; omega⟩, hts _ hw2, trivial⟩ ⟨WD.blind, fun U hU hW => ⟨rfl, by rw [hU]; exact hP, va_K.moved hW.alike hK, by rw [hU]; exact SX.go hW hS hSX, by rw [hU]; exact Nat.le_trans hB hS.1⟩⟩ rfl rfl hl.1 rfl (lv_room hroom) hdg ⟨Nat.le_refl 0, Nat.le_refl 0⟩) hS (fun q _ h => h) (fun q h => h) (fun u1 u t H1 locs1 ht hvm hw hB hz1 hk1 hS1 => ?_)
  obtain ⟨v, J⟩ := z
  subst ht
  cases hw
  exact kk v J r hr t.heap locs1 ls hB hS1 hl
theorem ct_i {l : Launch} {y : MethodName} {b : ByteArray} {maxL : Nat} {ret : Option FieldType} {av : List Value} {x : Option (Int32 × Mem)} (hy : plainName y.cls = true) (hlen : (lg_sl av).length ≤ maxL) (body : ∀ κ : Kx, κ.2.1 = l → κ.2.2.2.2.2.2.2.2.1.sig.returnType = ret → CX κ ω b maxL d y.cls → EE κ ω maxL (Gi κ ω) x I 0 (lv_args 0 av) []) : CTi l ω y b maxL ret d av x I := by
  intro z hz
  refine Met.ofW (cc := b) (maxL := maxL) (ret := ret) hy rfl ?_
  intro p e s m args below meth c s₁ B hml hv
  obtain ⟨rfl, hP, hK, hSX, hB⟩ := hv
  have hts := atoms_spec (ws := Cond.code y b maxL ret :: TT) B.pre
  have hl := lv_entry av (n := maxL) hlen
  rw [lg_entry_eq]
  exact body (p, l, e, RM d, s, m, av.toArray, below, meth, c) rfl B.returns ⟨B.exec, B.bytes, hml, findClass_of_methodNamed B.named, fun w h => hts w (List.mem_cons_of_mem _ h), hK, B.notSynchronized, rfl, hSX, hB⟩ z hz s.heap [] _ hP va_S.rf hl
theorem ct_l {l : Launch} {y : MethodName} {b : ByteArray} {maxL : Nat} {ret : Option FieldType} {av : List Value} {x : Option (Int64 × Mem)} (hy : plainName y.cls = true) (hlen : (lg_sl av).length ≤ maxL) (body : ∀ κ : Kx, κ.2.1 = l → κ.2.2.2.2.2.2.2.2.1.sig.returnType = ret → CX κ ω b maxL d y.cls → EE κ ω maxL (Gl κ ω) x I 0 (lv_args 0 av) []) : CTl l ω y b maxL ret d av x I := by
  intro z hz
  refine Met.ofW (cc := b) (maxL := maxL) (ret := ret) hy rfl ?_
  intro p e s m args below meth c s₁ B hml hv
  obtain ⟨rfl, hP, hK, hSX, hB⟩ := hv
  have hts := atoms_spec (ws := Cond.code y b maxL ret :: TT) B.pre
  have hl := lv_entry av (n := maxL) hlen
  rw [lg_entry_eq]
  exact body (p, l, e, RM d, s, m, av.toArray, below, meth, c) rfl B.returns ⟨B.exec, B.bytes, hml, findClass_of_methodNamed B.named, fun w h => hts w (List.mem_cons_of_mem _ h), hK, B.notSynchronized, rfl, hSX, hB⟩ z hz s.heap [] _ hP va_S.rf hl
theorem ct_v {l : Launch} {y : MethodName} {b : ByteArray} {maxL : Nat} {ret : Option FieldType} {av : List Value} {x : Option (Unit × Mem)} (hy : plainName y.cls = true) (hlen : (lg_sl av).length ≤ maxL) (body : ∀ κ : Kx, κ.2.1 = l → κ.2.2.2.2.2.2.2.2.1.sig.returnType = ret → CX κ ω b maxL d y.cls → EE κ ω maxL (Gv κ ω) x I 0 (lv_args 0 av) []) : CTv l ω y b maxL ret d av x I := by
  intro z hz
  refine Met.ofW (cc := b) (maxL := maxL) (ret := ret) hy rfl ?_
  intro p e s m args below meth c s₁ B hml hv
  obtain ⟨rfl, hP, hK, hSX, hB⟩ := hv
  have hts := atoms_spec (ws := Cond.code y b maxL ret :: TT) B.pre
  have hl := lv_entry av (n := maxL) hlen
  rw [lg_entry_eq]
  exact body (p, l, e, RM d, s, m, av.toArray, below, meth, c) rfl B.returns ⟨B.exec, B.bytes, hml, findClass_of_methodNamed B.named, fun w h => hts w (List.mem_cons_of_mem _ h), hK, B.notSynchronized, rfl, hSX, hB⟩ z hz s.heap [] _ hP va_S.rf hl
theorem ct_q {l : Launch} {y : MethodName} {b : ByteArray} {maxL : Nat} {ret : Option FieldType} {av : List Value} {x : Option (Option Nat × Mem)} (hy : plainName y.cls = true) (hlen : (lg_sl av).length ≤ maxL) (body : ∀ κ : Kx, κ.2.1 = l → κ.2.2.2.2.2.2.2.2.1.sig.returnType = ret → CX κ ω b maxL d y.cls → EE κ ω maxL (Gq κ ω) x I 0 (lv_args 0 av) []) : CTq l ω y b maxL ret d av x I := by
  intro z hz
  refine Met.ofW (cc := b) (maxL := maxL) (ret := ret) hy rfl ?_
  intro p e s m args below meth c s₁ B hml hv
  obtain ⟨rfl, hP, hK, hSX, hB⟩ := hv
  have hts := atoms_spec (ws := Cond.code y b maxL ret :: TT) B.pre
  have hl := lv_entry av (n := maxL) hlen
  rw [lg_entry_eq]
  exact body (p, l, e, RM d, s, m, av.toArray, below, meth, c) rfl B.returns ⟨B.exec, B.bytes, hml, findClass_of_methodNamed B.named, fun w h => hts w (List.mem_cons_of_mem _ h), hK, B.notSynchronized, rfl, hSX, hB⟩ z hz s.heap [] _ hP va_S.rf hl
end EErows
end
section
/-! ROWS 2: Math, arraycopy, the reader's references, the static row, cells of each kind, named values -/
def om {α : Type} (v : Option Nat) (a : α) (f : Nat → α) : α := match v with
  | none => a
  | some k => f k
/-- a place of a row of six ints (a ring's) -/
def okA (a : Nat) : Bool := decide (a < 56) && (layT.getD a (9, 0) == (6, 6))
def isArr (ω : Om) (a n : Nat) : Prop := a < oN ω ∧ ∀ f, cellK ω a f = .inl (oI ω, n, .inl f)
theorem isArr_okA {ω : Om} {a : Nat} (hn : 56 ≤ oN ω) (h : okA a = true) : isArr ω a 6 := by
  simp only [okA, Bool.and_eq_true, decide_eq_true_eq, beq_iff_eq] at h
  exact ⟨by omega, fun f => by simp only [cellK, h.2]⟩
theorem cOb_Rg {ω : Om} {ρ : Nat} (h : ρ < 3) (f : Nat → Int32) : cellK ω (2 + 8 * ρ) f = .inr (1, F_Rg ω (2 + 8 * ρ) f) := by
  rcases (show ρ = 0 ∨ ρ = 1 ∨ ρ = 2 by omega) with rfl | rfl | rfl <;> rfl
theorem cOb_Tx {ω : Om} {τ : Nat} (h : τ < 6) (f : Nat → Int32) : cellK ω (30 + 3 * τ) f = .inr (3, F_Tx ω (30 + 3 * τ) f) := by
  rcases (show τ = 0 ∨ τ = 1 ∨ τ = 2 ∨ τ = 3 ∨ τ = 4 ∨ τ = 5 by omega) with rfl | rfl | rfl | rfl | rfl | rfl <;> rfl
theorem cOb_Sh {ω : Om} {σ : Nat} (h : σ < 4) (f : Nat → Int32) : cellK ω (48 + 2 * σ) f = .inr (2, F_Sh ω (48 + 2 * σ) f) := by
  rcases (show σ = 0 ∨ σ = 1 ∨ σ = 2 ∨ σ = 3 by omega) with rfl | rfl | rfl | rfl <;> rfl
theorem cAr_Rg {ω : Om} {ρ : Nat} (h : ρ < 3) (j : Nat) (hj : 0 < j ∧ j < 7) (f : Nat → Int32) : cellK ω (2 + 8 * ρ + j) f = .inl (oI ω, 6, .inl f) := by
  rcases (show ρ = 0 ∨ ρ = 1 ∨ ρ = 2 by omega) with rfl | rfl | rfl <;> rcases (show j = 1 ∨ j = 2 ∨ j = 3 ∨ j = 4 ∨ j = 5 ∨ j = 6 by omega) with rfl | rfl | rfl | rfl | rfl | rfl <;> rfl
theorem cAr_Rg7 {ω : Om} {ρ : Nat} (h : ρ < 3) (f : Nat → Int32) : cellK ω (2 + 8 * ρ + 7) f = .inl (oI ω, 36, .inl f) := by
  rcases (show ρ = 0 ∨ ρ = 1 ∨ ρ = 2 by omega) with rfl | rfl | rfl <;> rfl
theorem cAr_Tx1 {ω : Om} {τ : Nat} (h : τ < 6) (f : Nat → Int32) : cellK ω (30 + 3 * τ + 1) f = .inl (oI ω, 160, .inl f) := by
  rcases (show τ = 0 ∨ τ = 1 ∨ τ = 2 ∨ τ = 3 ∨ τ = 4 ∨ τ = 5 by omega) with rfl | rfl | rfl | rfl | rfl | rfl <;> rfl
theorem cAr_Tx2 {ω : Om} {τ : Nat} (h : τ < 6) (f : Nat → Int32) : cellK ω (30 + 3 * τ + 2) f = .inl (oI ω, 3, .inl f) := by
  rcases (show τ = 0 ∨ τ = 1 ∨ τ = 2 ∨ τ = 3 ∨ τ = 4 ∨ τ = 5 by omega) with rfl | rfl | rfl | rfl | rfl | rfl <;> rfl
theorem cAr_Sh1 {ω : Om} {σ : Nat} (h : σ < 4) (f : Nat → Int32) : cellK ω (48 + 2 * σ + 1) f = .inl (oI ω, 40, .inl f) := by
  rcases (show σ = 0 ∨ σ = 1 ∨ σ = 2 ∨ σ = 3 by omega) with rfl | rfl | rfl | rfl <;> rfl
theorem rfo_into {ω : Om} {x : Int32} (h : inb (x - 1) 6 = true) : rfo ω x (fun i => 30 + 3 * i) = .ref (oA ω (30 + 3 * (x - 1).toNatClampNeg)) := by
  have h1 := inb_iff.mp h
  obtain ⟨j, hj, e⟩ := vp_in_of h1 (by decide)
  have e2 : x = nI (j + 1) := by rw [← nI_1, ← e]; exact (Int32.sub_add_cancel x 1).symm
  have e3 : ¬ x = 0 := by rw [e2]; exact nI_ne0 (by omega) (by omega)
  have e4 : x.toNatClampNeg = j + 1 := by rw [e2]; exact nI_clamp (by omega)
  have e5 : (x - 1).toNatClampNeg = j := by rw [e]; exact nI_clamp (by omega)
  rw [rfo, if_neg e3, e4, e5]
  rfl
theorem rfo_put {ω : Om} {τ : Nat} (h : τ < 6) : rfo ω (nI (τ + 1)) (fun i => 30 + 3 * i) = .ref (oA ω (30 + 3 * τ)) := by
  rcases (show τ = 0 ∨ τ = 1 ∨ τ = 2 ∨ τ = 3 ∨ τ = 4 ∨ τ = 5 by omega) with rfl | rfl | rfl | rfl | rfl | rfl <;> rfl
/-- what arraycopy lays -/
def cpM (I : Mem) (k0 k1 : Nat) (sp dp n : Int32) : Mem := fun k => if k = k1 then va_cpy (I k0) (I k1) sp.toNatClampNeg dp.toNatClampNeg n.toNatClampNeg else I k
def cpok (sp dp n : Int32) (n0 n1 : Nat) : Bool := decide (¬ sp < 0 ∧ ¬ dp < 0 ∧ ¬ n < 0 ∧ sp.toNatClampNeg + n.toNatClampNeg ≤ n0 ∧ dp.toNatClampNeg + n.toNatClampNeg ≤ n1)
theorem WL_cp {ω : Om} {I : Mem} {k0 k1 : Nat} {sp dp n : Int32} {e : va_E} (he : e = cellK ω k1 (va_cpy (I k0) (I k1) sp.toNatClampNeg dp.toNatClampNeg n.toNatClampNeg)) : (WL ω I).set k1 (oA ω k1, e) = WL ω (cpM I k0 k1 sp dp n) := by
  subst he
  apply List.ext_getElem?
  intro i
  rw [List.getElem?_set]
  by_cases hi : k1 = i
  · subst hi
    by_cases hk : k1 < oN ω
    · simp [WL, cpM, hk]
    · simp [WL, hk]
  · rw [if_neg hi]
    by_cases hk : i < oN ω
    · rw [WL_get hk, WL_get hk]
      simp [cpM, Ne.symm hi]
    · simp [WL, hk]
section EErows2
variable {κ : Kx} {ω : Om} {cc : ByteArray} {nL d : Nat} {own : String} {α : Type} {G : α × Mem → State → Prop} {X A B : Option (α × Mem)} {I : Mem} {pc q : Nat} {lv : List (Nat × Value)} {st : List Value}
theorem e_nmi {x : Int32} {f : Int32 → Option (α × Mem)} (kk : ∀ v : Int32, EE κ ω nL G (f v) I pc lv (.int v :: st)) : EE κ ω nL G (lt1 x f) I pc lv (.int x :: st) := kk x
theorem e_nml {x : Int64} {f : Int64 → Option (α × Mem)} (kk : ∀ v : Int64, EE κ ω nL G (f v) I pc lv (.long v :: st)) : EE κ ω nL G (lt1 x f) I pc lv (.long x :: st) := kk x
theorem e_om {v : Option Nat} {g : Nat → Option (α × Mem)} (kn : EE κ ω nL G A I pc lv (.null :: st)) (ks : ∀ a : Nat, okA a = true → EE κ ω nL G (g a) I pc lv (.ref (oA ω a) :: st)) : EE κ ω nL G (om v A (fun a => if okA a = true then g a else none)) I pc lv (va_rf (v.map (oA ω)) :: st) := by
  cases v with
  | none => exact kn
  | some a => exact e_grd (fun h => ks a h)
theorem e_mmax (C : CX κ ω cc nL d own) {ix : Nat} {x y : Int32} (hdg : decode cc pc = .ok (.invokestatic ix, 3)) (hw1 : Cond.methodLink own ix Lib.Math.max.name ∈ TT) (hw2 : Cond.static Lib.Math.max.name ∈ TT) (hw3 : Cond.initialized "java/lang/Math" ∈ TT) (hw4 : Cond.code Lib.Math.max.name Lib.Math.max.code 2 (some .int) ∈ TT) (hd : 1 ≤ d) (hroom : (st.map fun v => v.category).sum ≤ 8) (hq : pc + 3 = q) (kk : EE κ ω nL G X I q lv (.int (if x < y then y else x) :: st)) : EE κ ω nL G X I pc lv (.int y :: .int x :: st) := by
  obtain ⟨p, l, e, R, s, m, args, below, meth, c⟩ := κ
  obtain ⟨hx, hb, hml, hown, hts, hK, hlk, hR, hSX, hB⟩ := C
  intro r hr H locs ls hP hS hl
  subst hq
  subst hR
  exact va_mmax hx hb (hml.trans hl.1.symm) hown (hts _ hw1) (hts _ hw2) (hts _ hw3) (hts _ hw4) hd (by show _ ≤ 64 * d; omega) (Nat.zero_le _) (Nat.zero_le _) hdg (kk r hr H locs ls hP hS hl)
theorem e_mmin (C : CX κ ω cc nL d own) {ix : Nat} {x y : Int32} (hdg : decode cc pc = .ok (.invokestatic ix, 3)) (hw1 : Cond.methodLink own ix Lib.Math.min.name ∈ TT) (hw2 : Cond.static Lib.Math.min.name ∈ TT) (hw3 : Cond.initialized "java/lang/Math" ∈ TT) (hw4 : Cond.code Lib.Math.min.name Lib.Math.min.code 2 (some .int) ∈ TT) (hd : 1 ≤ d) (hroom : (st.map fun v => v.category).sum ≤ 8) (hq : pc + 3 = q) (kk : EE κ ω nL G X I q lv (.int (if y < x then y else x) :: st)) : EE κ ω nL G X I pc lv (.int y :: .int x :: st) := by
  obtain ⟨p, l, e, R, s, m, args, below, meth, c⟩ := κ
  obtain ⟨hx, hb, hml, hown, hts, hK, hlk, hR, hSX, hB⟩ := C
  intro r hr H locs ls hP hS hl
  subst hq
  subst hR
  exact va_mmin hx hb (hml.trans hl.1.symm) hown (hts _ hw1) (hts _ hw2) (hts _ hw3) (hts _ hw4) hd (by show _ ≤ 64 * d; omega) (Nat.zero_le _) (Nat.zero_le _) hdg (kk r hr H locs ls hP hS hl)
theorem e_mabs (C : CX κ ω cc nL d own) {ix : Nat} {x : Int32} (hdg : decode cc pc = .ok (.invokestatic ix, 3)) (hw1 : Cond.methodLink own ix Lib.Math.abs.name ∈ TT) (hw2 : Cond.static Lib.Math.abs.name ∈ TT) (hw3 : Cond.initialized "java/lang/Math" ∈ TT) (hw4 : Cond.code Lib.Math.abs.name Lib.Math.abs.code 1 (some .int) ∈ TT) (hd : 1 ≤ d) (hroom : (st.map fun v => v.category).sum ≤ 8) (hq : pc + 3 = q) (kk : EE κ ω nL G X I q lv (.int (if 0 ≤ x then x else 0 - x) :: st)) : EE κ ω nL G X I pc lv (.int x :: st) := by
  obtain ⟨p, l, e, R, s, m, args, below, meth, c⟩ := κ
  obtain ⟨hx, hb, hml, hown, hts, hK, hlk, hR, hSX, hB⟩ := C
  intro r hr H locs ls hP hS hl
  subst hq
  subst hR
  exact va_mabs hx hb (hml.trans hl.1.symm) hown (hts _ hw1) (hts _ hw2) (hts _ hw3) (hts _ hw4) hd (by show _ ≤ 64 * d; omega) (Nat.zero_le _) (Nat.zero_le _) hdg (kk r hr H locs ls hP hS hl)
theorem e_acopy (C : CX κ ω cc nL d own) {ix k0 k1 n0 n1 : Nat} {sp dp n : Int32} (hdg : decode cc pc = .ok (.invokestatic ix, 3)) (h0 : isArr ω k0 n0) (h1 : isArr ω k1 n1) (hw1 : Cond.methodLink own ix arraycopyName ∈ TT) (hw2 : Cond.native arraycopyName ∈ TT) (hw5 : Cond.static arraycopyName ∈ TT) (hw3 : Cond.initialized "java/lang/System" ∈ TT) (hd : 1 ≤ d) (hroom : (st.map fun v => v.category).sum ≤ 8) (hq : pc + 3 = q) (kk : EE κ ω nL G X (cpM I k0 k1 sp dp n) q lv st) : EE κ ω nL G (if cpok sp dp n n0 n1 = true then X else none) I pc lv (.int n :: .int dp :: .ref (oA ω k1) :: .int sp :: .ref (oA ω k0) :: st) := by
  refine e_grd (fun hi => ?_)
  obtain ⟨p, l, e, R, s, m, args, below, meth, c⟩ := κ
  obtain ⟨hx, hb, hml, hown, hts, hK, hlk, hR, hSX, hB⟩ := C
  intro r hr H locs ls hP hS hl
  subst hq
  subst hR
  obtain ⟨a1, a2, a3, a4, a5⟩ := of_decide_eq_true hi
  have h9 : nativeFrameWords "java/lang/System" "arraycopy" 5 + 11 ≤ 56 := by decide +kernel
  have h10 : (st.map fun v => v.category).sum + (nativeFrameWords "java/lang/System" "arraycopy" 5 + 11) ≤ (RM d).locals := by show _ ≤ 64 * d; omega
  refine va_copyi (ty := .int) hx hb (hml.trans hl.1.symm) hown (hts _ hw1) (hts _ hw2) (hts _ hw5) (hts _ hw3) hK hP.1 hP.2 hS k0 k1 0 0 ((WL_get h0.1).trans (congrArg (fun z => some (oA ω k0, z)) (h0.2 _))) ((WL_get h1.1).trans (congrArg (fun z => some (oA ω k1, z)) (h1.2 _))) rfl rfl rfl a1 a2 a3 a4 a5 (fun i hi => rfl) hd h10 hdg (fun H1 locs1 hP1 hD1 hS1 => ?_)
  rw [WL_cp (h1.2 _).symm] at hP1 hD1
  exact kk r hr H1 locs1 ls ⟨hP1, hD1⟩ hS1 hl
theorem e_bytes (C : CX κ ω cc nL d own) {ix : Nat} (hN : 56 ≤ oN ω) (hdg : decode cc pc = .ok (.getfield ix, 3)) (hin : ∀ w ∈ u_ws RX1 TX1 7, w ∈ TT) (hw : Cond.fieldLink own ix (TX1 0).1 (TX1 0).2.1 (TX1 0).2.2.1 ∈ TT) (hq : pc + 3 = q) (kk : EE κ ω nL G X I q lv (.ref (oA ω 27) :: st)) : EE κ ω nL G (if I 26 0 = 1 then X else none) I pc lv (.ref (oA ω 26) :: st) := by
  refine e_grd (fun hi => ?_)
  refine e_getf C (k := 26) (j := 0) (v := .ref (oA ω 27)) hdg (by omega) rfl rfl (by decide) hin hw ?_ hq kk
  show some (rfo ω (I 26 0) (fun _ => 27)) = _
  rw [hi]
  rfl
theorem e_into (C : CX κ ω cc nL d own) {ix : Nat} (hN : 56 ≤ oN ω) (hdg : decode cc pc = .ok (.getfield ix, 3)) (hin : ∀ w ∈ u_ws RX1 TX1 7, w ∈ TT) (hw : Cond.fieldLink own ix (TX1 6).1 (TX1 6).2.1 (TX1 6).2.2.1 ∈ TT) (hq : pc + 3 = q) (kk : (I 26 6 - 1).toNatClampNeg < 6 → EE κ ω nL G X I q lv (.ref (oA ω (30 + 3 * (I 26 6 - 1).toNatClampNeg)) :: st)) : EE κ ω nL G (if inb (I 26 6 - 1) 6 = true then X else none) I pc lv (.ref (oA ω 26) :: st) := by
  refine e_grd (fun hi => ?_)
  have h6 : (I 26 6 - 1).toNatClampNeg < 6 := by
    obtain ⟨j, hj, e⟩ := vp_in_of (inb_iff.mp hi) (by decide)
    rw [e, nI_clamp (by omega)]
    exact hj
  refine e_getf C (k := 26) (j := 6) (v := .ref (oA ω (30 + 3 * (I 26 6 - 1).toNatClampNeg))) hdg (by omega) rfl rfl (by decide) hin hw ?_ hq (kk h6)
  show some (rfo ω (I 26 6) (fun i => 30 + 3 * i)) = _
  rw [rfo_into hi]
theorem inb_lt {i : Int32} {n : Nat} (h : inb i n = true) (hn : n < 2 ^ 31) : i.toNatClampNeg < n := by
  obtain ⟨j, hj, e⟩ := vp_in_of (inb_iff.mp h) hn
  rw [e, nI_clamp (by omega)]
  exact hj
theorem e_aldT1 (C : CX κ ω cc nL d own) {i : Int32} (hN : 56 ≤ oN ω) (hdg : decode cc pc = .ok (.aaload, 1)) (hq : pc + 1 = q) (kk : i.toNatClampNeg < 6 → EE κ ω nL G X I q lv (.ref (oA ω (30 + 3 * i.toNatClampNeg)) :: st)) : EE κ ω nL G (if inb i 6 = true then X else none) I pc lv (.int i :: .ref (oA ω 1) :: st) := by
  refine e_grd (fun hi => ?_)
  have h := e_aldT C (X := X) (I := I) (i := i) (lv := lv) (st := st) hN hdg hq (kk (inb_lt hi (by decide))) (G := G)
  rw [if_pos hi] at h
  exact h
theorem e_aldS1 (C : CX κ ω cc nL d own) {i : Int32} (hN : 56 ≤ oN ω) (hdg : decode cc pc = .ok (.aaload, 1)) (hq : pc + 1 = q) (kk : i.toNatClampNeg < 4 → EE κ ω nL G X I q lv (.ref (oA ω (48 + 2 * i.toNatClampNeg)) :: st)) : EE κ ω nL G (if inb i 4 = true then X else none) I pc lv (.int i :: .ref (oA ω 28) :: st) := by
  refine e_grd (fun hi => ?_)
  have h := e_aldS C (X := X) (I := I) (i := i) (lv := lv) (st := st) hN hdg hq (kk (inb_lt hi (by decide))) (G := G)
  rw [if_pos hi] at h
  exact h
theorem e_above (C : CX κ ω cc nL d own) {ix : Nat} (hdg : decode cc pc = .ok (.getstatic ix, 3)) (hw : Cond.fieldLink own ix "HatsInRing$Kinds" "ABOVE" "[I" ∈ TT) (hq : pc + 3 = q) (kk : ∀ t : Nat, va_T .int t 6 (fun i => .int (above.getD i 0)) (oFr ω) κ.2.2.2.2.1 κ.2.2.2.2.1.heap → EE κ ω nL G X I q lv (.ref t :: st)) : EE κ ω nL G X I pc lv st := by
  obtain ⟨p, l, e, R, s, m, args, below, meth, c⟩ := κ
  obtain ⟨hx, hb, hml, hown, hts, hK, hlk, hR, hSX, hB⟩ := C
  intro r hr H locs ls hP hS hl
  subst hq
  obtain ⟨t, hZ, hT⟩ := hSX.1
  exact va_gets hx hb hZ hS hown (hts _ hw) (fun _ h => h) hdg (kk t hT r hr H locs ls hP hS hl)
theorem e_aldA (C : CX κ ω cc nL d own) {t : Nat} {i : Int32} (hT : va_T .int t 6 (fun i => .int (above.getD i 0)) (oFr ω) κ.2.2.2.2.1 κ.2.2.2.2.1.heap) (hdg : decode cc pc = .ok (.iaload, 1)) (hq : pc + 1 = q) (kk : EE κ ω nL G X I q lv (.int (above.getD i.toNatClampNeg 0) :: st)) : EE κ ω nL G (if inb i 6 = true then X else none) I pc lv (.int i :: .ref t :: st) := by
  refine e_grd (fun hi => ?_)
  obtain ⟨p, l, e, R, s, m, args, below, meth, c⟩ := κ
  obtain ⟨hx, hb, hml, hown, hts, hK, hlk, hR, hSX, hB⟩ := C
  intro r hr H locs ls hP hS hl
  subst hq
  exact va_ti hx hb hT hS (inb_iff.mp hi) rfl hdg (kk r hr H locs ls hP hS hl)
theorem e_ldcS (C : CX κ ω cc nL d own) {ix i : Nat} (hi : i < 13) (ho : strOwn i = own) (hx1 : strIx i = ix) (hdg : decode cc pc = .ok (.ldc ix, 2)) (hq : pc + 2 = q) (kk : EE κ ω nL G X I q lv (.ref (oK ω i) :: st)) : EE κ ω nL G X I pc lv st := by
  obtain ⟨p, l, e, R, s, m, args, below, meth, c⟩ := κ
  obtain ⟨hx, hb, hml, hown, hts, hK, hlk, hR, hSX, hB⟩ := C
  intro r hr H locs ls hP hS hl
  subst hq
  subst ho
  subst hx1
  exact va_ldcS hx hb hown (hSX.2.2.2.2.1 i hi) hdg (kk r hr H locs ls hP hS hl)
theorem e_callWi (C : CX κ ω cc nL d own) {l : Launch} {y : MethodName} {b : ByteArray} {maxL d' ix j : Nat} {ret : Option FieldType} {av sin : List Value} {x : Option (Int32 × Mem)} {f : Int32 → Mem → Option (α × Mem)} (hlau : κ.2.1 = l) (hC : CTi l ω y b maxL ret d' (.ref (oK ω j) :: av) x I) (hdg : decode cc pc = .ok (.invokevirtual ix, 3)) (hw1 : Cond.methodLink own ix y ∈ TT) (hw2 : Cond.instanceMethod y ∈ TT) (hw5 : Cond.selects y.cls y y ∈ TT) (hw3 : Cond.initialized y.cls ∈ TT) (hw4 : Cond.code y b maxL ret ∈ TT) (hdsc : y.cls ≠ "java/lang/invoke/MethodHandle" ∧ y.cls ≠ "java/lang/invoke/VarHandle" ∧ (parseMethodDescriptor y.desc).map (fun d => d.parameters.length) = some av.length) (hd : d' < d) (hmx : maxL ≤ 45) (hst : av.reverse ++ .ref (oK ω j) :: st = sin) (hj : j < 13) (hcls : y.cls = "java/lang/String") (hroom : (st.map fun v => v.category).sum ≤ 8) (hq : pc + 3 = q) (kk : ∀ (v : Int32) (J : Mem), EE κ ω nL G (f v J) J q lv (.int v :: st)) : EE κ ω nL G (bnd x f) I pc lv sin := by
  obtain ⟨p, l, e, R, s, m, args, below, meth, c⟩ := κ
  obtain ⟨hx, hb, hml, hown, hts, hK, hlk, hR, hSX, hB⟩ := C
  intro r hr
  subst hst
  subst hq
  dsimp only at hlau
  subst hlau
  subst hR
  obtain ⟨z, hz, hr⟩ := Option.bind_eq_some_iff.mp hr
  intro H locs ls hP hS hl
  refine va_calli (va_runV (C := y.cls) (As := av) (rest := st) ⟨hx, hb, hml, hown, hts⟩ (hC z hz) (cwV av.length hts (TT_good (in_wsV hw1 hw2 hw5 hw3 hw4) (fun w h => h)) rfl rfl rfl ⟨rfl, hdsc⟩ ⟨by show d' + 1 ≤ d; omega, by show 8 + (maxL + 11) + 64 * d' ≤ 64 * d; omega⟩) ⟨WD.blind, by rw [hcls]; exact vk_recv hSX.2.2.2.1 hj hS, fun U hU hW => ⟨rfl, by rw [hU]; exact hP, va_K.moved hW.alike hK, by rw [hU]; exact SX.go hW hS hSX, by rw [hU]; exact Nat.le_trans hB hS.1⟩⟩ rfl rfl hl.1 rfl (lv_room hroom) hdg ⟨Nat.le_refl 0, Nat.le_refl 0⟩) hS (fun q _ h => h) (fun q h => h) (fun u1 u t H1 locs1 ht hvm hw hB hz1 hk1 hS1 => ?_)
  obtain ⟨v, J⟩ := z
  subst ht
  cases hw
  exact kk v J r hr t.heap locs1 ls hB hS1 hl
end EErows2
end
