-- ===== PART A: goes FIRST, ahead of the names: the tables' words, and 'selects' of the private methods out of them =====
/-- a private method of a class that the tables say can be made, by its rows of tables_1 -/
def lw_okq (q : MethodName × Nat) : Prop := (q.1.cls ≠ "java/lang/invoke/MethodHandle" ∧ q.1.cls ≠ "java/lang/invoke/VarHandle") ∧ Cond.instantiable q.1.cls q.2 ∈ tables_1 ∧ Cond.privateMethod q.1 ∈ tables_1 ∧ Cond.instanceMethod q.1 ∈ tables_1
theorem lw_p0 : lw_okq (⟨"StairIdeals$Pad", "begin", "()V"⟩, 7) := ⟨⟨by decide +kernel, by decide +kernel⟩, List.mem_of_getElem? (i := 26) (by decide +kernel), List.mem_of_getElem? (i := 213) (by decide +kernel), List.mem_of_getElem? (i := 214) (by decide +kernel)⟩
theorem lw_p1 : lw_okq (⟨"StairIdeals$Pad", "accept", "(I)Z"⟩, 7) := ⟨⟨by decide +kernel, by decide +kernel⟩, List.mem_of_getElem? (i := 26) (by decide +kernel), List.mem_of_getElem? (i := 217) (by decide +kernel), List.mem_of_getElem? (i := 218) (by decide +kernel)⟩
theorem lw_p2 : lw_okq (⟨"StairIdeals$Pad", "endMonomial", "()Z"⟩, 7) := ⟨⟨by decide +kernel, by decide +kernel⟩, List.mem_of_getElem? (i := 26) (by decide +kernel), List.mem_of_getElem? (i := 221) (by decide +kernel), List.mem_of_getElem? (i := 222) (by decide +kernel)⟩
theorem lw_p3 : lw_okq (⟨"StairIdeals$Pad", "acceptLetter", "(I)Z"⟩, 7) := ⟨⟨by decide +kernel, by decide +kernel⟩, List.mem_of_getElem? (i := 26) (by decide +kernel), List.mem_of_getElem? (i := 225) (by decide +kernel), List.mem_of_getElem? (i := 226) (by decide +kernel)⟩
theorem lw_p4 : lw_okq (⟨"StairIdeals$Pad", "acceptFigure", "(I)Z"⟩, 7) := ⟨⟨by decide +kernel, by decide +kernel⟩, List.mem_of_getElem? (i := 26) (by decide +kernel), List.mem_of_getElem? (i := 235) (by decide +kernel), List.mem_of_getElem? (i := 236) (by decide +kernel)⟩
theorem lw_p5 : lw_okq (⟨"StairIdeals$Stairs", "leastBefore", "(I)I"⟩, 1) := ⟨⟨by decide +kernel, by decide +kernel⟩, List.mem_of_getElem? (i := 106) (by decide +kernel), List.mem_of_getElem? (i := 272) (by decide +kernel), List.mem_of_getElem? (i := 273) (by decide +kernel)⟩
theorem lw_p6 : lw_okq (⟨"StairIdeals$Workshop", "fill", "(LStairIdeals$Ideal;)V"⟩, 2) := ⟨⟨by decide +kernel, by decide +kernel⟩, List.mem_of_getElem? (i := 100) (by decide +kernel), List.mem_of_getElem? (i := 287) (by decide +kernel), List.mem_of_getElem? (i := 288) (by decide +kernel)⟩
theorem lw_p7 : lw_okq (⟨"StairIdeals$Workshop", "productFits", "(LStairIdeals$Ideal;LStairIdeals$Ideal;)Z"⟩, 2) := ⟨⟨by decide +kernel, by decide +kernel⟩, List.mem_of_getElem? (i := 100) (by decide +kernel), List.mem_of_getElem? (i := 344) (by decide +kernel), List.mem_of_getElem? (i := 345) (by decide +kernel)⟩
theorem lw_p8 : lw_okq (⟨"StairIdeals$Workshop", "divideOther", "(LStairIdeals$Ideal;)V"⟩, 2) := ⟨⟨by decide +kernel, by decide +kernel⟩, List.mem_of_getElem? (i := 100) (by decide +kernel), List.mem_of_getElem? (i := 355) (by decide +kernel), List.mem_of_getElem? (i := 356) (by decide +kernel)⟩
theorem lw_p9 : lw_okq (⟨"StairIdeals$Workshop", "radicalOf", "(LStairIdeals$Ideal;)V"⟩, 2) := ⟨⟨by decide +kernel, by decide +kernel⟩, List.mem_of_getElem? (i := 100) (by decide +kernel), List.mem_of_getElem? (i := 367) (by decide +kernel), List.mem_of_getElem? (i := 368) (by decide +kernel)⟩
theorem lw_p10 : lw_okq (⟨"StairIdeals$Stairs", "mostBehind", "(I)I"⟩, 1) := ⟨⟨by decide +kernel, by decide +kernel⟩, List.mem_of_getElem? (i := 106) (by decide +kernel), List.mem_of_getElem? (i := 408) (by decide +kernel), List.mem_of_getElem? (i := 409) (by decide +kernel)⟩
theorem lw_p11 : lw_okq (⟨"StairIdeals$Survey", "findFactors", "()V"⟩, 4) := ⟨⟨by decide +kernel, by decide +kernel⟩, List.mem_of_getElem? (i := 125) (by decide +kernel), List.mem_of_getElem? (i := 479) (by decide +kernel), List.mem_of_getElem? (i := 480) (by decide +kernel)⟩
theorem lw_p12 : lw_okq (⟨"StairIdeals$Survey", "addSteps", "(III)V"⟩, 4) := ⟨⟨by decide +kernel, by decide +kernel⟩, List.mem_of_getElem? (i := 125) (by decide +kernel), List.mem_of_getElem? (i := 486) (by decide +kernel), List.mem_of_getElem? (i := 487) (by decide +kernel)⟩
theorem lw_p13 : lw_okq (⟨"StairIdeals$Complex", "borders", "(II)I"⟩, 1) := ⟨⟨by decide +kernel, by decide +kernel⟩, List.mem_of_getElem? (i := 133) (by decide +kernel), List.mem_of_getElem? (i := 587) (by decide +kernel), List.mem_of_getElem? (i := 588) (by decide +kernel)⟩
theorem lw_p14 : lw_okq (⟨"StairIdeals$Complex", "reduce", "(II)I"⟩, 1) := ⟨⟨by decide +kernel, by decide +kernel⟩, List.mem_of_getElem? (i := 133) (by decide +kernel), List.mem_of_getElem? (i := 594) (by decide +kernel), List.mem_of_getElem? (i := 595) (by decide +kernel)⟩
theorem lw_p15 : lw_okq (⟨"StairIdealsModel", "goOn", "(II)I"⟩, 31) := ⟨⟨by decide +kernel, by decide +kernel⟩, List.mem_of_getElem? (i := 668) (by decide +kernel), List.mem_of_getElem? (i := 786) (by decide +kernel), List.mem_of_getElem? (i := 787) (by decide +kernel)⟩
def lw_privs_1 : List (MethodName × Nat) := [(⟨"StairIdeals$Pad", "begin", "()V"⟩, 7), (⟨"StairIdeals$Pad", "accept", "(I)Z"⟩, 7), (⟨"StairIdeals$Pad", "endMonomial", "()Z"⟩, 7), (⟨"StairIdeals$Pad", "acceptLetter", "(I)Z"⟩, 7), (⟨"StairIdeals$Pad", "acceptFigure", "(I)Z"⟩, 7), (⟨"StairIdeals$Stairs", "leastBefore", "(I)I"⟩, 1), (⟨"StairIdeals$Workshop", "fill", "(LStairIdeals$Ideal;)V"⟩, 2), (⟨"StairIdeals$Workshop", "productFits", "(LStairIdeals$Ideal;LStairIdeals$Ideal;)Z"⟩, 2), (⟨"StairIdeals$Workshop", "divideOther", "(LStairIdeals$Ideal;)V"⟩, 2), (⟨"StairIdeals$Workshop", "radicalOf", "(LStairIdeals$Ideal;)V"⟩, 2), (⟨"StairIdeals$Stairs", "mostBehind", "(I)I"⟩, 1), (⟨"StairIdeals$Survey", "findFactors", "()V"⟩, 4), (⟨"StairIdeals$Survey", "addSteps", "(III)V"⟩, 4), (⟨"StairIdeals$Complex", "borders", "(II)I"⟩, 1), (⟨"StairIdeals$Complex", "reduce", "(II)I"⟩, 1), (⟨"StairIdealsModel", "goOn", "(II)I"⟩, 31)]
theorem lw_r1 : ∀ q ∈ lw_privs_1, lw_okq q := List.forall_mem_cons.mpr ⟨lw_p0, List.forall_mem_cons.mpr ⟨lw_p1, List.forall_mem_cons.mpr ⟨lw_p2, List.forall_mem_cons.mpr ⟨lw_p3, List.forall_mem_cons.mpr ⟨lw_p4, List.forall_mem_cons.mpr ⟨lw_p5, List.forall_mem_cons.mpr ⟨lw_p6, List.forall_mem_cons.mpr ⟨lw_p7, List.forall_mem_cons.mpr ⟨lw_p8, List.forall_mem_cons.mpr ⟨lw_p9, List.forall_mem_cons.mpr ⟨lw_p10, List.forall_mem_cons.mpr ⟨lw_p11, List.forall_mem_cons.mpr ⟨lw_p12, List.forall_mem_cons.mpr ⟨lw_p13, List.forall_mem_cons.mpr ⟨lw_p14, List.forall_mem_cons.mpr ⟨lw_p15, fun _ h => absurd h List.not_mem_nil⟩⟩⟩⟩⟩⟩⟩⟩⟩⟩⟩⟩⟩⟩⟩⟩
theorem lw_p16 : lw_okq (⟨"StairIdealsModel", "clear", "()V"⟩, 31) := ⟨⟨by decide +kernel, by decide +kernel⟩, List.mem_of_getElem? (i := 668) (by decide +kernel), List.mem_of_getElem? (i := 809) (by decide +kernel), List.mem_of_getElem? (i := 810) (by decide +kernel)⟩
theorem lw_p17 : lw_okq (⟨"StairIdealsModel", "markAbove", "(I)V"⟩, 31) := ⟨⟨by decide +kernel, by decide +kernel⟩, List.mem_of_getElem? (i := 668) (by decide +kernel), List.mem_of_getElem? (i := 813) (by decide +kernel), List.mem_of_getElem? (i := 814) (by decide +kernel)⟩
theorem lw_p18 : lw_okq (⟨"StairIdealsModel", "keep", "(I)I"⟩, 31) := ⟨⟨by decide +kernel, by decide +kernel⟩, List.mem_of_getElem? (i := 668) (by decide +kernel), List.mem_of_getElem? (i := 823) (by decide +kernel), List.mem_of_getElem? (i := 824) (by decide +kernel)⟩
theorem lw_p19 : lw_okq (⟨"StairIdealsModel", "isLeast", "(I)Z"⟩, 31) := ⟨⟨by decide +kernel, by decide +kernel⟩, List.mem_of_getElem? (i := 668) (by decide +kernel), List.mem_of_getElem? (i := 827) (by decide +kernel), List.mem_of_getElem? (i := 828) (by decide +kernel)⟩
theorem lw_p20 : lw_okq (⟨"StairIdealsModel", "at", "(II)I"⟩, 31) := ⟨⟨by decide +kernel, by decide +kernel⟩, List.mem_of_getElem? (i := 668) (by decide +kernel), List.mem_of_getElem? (i := 838) (by decide +kernel), List.mem_of_getElem? (i := 839) (by decide +kernel)⟩
theorem lw_p21 : lw_okq (⟨"StairIdealsModel", "isIn", "(II)Z"⟩, 31) := ⟨⟨by decide +kernel, by decide +kernel⟩, List.mem_of_getElem? (i := 668) (by decide +kernel), List.mem_of_getElem? (i := 850) (by decide +kernel), List.mem_of_getElem? (i := 851) (by decide +kernel)⟩
theorem lw_p22 : lw_okq (⟨"StairIdealsModel", "multiply", "(III)I"⟩, 31) := ⟨⟨by decide +kernel, by decide +kernel⟩, List.mem_of_getElem? (i := 668) (by decide +kernel), List.mem_of_getElem? (i := 859) (by decide +kernel), List.mem_of_getElem? (i := 860) (by decide +kernel)⟩
theorem lw_p23 : lw_okq (⟨"StairIdealsModel", "addProduct", "(I)V"⟩, 31) := ⟨⟨by decide +kernel, by decide +kernel⟩, List.mem_of_getElem? (i := 668) (by decide +kernel), List.mem_of_getElem? (i := 866) (by decide +kernel), List.mem_of_getElem? (i := 867) (by decide +kernel)⟩
theorem lw_p24 : lw_okq (⟨"StairIdealsModel", "isMade", "(IIII)Z"⟩, 31) := ⟨⟨by decide +kernel, by decide +kernel⟩, List.mem_of_getElem? (i := 668) (by decide +kernel), List.mem_of_getElem? (i := 876) (by decide +kernel), List.mem_of_getElem? (i := 877) (by decide +kernel)⟩
theorem lw_p25 : lw_okq (⟨"StairIdealsModel", "isQuotient", "(III)Z"⟩, 31) := ⟨⟨by decide +kernel, by decide +kernel⟩, List.mem_of_getElem? (i := 668) (by decide +kernel), List.mem_of_getElem? (i := 880) (by decide +kernel), List.mem_of_getElem? (i := 881) (by decide +kernel)⟩
theorem lw_p26 : lw_okq (⟨"StairIdealsModel", "isRoot", "(II)Z"⟩, 31) := ⟨⟨by decide +kernel, by decide +kernel⟩, List.mem_of_getElem? (i := 668) (by decide +kernel), List.mem_of_getElem? (i := 890) (by decide +kernel), List.mem_of_getElem? (i := 891) (by decide +kernel)⟩
theorem lw_p27 : lw_okq (⟨"StairIdealsModel", "isWithin", "(II)Z"⟩, 31) := ⟨⟨by decide +kernel, by decide +kernel⟩, List.mem_of_getElem? (i := 668) (by decide +kernel), List.mem_of_getElem? (i := 901) (by decide +kernel), List.mem_of_getElem? (i := 902) (by decide +kernel)⟩
theorem lw_p28 : lw_okq (⟨"StairIdealsModel", "findParts", "(I)V"⟩, 31) := ⟨⟨by decide +kernel, by decide +kernel⟩, List.mem_of_getElem? (i := 668) (by decide +kernel), List.mem_of_getElem? (i := 909) (by decide +kernel), List.mem_of_getElem? (i := 910) (by decide +kernel)⟩
theorem lw_p29 : lw_okq (⟨"StairIdealsModel", "findStandard", "(I)V"⟩, 31) := ⟨⟨by decide +kernel, by decide +kernel⟩, List.mem_of_getElem? (i := 668) (by decide +kernel), List.mem_of_getElem? (i := 913) (by decide +kernel), List.mem_of_getElem? (i := 914) (by decide +kernel)⟩
theorem lw_p30 : lw_okq (⟨"StairIdealsModel", "isHighest", "(I)Z"⟩, 31) := ⟨⟨by decide +kernel, by decide +kernel⟩, List.mem_of_getElem? (i := 668) (by decide +kernel), List.mem_of_getElem? (i := 917) (by decide +kernel), List.mem_of_getElem? (i := 918) (by decide +kernel)⟩
theorem lw_p31 : lw_okq (⟨"StairIdealsModel", "layPart", "(I)V"⟩, 31) := ⟨⟨by decide +kernel, by decide +kernel⟩, List.mem_of_getElem? (i := 668) (by decide +kernel), List.mem_of_getElem? (i := 924) (by decide +kernel), List.mem_of_getElem? (i := 925) (by decide +kernel)⟩
def lw_privs_2 : List (MethodName × Nat) := [(⟨"StairIdealsModel", "clear", "()V"⟩, 31), (⟨"StairIdealsModel", "markAbove", "(I)V"⟩, 31), (⟨"StairIdealsModel", "keep", "(I)I"⟩, 31), (⟨"StairIdealsModel", "isLeast", "(I)Z"⟩, 31), (⟨"StairIdealsModel", "at", "(II)I"⟩, 31), (⟨"StairIdealsModel", "isIn", "(II)Z"⟩, 31), (⟨"StairIdealsModel", "multiply", "(III)I"⟩, 31), (⟨"StairIdealsModel", "addProduct", "(I)V"⟩, 31), (⟨"StairIdealsModel", "isMade", "(IIII)Z"⟩, 31), (⟨"StairIdealsModel", "isQuotient", "(III)Z"⟩, 31), (⟨"StairIdealsModel", "isRoot", "(II)Z"⟩, 31), (⟨"StairIdealsModel", "isWithin", "(II)Z"⟩, 31), (⟨"StairIdealsModel", "findParts", "(I)V"⟩, 31), (⟨"StairIdealsModel", "findStandard", "(I)V"⟩, 31), (⟨"StairIdealsModel", "isHighest", "(I)Z"⟩, 31), (⟨"StairIdealsModel", "layPart", "(I)V"⟩, 31)]
theorem lw_r2 : ∀ q ∈ lw_privs_2, lw_okq q := List.forall_mem_cons.mpr ⟨lw_p16, List.forall_mem_cons.mpr ⟨lw_p17, List.forall_mem_cons.mpr ⟨lw_p18, List.forall_mem_cons.mpr ⟨lw_p19, List.forall_mem_cons.mpr ⟨lw_p20, List.forall_mem_cons.mpr ⟨lw_p21, List.forall_mem_cons.mpr ⟨lw_p22, List.forall_mem_cons.mpr ⟨lw_p23, List.forall_mem_cons.mpr ⟨lw_p24, List.forall_mem_cons.mpr ⟨lw_p25, List.forall_mem_cons.mpr ⟨lw_p26, List.forall_mem_cons.mpr ⟨lw_p27, List.forall_mem_cons.mpr ⟨lw_p28, List.forall_mem_cons.mpr ⟨lw_p29, List.forall_mem_cons.mpr ⟨lw_p30, List.forall_mem_cons.mpr ⟨lw_p31, fun _ h => absurd h List.not_mem_nil⟩⟩⟩⟩⟩⟩⟩⟩⟩⟩⟩⟩⟩⟩⟩⟩
theorem lw_p32 : lw_okq (⟨"StairIdealsModel", "primesOf", "(I)I"⟩, 31) := ⟨⟨by decide +kernel, by decide +kernel⟩, List.mem_of_getElem? (i := 668) (by decide +kernel), List.mem_of_getElem? (i := 932) (by decide +kernel), List.mem_of_getElem? (i := 933) (by decide +kernel)⟩
theorem lw_p33 : lw_okq (⟨"StairIdealsModel", "countOf", "(I)I"⟩, 31) := ⟨⟨by decide +kernel, by decide +kernel⟩, List.mem_of_getElem? (i := 668) (by decide +kernel), List.mem_of_getElem? (i := 956) (by decide +kernel), List.mem_of_getElem? (i := 957) (by decide +kernel)⟩
theorem lw_p34 : lw_okq (⟨"StairIdealsModel", "dimension", "()I"⟩, 31) := ⟨⟨by decide +kernel, by decide +kernel⟩, List.mem_of_getElem? (i := 668) (by decide +kernel), List.mem_of_getElem? (i := 976) (by decide +kernel), List.mem_of_getElem? (i := 977) (by decide +kernel)⟩
theorem lw_p35 : lw_okq (⟨"StairIdealsModel", "sizeTold", "(I)I"⟩, 31) := ⟨⟨by decide +kernel, by decide +kernel⟩, List.mem_of_getElem? (i := 668) (by decide +kernel), List.mem_of_getElem? (i := 986) (by decide +kernel), List.mem_of_getElem? (i := 987) (by decide +kernel)⟩
theorem lw_p36 : lw_okq (⟨"StairIdealsModel", "sizeOf", "(I)I"⟩, 31) := ⟨⟨by decide +kernel, by decide +kernel⟩, List.mem_of_getElem? (i := 668) (by decide +kernel), List.mem_of_getElem? (i := 990) (by decide +kernel), List.mem_of_getElem? (i := 991) (by decide +kernel)⟩
theorem lw_p37 : lw_okq (⟨"StairIdealsModel", "latticeMany", "(I)I"⟩, 31) := ⟨⟨by decide +kernel, by decide +kernel⟩, List.mem_of_getElem? (i := 668) (by decide +kernel), List.mem_of_getElem? (i := 994) (by decide +kernel), List.mem_of_getElem? (i := 995) (by decide +kernel)⟩
theorem lw_p38 : lw_okq (⟨"StairIdealsModel", "findLattice", "(I)V"⟩, 31) := ⟨⟨by decide +kernel, by decide +kernel⟩, List.mem_of_getElem? (i := 668) (by decide +kernel), List.mem_of_getElem? (i := 998) (by decide +kernel), List.mem_of_getElem? (i := 999) (by decide +kernel)⟩
theorem lw_p39 : lw_okq (⟨"StairIdealsModel", "findTree", "(I)V"⟩, 31) := ⟨⟨by decide +kernel, by decide +kernel⟩, List.mem_of_getElem? (i := 668) (by decide +kernel), List.mem_of_getElem? (i := 1005) (by decide +kernel), List.mem_of_getElem? (i := 1006) (by decide +kernel)⟩
theorem lw_p40 : lw_okq (⟨"StairIdealsModel", "opens", "(I)V"⟩, 31) := ⟨⟨by decide +kernel, by decide +kernel⟩, List.mem_of_getElem? (i := 668) (by decide +kernel), List.mem_of_getElem? (i := 1009) (by decide +kernel), List.mem_of_getElem? (i := 1010) (by decide +kernel)⟩
theorem lw_p41 : lw_okq (⟨"StairIdealsModel", "push", "(I)V"⟩, 31) := ⟨⟨by decide +kernel, by decide +kernel⟩, List.mem_of_getElem? (i := 668) (by decide +kernel), List.mem_of_getElem? (i := 1013) (by decide +kernel), List.mem_of_getElem? (i := 1014) (by decide +kernel)⟩
theorem lw_p42 : lw_okq (⟨"StairIdealsModel", "popList", "()V"⟩, 31) := ⟨⟨by decide +kernel, by decide +kernel⟩, List.mem_of_getElem? (i := 668) (by decide +kernel), List.mem_of_getElem? (i := 1017) (by decide +kernel), List.mem_of_getElem? (i := 1018) (by decide +kernel)⟩
theorem lw_p43 : lw_okq (⟨"StairIdealsModel", "isLeaf", "()Z"⟩, 31) := ⟨⟨by decide +kernel, by decide +kernel⟩, List.mem_of_getElem? (i := 668) (by decide +kernel), List.mem_of_getElem? (i := 1021) (by decide +kernel), List.mem_of_getElem? (i := 1022) (by decide +kernel)⟩
theorem lw_p44 : lw_okq (⟨"StairIdealsModel", "pivot", "()I"⟩, 31) := ⟨⟨by decide +kernel, by decide +kernel⟩, List.mem_of_getElem? (i := 668) (by decide +kernel), List.mem_of_getElem? (i := 1025) (by decide +kernel), List.mem_of_getElem? (i := 1026) (by decide +kernel)⟩
theorem lw_p45 : lw_okq (⟨"StairIdealsModel", "pushSum", "(II)V"⟩, 31) := ⟨⟨by decide +kernel, by decide +kernel⟩, List.mem_of_getElem? (i := 668) (by decide +kernel), List.mem_of_getElem? (i := 1029) (by decide +kernel), List.mem_of_getElem? (i := 1030) (by decide +kernel)⟩
theorem lw_p46 : lw_okq (⟨"StairIdealsModel", "pushQuotient", "(II)V"⟩, 31) := ⟨⟨by decide +kernel, by decide +kernel⟩, List.mem_of_getElem? (i := 668) (by decide +kernel), List.mem_of_getElem? (i := 1033) (by decide +kernel), List.mem_of_getElem? (i := 1034) (by decide +kernel)⟩
theorem lw_p47 : lw_okq (⟨"StairIdealsModel", "isTooMuch", "(II)Z"⟩, 31) := ⟨⟨by decide +kernel, by decide +kernel⟩, List.mem_of_getElem? (i := 668) (by decide +kernel), List.mem_of_getElem? (i := 1037) (by decide +kernel), List.mem_of_getElem? (i := 1038) (by decide +kernel)⟩
def lw_privs_3 : List (MethodName × Nat) := [(⟨"StairIdealsModel", "primesOf", "(I)I"⟩, 31), (⟨"StairIdealsModel", "countOf", "(I)I"⟩, 31), (⟨"StairIdealsModel", "dimension", "()I"⟩, 31), (⟨"StairIdealsModel", "sizeTold", "(I)I"⟩, 31), (⟨"StairIdealsModel", "sizeOf", "(I)I"⟩, 31), (⟨"StairIdealsModel", "latticeMany", "(I)I"⟩, 31), (⟨"StairIdealsModel", "findLattice", "(I)V"⟩, 31), (⟨"StairIdealsModel", "findTree", "(I)V"⟩, 31), (⟨"StairIdealsModel", "opens", "(I)V"⟩, 31), (⟨"StairIdealsModel", "push", "(I)V"⟩, 31), (⟨"StairIdealsModel", "popList", "()V"⟩, 31), (⟨"StairIdealsModel", "isLeaf", "()Z"⟩, 31), (⟨"StairIdealsModel", "pivot", "()I"⟩, 31), (⟨"StairIdealsModel", "pushSum", "(II)V"⟩, 31), (⟨"StairIdealsModel", "pushQuotient", "(II)V"⟩, 31), (⟨"StairIdealsModel", "isTooMuch", "(II)Z"⟩, 31)]
theorem lw_r3 : ∀ q ∈ lw_privs_3, lw_okq q := List.forall_mem_cons.mpr ⟨lw_p32, List.forall_mem_cons.mpr ⟨lw_p33, List.forall_mem_cons.mpr ⟨lw_p34, List.forall_mem_cons.mpr ⟨lw_p35, List.forall_mem_cons.mpr ⟨lw_p36, List.forall_mem_cons.mpr ⟨lw_p37, List.forall_mem_cons.mpr ⟨lw_p38, List.forall_mem_cons.mpr ⟨lw_p39, List.forall_mem_cons.mpr ⟨lw_p40, List.forall_mem_cons.mpr ⟨lw_p41, List.forall_mem_cons.mpr ⟨lw_p42, List.forall_mem_cons.mpr ⟨lw_p43, List.forall_mem_cons.mpr ⟨lw_p44, List.forall_mem_cons.mpr ⟨lw_p45, List.forall_mem_cons.mpr ⟨lw_p46, List.forall_mem_cons.mpr ⟨lw_p47, fun _ h => absurd h List.not_mem_nil⟩⟩⟩⟩⟩⟩⟩⟩⟩⟩⟩⟩⟩⟩⟩⟩
theorem lw_p48 : lw_okq (⟨"StairIdealsModel", "holesAt", "(III)I"⟩, 31) := ⟨⟨by decide +kernel, by decide +kernel⟩, List.mem_of_getElem? (i := 668) (by decide +kernel), List.mem_of_getElem? (i := 1048) (by decide +kernel), List.mem_of_getElem? (i := 1049) (by decide +kernel)⟩
theorem lw_p49 : lw_okq (⟨"StairIdealsModel", "findFaces", "(II)V"⟩, 31) := ⟨⟨by decide +kernel, by decide +kernel⟩, List.mem_of_getElem? (i := 668) (by decide +kernel), List.mem_of_getElem? (i := 1052) (by decide +kernel), List.mem_of_getElem? (i := 1053) (by decide +kernel)⟩
theorem lw_p50 : lw_okq (⟨"StairIdealsModel", "facesOf", "(I)I"⟩, 31) := ⟨⟨by decide +kernel, by decide +kernel⟩, List.mem_of_getElem? (i := 668) (by decide +kernel), List.mem_of_getElem? (i := 1059) (by decide +kernel), List.mem_of_getElem? (i := 1060) (by decide +kernel)⟩
theorem lw_p51 : lw_okq (⟨"StairIdealsModel", "rank", "(I)I"⟩, 31) := ⟨⟨by decide +kernel, by decide +kernel⟩, List.mem_of_getElem? (i := 668) (by decide +kernel), List.mem_of_getElem? (i := 1063) (by decide +kernel), List.mem_of_getElem? (i := 1064) (by decide +kernel)⟩
theorem lw_p52 : lw_okq (⟨"StairIdealsModel", "nearest", "(JJI)V"⟩, 31) := ⟨⟨by decide +kernel, by decide +kernel⟩, List.mem_of_getElem? (i := 668) (by decide +kernel), List.mem_of_getElem? (i := 1081) (by decide +kernel), List.mem_of_getElem? (i := 1082) (by decide +kernel)⟩
theorem lw_p53 : lw_okq (⟨"StairIdealsModel", "bits", "(II)J"⟩, 31) := ⟨⟨by decide +kernel, by decide +kernel⟩, List.mem_of_getElem? (i := 668) (by decide +kernel), List.mem_of_getElem? (i := 1085) (by decide +kernel), List.mem_of_getElem? (i := 1086) (by decide +kernel)⟩
theorem lw_p54 : lw_okq (⟨"StairIdealsModel", "cut", "()J"⟩, 31) := ⟨⟨by decide +kernel, by decide +kernel⟩, List.mem_of_getElem? (i := 668) (by decide +kernel), List.mem_of_getElem? (i := 1089) (by decide +kernel), List.mem_of_getElem? (i := 1090) (by decide +kernel)⟩
theorem lw_p55 : lw_okq (⟨"StairIdealsModel", "copy", "(II)V"⟩, 31) := ⟨⟨by decide +kernel, by decide +kernel⟩, List.mem_of_getElem? (i := 668) (by decide +kernel), List.mem_of_getElem? (i := 1104) (by decide +kernel), List.mem_of_getElem? (i := 1105) (by decide +kernel)⟩
theorem lw_p56 : lw_okq (⟨"StairIdealsModel", "passAll", "()V"⟩, 31) := ⟨⟨by decide +kernel, by decide +kernel⟩, List.mem_of_getElem? (i := 668) (by decide +kernel), List.mem_of_getElem? (i := 1120) (by decide +kernel), List.mem_of_getElem? (i := 1121) (by decide +kernel)⟩
theorem lw_p57 : lw_okq (⟨"StairIdealsModel", "passRow", "([II)V"⟩, 31) := ⟨⟨by decide +kernel, by decide +kernel⟩, List.mem_of_getElem? (i := 668) (by decide +kernel), List.mem_of_getElem? (i := 1124) (by decide +kernel), List.mem_of_getElem? (i := 1125) (by decide +kernel)⟩
def lw_privs_4 : List (MethodName × Nat) := [(⟨"StairIdealsModel", "holesAt", "(III)I"⟩, 31), (⟨"StairIdealsModel", "findFaces", "(II)V"⟩, 31), (⟨"StairIdealsModel", "facesOf", "(I)I"⟩, 31), (⟨"StairIdealsModel", "rank", "(I)I"⟩, 31), (⟨"StairIdealsModel", "nearest", "(JJI)V"⟩, 31), (⟨"StairIdealsModel", "bits", "(II)J"⟩, 31), (⟨"StairIdealsModel", "cut", "()J"⟩, 31), (⟨"StairIdealsModel", "copy", "(II)V"⟩, 31), (⟨"StairIdealsModel", "passAll", "()V"⟩, 31), (⟨"StairIdealsModel", "passRow", "([II)V"⟩, 31)]
theorem lw_r4 : ∀ q ∈ lw_privs_4, lw_okq q := List.forall_mem_cons.mpr ⟨lw_p48, List.forall_mem_cons.mpr ⟨lw_p49, List.forall_mem_cons.mpr ⟨lw_p50, List.forall_mem_cons.mpr ⟨lw_p51, List.forall_mem_cons.mpr ⟨lw_p52, List.forall_mem_cons.mpr ⟨lw_p53, List.forall_mem_cons.mpr ⟨lw_p54, List.forall_mem_cons.mpr ⟨lw_p55, List.forall_mem_cons.mpr ⟨lw_p56, List.forall_mem_cons.mpr ⟨lw_p57, fun _ h => absurd h List.not_mem_nil⟩⟩⟩⟩⟩⟩⟩⟩⟩⟩
def lw_privs : List (MethodName × Nat) := lw_privs_1 ++ (lw_privs_2 ++ (lw_privs_3 ++ (lw_privs_4)))
def lw_tbl : List Cond := k2_sels lw_privs ++ tables_1
theorem lw_privs_ok : ∀ q ∈ lw_privs, lw_okq q := by
  show ∀ q ∈ lw_privs_1 ++ (lw_privs_2 ++ (lw_privs_3 ++ (lw_privs_4))), lw_okq q
  exact List.forall_mem_append.mpr ⟨lw_r1, List.forall_mem_append.mpr ⟨lw_r2, List.forall_mem_append.mpr ⟨lw_r3, lw_r4⟩⟩⟩
/-- the streams that the claim lets the run draw from -/
abbrev lw_cs : List Choice := [Jvm.Choice.named "NaN.bits"]
theorem lw_bits : nanBits ∈ lw_cs := by first | decide | exact List.mem_cons_self | simp [lw_cs, nanBits]
/-! ===== BEGIN words of one list among another's, by their places ===== -/
theorem goodIn_r {big : List Cond} (ws : List Cond) (ps : List Nat) (hp : ws = ps.filterMap (fun i => big[i]?)) (h : ws.all goodWord = true) : GoodIn big ws := by
  intro w hw
  have h1 := List.all_eq_true.mp h w hw
  rw [hp] at hw
  obtain ⟨i, -, hi⟩ := List.mem_filterMap.mp hw
  have hm : w ∈ big := by first | exact List.mem_of_getElem? hi | exact List.getElem?_mem hi
  exact ⟨hm, good_of_word h1⟩
theorem goodIn_app {big a b : List Cond} (ha : GoodIn big a) (hb : GoodIn big b) : GoodIn big (a ++ b) := fun w h => (List.mem_append.mp h).elim (ha w) (hb w)
theorem goodIn_ca {big a b : List Cond} {c : Cond} (ha : GoodIn big (c :: a)) (hb : GoodIn big b) : GoodIn big (c :: (a ++ b)) := fun w h => (List.mem_cons.mp h).elim (fun e => ha w (List.mem_cons.mpr (Or.inl e))) (fun h => (List.mem_append.mp h).elim (fun h => ha w (List.mem_cons.mpr (Or.inr h))) (hb w))
theorem goodIn_sub {big ws : List Cond} (hm : ∀ w ∈ ws, w ∈ big) (h : ws.all goodWord = true) : GoodIn big ws := fun w hw => ⟨hm w hw, good_of_word (List.all_eq_true.mp h w hw)⟩
/-! ===== END ===== -/

def RX0 : String := "StairIdeals$Complex"
def TX0 : u_T := fun k => match k with
  | _ => ("StairIdeals$Complex", "basis", "[I", true)
def tyX0 : Nat → FieldType := fun k => match k with
  | _ => .array .int
abbrev wsX00 : List Cond := u_ws RX0 TX0 1
theorem nmX0 : ∀ a, a < 1 → ∀ b, b < 1 → a ≠ b → (TX0 a).2.1 ≠ (TX0 b).2.1 := by decide +kernel
theorem tyX0_ok : ∀ k, k < 1 → parseFieldDescriptor (TX0 k).2.2.1 = some (tyX0 k) := by decide +kernel
abbrev cX0_init : ByteArray := prog_2_method_1_code
def yX0_init : MethodName := ⟨RX0, "<init>", "()V"⟩
abbrev cX0_sheetsAt : ByteArray := prog_2_method_2_code
def yX0_sheetsAt : MethodName := ⟨RX0, "sheetsAt", "(ILStairIdeals$Stairs;)I"⟩
abbrev cX0_holes : ByteArray := prog_2_method_3_code
def yX0_holes : MethodName := ⟨RX0, "holes", "(II)I"⟩
abbrev cX0_sheetsOf : ByteArray := prog_2_method_4_code
def yX0_sheetsOf : MethodName := ⟨RX0, "sheetsOf", "(II)I"⟩
abbrev cX0_borders : ByteArray := prog_2_method_5_code
def yX0_borders : MethodName := ⟨RX0, "borders", "(II)I"⟩
abbrev cX0_borderOf : ByteArray := prog_2_method_6_code
def yX0_borderOf : MethodName := ⟨RX0, "borderOf", "(I)I"⟩
abbrev cX0_reduce : ByteArray := prog_2_method_7_code
def yX0_reduce : MethodName := ⟨RX0, "reduce", "(II)I"⟩
def RX1 : String := "StairIdeals$Holdings"
def TX1 : u_T := fun k => match k with
  | 0 => ("StairIdeals$Holdings", "ideals", "[LStairIdeals$Ideal;", true)
  | 1 => ("StairIdeals$Holdings", "held", "[LStairIdeals$Ideal;", true)
  | _ => ("StairIdeals$Holdings", "kinds", "[I", true)
def tyX1 : Nat → FieldType := fun k => match k with
  | 0 => .array (.object "StairIdeals$Ideal")
  | 1 => .array (.object "StairIdeals$Ideal")
  | _ => .array .int
abbrev wsX10 : List Cond := u_ws RX1 TX1 3
theorem nmX1 : ∀ a, a < 3 → ∀ b, b < 3 → a ≠ b → (TX1 a).2.1 ≠ (TX1 b).2.1 := by decide +kernel
theorem tyX1_ok : ∀ k, k < 3 → parseFieldDescriptor (TX1 k).2.2.1 = some (tyX1 k) := by decide +kernel
abbrev cX1_init : ByteArray := prog_3_method_1_code
def yX1_init : MethodName := ⟨RX1, "<init>", "()V"⟩
abbrev cX1_copyFrom : ByteArray := prog_3_method_2_code
def yX1_copyFrom : MethodName := ⟨RX1, "copyFrom", "(LStairIdeals$Holdings;)V"⟩
def RX2 : String := "StairIdeals$Ideal"
def TX2 : u_T := fun k => match k with
  | 0 => ("StairIdeals$Ideal", "generators", "[I", true)
  | _ => ("StairIdeals$Ideal", "size", "I", false)
def tyX2 : Nat → FieldType := fun k => match k with
  | 0 => .array .int
  | _ => .int
abbrev wsX20 : List Cond := u_ws RX2 TX2 2
theorem nmX2 : ∀ a, a < 2 → ∀ b, b < 2 → a ≠ b → (TX2 a).2.1 ≠ (TX2 b).2.1 := by decide +kernel
theorem tyX2_ok : ∀ k, k < 2 → parseFieldDescriptor (TX2 k).2.2.1 = some (tyX2 k) := by decide +kernel
abbrev cX2_init : ByteArray := prog_4_method_1_code
def yX2_init : MethodName := ⟨RX2, "<init>", "()V"⟩
abbrev cX2_copyFrom : ByteArray := prog_4_method_2_code
def yX2_copyFrom : MethodName := ⟨RX2, "copyFrom", "(LStairIdeals$Ideal;)V"⟩
abbrev cX2_contains : ByteArray := prog_4_method_3_code
def yX2_contains : MethodName := ⟨RX2, "contains", "(I)Z"⟩
abbrev cX2_isWithin : ByteArray := prog_4_method_4_code
def yX2_isWithin : MethodName := ⟨RX2, "isWithin", "(LStairIdeals$Ideal;)Z"⟩
abbrev cX2_isCommonMultiple : ByteArray := prog_4_method_5_code
def yX2_isCommonMultiple : MethodName := ⟨RX2, "isCommonMultiple", "(I)Z"⟩
abbrev cX2_allDivide : ByteArray := prog_4_method_6_code
def yX2_allDivide : MethodName := ⟨RX2, "allDivide", "(I)Z"⟩
def RX3 : String := "StairIdeals$Monomial"
def TX3 : u_T := fun k => match k with
  | _ => ("", "", "", false)
def tyX3 : Nat → FieldType := fun k => match k with
  | _ => .int
abbrev wsX30 : List Cond := u_ws RX3 TX3 0
theorem nmX3 : ∀ a, a < 0 → ∀ b, b < 0 → a ≠ b → (TX3 a).2.1 ≠ (TX3 b).2.1 := by decide +kernel
theorem tyX3_ok : ∀ k, k < 0 → parseFieldDescriptor (TX3 k).2.2.1 = some (tyX3 k) := by decide +kernel
abbrev cX3_isCode : ByteArray := prog_5_method_2_code
def yX3_isCode : MethodName := ⟨RX3, "isCode", "(I)Z"⟩
abbrev cX3_ofCode : ByteArray := prog_5_method_3_code
def yX3_ofCode : MethodName := ⟨RX3, "ofCode", "(I)I"⟩
abbrev cX3_toCode : ByteArray := prog_5_method_4_code
def yX3_toCode : MethodName := ⟨RX3, "toCode", "(I)I"⟩
abbrev cX3_exponent : ByteArray := prog_5_method_5_code
def yX3_exponent : MethodName := ⟨RX3, "exponent", "(II)I"⟩
abbrev cX3_power : ByteArray := prog_5_method_6_code
def yX3_power : MethodName := ⟨RX3, "power", "(II)I"⟩
abbrev cX3_divides : ByteArray := prog_5_method_7_code
def yX3_divides : MethodName := ⟨RX3, "divides", "(II)Z"⟩
abbrev cX3_isTooHigh : ByteArray := prog_5_method_8_code
def yX3_isTooHigh : MethodName := ⟨RX3, "isTooHigh", "(I)Z"⟩
abbrev cX3_support : ByteArray := prog_5_method_9_code
def yX3_support : MethodName := ⟨RX3, "support", "(I)I"⟩
abbrev cX3_ofSet : ByteArray := prog_5_method_10_code
def yX3_ofSet : MethodName := ⟨RX3, "ofSet", "(I)I"⟩
abbrev cX3_ofDegree : ByteArray := prog_5_method_11_code
def yX3_ofDegree : MethodName := ⟨RX3, "ofDegree", "(I)I"⟩
def RX4 : String := "StairIdeals$Pad"
def TX4 : u_T := fun k => match k with
  | 0 => ("StairIdeals$Pad", "monomials", "[I", true)
  | 1 => ("StairIdeals$Pad", "found", "I", false)
  | 2 => ("StairIdeals$Pad", "size", "I", false)
  | 3 => ("StairIdeals$Pad", "signs", "[I", true)
  | 4 => ("StairIdeals$Pad", "state", "I", false)
  | 5 => ("StairIdeals$Pad", "letter", "I", false)
  | _ => ("StairIdeals$Pad", "current", "I", false)
def tyX4 : Nat → FieldType := fun k => match k with
  | 0 => .array .int
  | 1 => .int
  | 2 => .int
  | 3 => .array .int
  | 4 => .int
  | 5 => .int
  | _ => .int
abbrev wsX40 : List Cond := u_ws RX4 TX4 7
theorem nmX4 : ∀ a, a < 7 → ∀ b, b < 7 → a ≠ b → (TX4 a).2.1 ≠ (TX4 b).2.1 := by decide +kernel
theorem tyX4_ok : ∀ k, k < 7 → parseFieldDescriptor (TX4 k).2.2.1 = some (tyX4 k) := by decide +kernel
abbrev cX4_init : ByteArray := prog_6_method_1_code
def yX4_init : MethodName := ⟨RX4, "<init>", "()V"⟩
abbrev cX4_append : ByteArray := prog_6_method_2_code
def yX4_append : MethodName := ⟨RX4, "append", "(I)Z"⟩
abbrev cX4_read : ByteArray := prog_6_method_3_code
def yX4_read : MethodName := ⟨RX4, "read", "()I"⟩
abbrev cX4_begin : ByteArray := prog_6_method_4_code
def yX4_begin : MethodName := ⟨RX4, "begin", "()V"⟩
abbrev cX4_accept : ByteArray := prog_6_method_5_code
def yX4_accept : MethodName := ⟨RX4, "accept", "(I)Z"⟩
abbrev cX4_endMonomial : ByteArray := prog_6_method_6_code
def yX4_endMonomial : MethodName := ⟨RX4, "endMonomial", "()Z"⟩
abbrev cX4_acceptLetter : ByteArray := prog_6_method_7_code
def yX4_acceptLetter : MethodName := ⟨RX4, "acceptLetter", "(I)Z"⟩
abbrev cX4_acceptFigure : ByteArray := prog_6_method_8_code
def yX4_acceptFigure : MethodName := ⟨RX4, "acceptFigure", "(I)Z"⟩
def RX5 : String := "StairIdeals$Share"
def TX5 : u_T := fun k => match k with
  | _ => ("", "", "", false)
def tyX5 : Nat → FieldType := fun k => match k with
  | _ => .int
abbrev wsX50 : List Cond := u_ws RX5 TX5 0
theorem nmX5 : ∀ a, a < 0 → ∀ b, b < 0 → a ≠ b → (TX5 a).2.1 ≠ (TX5 b).2.1 := by decide +kernel
theorem tyX5_ok : ∀ k, k < 0 → parseFieldDescriptor (TX5 k).2.2.1 = some (tyX5 k) := by decide +kernel
abbrev cX5_single : ByteArray := prog_7_method_2_code
def yX5_single : MethodName := ⟨RX5, "single", "(II)F"⟩
abbrev cX5_singleBits : ByteArray := prog_7_method_3_code
def yX5_singleBits : MethodName := ⟨RX5, "singleBits", "(II)J"⟩
abbrev cX5_doubleBits : ByteArray := prog_7_method_4_code
def yX5_doubleBits : MethodName := ⟨RX5, "doubleBits", "(II)J"⟩
abbrev cX5_thousandths : ByteArray := prog_7_method_5_code
def yX5_thousandths : MethodName := ⟨RX5, "thousandths", "(II)J"⟩
def RX6 : String := "StairIdeals$Stairs"
def TX6 : u_T := fun k => match k with
  | _ => ("StairIdeals$Stairs", "heights", "[I", true)
def tyX6 : Nat → FieldType := fun k => match k with
  | _ => .array .int
abbrev wsX60 : List Cond := u_ws RX6 TX6 1
theorem nmX6 : ∀ a, a < 1 → ∀ b, b < 1 → a ≠ b → (TX6 a).2.1 ≠ (TX6 b).2.1 := by decide +kernel
theorem tyX6_ok : ∀ k, k < 1 → parseFieldDescriptor (TX6 k).2.2.1 = some (tyX6 k) := by decide +kernel
abbrev cX6_init : ByteArray := prog_8_method_1_code
def yX6_init : MethodName := ⟨RX6, "<init>", "()V"⟩
abbrev cX6_becomeNothing : ByteArray := prog_8_method_2_code
def yX6_becomeNothing : MethodName := ⟨RX6, "becomeNothing", "()V"⟩
abbrev cX6_becomeAll : ByteArray := prog_8_method_3_code
def yX6_becomeAll : MethodName := ⟨RX6, "becomeAll", "()V"⟩
abbrev cX6_become : ByteArray := prog_8_method_4_code
def yX6_become : MethodName := ⟨RX6, "become", "(LStairIdeals$Ideal;)V"⟩
abbrev cX6_lowerBy : ByteArray := prog_8_method_5_code
def yX6_lowerBy : MethodName := ⟨RX6, "lowerBy", "(LStairIdeals$Ideal;)V"⟩
abbrev cX6_lower : ByteArray := prog_8_method_6_code
def yX6_lower : MethodName := ⟨RX6, "lower", "(I)V"⟩
abbrev cX6_raiseBy : ByteArray := prog_8_method_7_code
def yX6_raiseBy : MethodName := ⟨RX6, "raiseBy", "(LStairIdeals$Stairs;)V"⟩
abbrev cX6_contains : ByteArray := prog_8_method_8_code
def yX6_contains : MethodName := ⟨RX6, "contains", "(I)Z"⟩
abbrev cX6_cellOf : ByteArray := prog_8_method_9_code
def yX6_cellOf : MethodName := ⟨RX6, "cellOf", "(I)I"⟩
abbrev cX6_monomialOf : ByteArray := prog_8_method_10_code
def yX6_monomialOf : MethodName := ⟨RX6, "monomialOf", "(I)I"⟩
abbrev cX6_spreadUp : ByteArray := prog_8_method_11_code
def yX6_spreadUp : MethodName := ⟨RX6, "spreadUp", "()V"⟩
abbrev cX6_spreadDown : ByteArray := prog_8_method_12_code
def yX6_spreadDown : MethodName := ⟨RX6, "spreadDown", "()V"⟩
abbrev cX6_leastBefore : ByteArray := prog_8_method_13_code
def yX6_leastBefore : MethodName := ⟨RX6, "leastBefore", "(I)I"⟩
abbrev cX6_mostBehind : ByteArray := prog_8_method_14_code
def yX6_mostBehind : MethodName := ⟨RX6, "mostBehind", "(I)I"⟩
abbrev cX6_generatorAt : ByteArray := prog_8_method_15_code
def yX6_generatorAt : MethodName := ⟨RX6, "generatorAt", "(I)I"⟩
abbrev cX6_cellInPartOrder : ByteArray := prog_8_method_16_code
def yX6_cellInPartOrder : MethodName := ⟨RX6, "cellInPartOrder", "(I)I"⟩
abbrev cX6_partAt : ByteArray := prog_8_method_17_code
def yX6_partAt : MethodName := ⟨RX6, "partAt", "(I)I"⟩
abbrev cX6_primes : ByteArray := prog_8_method_18_code
def yX6_primes : MethodName := ⟨RX6, "primes", "()I"⟩
abbrev cX6_dimension : ByteArray := prog_8_method_19_code
def yX6_dimension : MethodName := ⟨RX6, "dimension", "()I"⟩
abbrev cX6_standardInAll : ByteArray := prog_8_method_20_code
def yX6_standardInAll : MethodName := ⟨RX6, "standardInAll", "()I"⟩
def RX7 : String := "StairIdeals$Survey"
def TX7 : u_T := fun k => match k with
  | 0 => ("StairIdeals$Survey", "stairs", "LStairIdeals$Stairs;", true)
  | 1 => ("StairIdeals$Survey", "factors", "[I", true)
  | 2 => ("StairIdeals$Survey", "complex", "LStairIdeals$Complex;", true)
  | _ => ("StairIdeals$Survey", "tree", "LStairIdeals$Tree;", true)
def tyX7 : Nat → FieldType := fun k => match k with
  | 0 => .object "StairIdeals$Stairs"
  | 1 => .array .int
  | 2 => .object "StairIdeals$Complex"
  | _ => .object "StairIdeals$Tree"
abbrev wsX70 : List Cond := u_ws RX7 TX7 4
theorem nmX7 : ∀ a, a < 4 → ∀ b, b < 4 → a ≠ b → (TX7 a).2.1 ≠ (TX7 b).2.1 := by decide +kernel
theorem tyX7_ok : ∀ k, k < 4 → parseFieldDescriptor (TX7 k).2.2.1 = some (tyX7 k) := by decide +kernel
abbrev cX7_init : ByteArray := prog_9_method_1_code
def yX7_init : MethodName := ⟨RX7, "<init>", "()V"⟩
abbrev cX7_look : ByteArray := prog_9_method_2_code
def yX7_look : MethodName := ⟨RX7, "look", "(LStairIdeals$Ideal;)V"⟩
abbrev cX7_partCount : ByteArray := prog_9_method_3_code
def yX7_partCount : MethodName := ⟨RX7, "partCount", "()I"⟩
abbrev cX7_partCode : ByteArray := prog_9_method_4_code
def yX7_partCode : MethodName := ⟨RX7, "partCode", "(I)I"⟩
abbrev cX7_seriesFactor : ByteArray := prog_9_method_5_code
def yX7_seriesFactor : MethodName := ⟨RX7, "seriesFactor", "(I)I"⟩
abbrev cX7_standardOfDegree : ByteArray := prog_9_method_6_code
def yX7_standardOfDegree : MethodName := ⟨RX7, "standardOfDegree", "(I)I"⟩
abbrev cX7_findFactors : ByteArray := prog_9_method_7_code
def yX7_findFactors : MethodName := ⟨RX7, "findFactors", "()V"⟩
abbrev cX7_addSteps : ByteArray := prog_9_method_8_code
def yX7_addSteps : MethodName := ⟨RX7, "addSteps", "(III)V"⟩
abbrev cX7_pivots : ByteArray := prog_9_method_9_code
def yX7_pivots : MethodName := ⟨RX7, "pivots", "(LStairIdeals$Ideal;)I"⟩
abbrev cX7_nestedPivots : ByteArray := prog_9_method_10_code
def yX7_nestedPivots : MethodName := ⟨RX7, "nestedPivots", "(LStairIdeals$Ideal;)I"⟩
abbrev cX7_latticeSize : ByteArray := prog_9_method_11_code
def yX7_latticeSize : MethodName := ⟨RX7, "latticeSize", "(LStairIdeals$Ideal;)I"⟩
abbrev cX7_holesInAll : ByteArray := prog_9_method_12_code
def yX7_holesInAll : MethodName := ⟨RX7, "holesInAll", "(LStairIdeals$Ideal;I)I"⟩
abbrev cX7_holesAt : ByteArray := prog_9_method_13_code
def yX7_holesAt : MethodName := ⟨RX7, "holesAt", "(LStairIdeals$Ideal;II)I"⟩
def RX8 : String := "StairIdeals$Tree"
def TX8 : u_T := fun k => match k with
  | 0 => ("StairIdeals$Tree", "pivots", "I", false)
  | 1 => ("StairIdeals$Tree", "deepest", "I", false)
  | _ => ("StairIdeals$Tree", "rows", "[[I", true)
def tyX8 : Nat → FieldType := fun k => match k with
  | 0 => .int
  | 1 => .int
  | _ => .array (.array .int)
abbrev wsX80 : List Cond := u_ws RX8 TX8 3
theorem nmX8 : ∀ a, a < 3 → ∀ b, b < 3 → a ≠ b → (TX8 a).2.1 ≠ (TX8 b).2.1 := by decide +kernel
theorem tyX8_ok : ∀ k, k < 3 → parseFieldDescriptor (TX8 k).2.2.1 = some (tyX8 k) := by decide +kernel
abbrev cX8_init : ByteArray := prog_10_method_1_code
def yX8_init : MethodName := ⟨RX8, "<init>", "()V"⟩
abbrev cX8_grow : ByteArray := prog_10_method_2_code
def yX8_grow : MethodName := ⟨RX8, "grow", "(LStairIdeals$Ideal;)V"⟩
abbrev cX8_branch : ByteArray := prog_10_method_3_code
def yX8_branch : MethodName := ⟨RX8, "branch", "(LStairIdeals$Tree;II)V"⟩
abbrev cX8_pivotOf : ByteArray := prog_10_method_4_code
def yX8_pivotOf : MethodName := ⟨RX8, "pivotOf", "([II)I"⟩
abbrev cX8_keepWithout : ByteArray := prog_10_method_5_code
def yX8_keepWithout : MethodName := ⟨RX8, "keepWithout", "([III[I)I"⟩
abbrev cX8_divide : ByteArray := prog_10_method_6_code
def yX8_divide : MethodName := ⟨RX8, "divide", "([III[I)I"⟩
abbrev cX8_someDivides : ByteArray := prog_10_method_7_code
def yX8_someDivides : MethodName := ⟨RX8, "someDivides", "([III)Z"⟩
def RX9 : String := "StairIdeals$Workshop"
def TX9 : u_T := fun k => match k with
  | 0 => ("StairIdeals$Workshop", "made", "LStairIdeals$Stairs;", true)
  | _ => ("StairIdeals$Workshop", "other", "LStairIdeals$Stairs;", true)
def tyX9 : Nat → FieldType := fun k => match k with
  | 0 => .object "StairIdeals$Stairs"
  | _ => .object "StairIdeals$Stairs"
abbrev wsX90 : List Cond := u_ws RX9 TX9 2
theorem nmX9 : ∀ a, a < 2 → ∀ b, b < 2 → a ≠ b → (TX9 a).2.1 ≠ (TX9 b).2.1 := by decide +kernel
theorem tyX9_ok : ∀ k, k < 2 → parseFieldDescriptor (TX9 k).2.2.1 = some (tyX9 k) := by decide +kernel
abbrev cX9_init : ByteArray := prog_11_method_1_code
def yX9_init : MethodName := ⟨RX9, "<init>", "()V"⟩
abbrev cX9_gather : ByteArray := prog_11_method_2_code
def yX9_gather : MethodName := ⟨RX9, "gather", "(LStairIdeals$Pad;)V"⟩
abbrev cX9_combine : ByteArray := prog_11_method_3_code
def yX9_combine : MethodName := ⟨RX9, "combine", "(ILStairIdeals$Ideal;LStairIdeals$Ideal;)Z"⟩
abbrev cX9_productFits : ByteArray := prog_11_method_4_code
def yX9_productFits : MethodName := ⟨RX9, "productFits", "(LStairIdeals$Ideal;LStairIdeals$Ideal;)Z"⟩
abbrev cX9_divideOther : ByteArray := prog_11_method_5_code
def yX9_divideOther : MethodName := ⟨RX9, "divideOther", "(LStairIdeals$Ideal;)V"⟩
abbrev cX9_radicalOf : ByteArray := prog_11_method_6_code
def yX9_radicalOf : MethodName := ⟨RX9, "radicalOf", "(LStairIdeals$Ideal;)V"⟩
abbrev cX9_meetParts : ByteArray := prog_11_method_7_code
def yX9_meetParts : MethodName := ⟨RX9, "meetParts", "(LStairIdeals$Stairs;I)V"⟩
abbrev cX9_turnParts : ByteArray := prog_11_method_8_code
def yX9_turnParts : MethodName := ⟨RX9, "turnParts", "(LStairIdeals$Stairs;I)V"⟩
abbrev cX9_figuresOf : ByteArray := prog_11_method_9_code
def yX9_figuresOf : MethodName := ⟨RX9, "figuresOf", "(I)I"⟩
abbrev cX9_deliver : ByteArray := prog_11_method_10_code
def yX9_deliver : MethodName := ⟨RX9, "deliver", "(LStairIdeals$Ideal;)I"⟩
abbrev cX9_fill : ByteArray := prog_11_method_11_code
def yX9_fill : MethodName := ⟨RX9, "fill", "(LStairIdeals$Ideal;)V"⟩
def RX10 : String := "StairIdeals"
def TX10 : u_T := fun k => match k with
  | 0 => ("StairIdeals", "pad", "LStairIdeals$Pad;", true)
  | 1 => ("StairIdeals", "holdings", "LStairIdeals$Holdings;", true)
  | 2 => ("StairIdeals", "images", "[LStairIdeals$Holdings;", true)
  | 3 => ("StairIdeals", "workshop", "LStairIdeals$Workshop;", true)
  | _ => ("StairIdeals", "survey", "LStairIdeals$Survey;", true)
def tyX10 : Nat → FieldType := fun k => match k with
  | 0 => .object "StairIdeals$Pad"
  | 1 => .object "StairIdeals$Holdings"
  | 2 => .array (.object "StairIdeals$Holdings")
  | 3 => .object "StairIdeals$Workshop"
  | _ => .object "StairIdeals$Survey"
abbrev wsX100 : List Cond := u_ws RX10 TX10 5
theorem nmX10 : ∀ a, a < 5 → ∀ b, b < 5 → a ≠ b → (TX10 a).2.1 ≠ (TX10 b).2.1 := by decide +kernel
theorem tyX10_ok : ∀ k, k < 5 → parseFieldDescriptor (TX10 k).2.2.1 = some (tyX10 k) := by decide +kernel
abbrev cX10_init : ByteArray := prog_1_method_1_code
def yX10_init : MethodName := ⟨RX10, "<init>", "()V"⟩
abbrev cX10_say : ByteArray := prog_1_method_2_code
def yX10_say : MethodName := ⟨RX10, "say", "(I)I"⟩
abbrev cX10_wipe : ByteArray := prog_1_method_3_code
def yX10_wipe : MethodName := ⟨RX10, "wipe", "()I"⟩
abbrev cX10_fault : ByteArray := prog_1_method_4_code
def yX10_fault : MethodName := ⟨RX10, "fault", "()I"⟩
abbrev cX10_load : ByteArray := prog_1_method_5_code
def yX10_load : MethodName := ⟨RX10, "load", "(I)I"⟩
abbrev cX10_generator : ByteArray := prog_1_method_6_code
def yX10_generator : MethodName := ⟨RX10, "generator", "(II)I"⟩
abbrev cX10_has : ByteArray := prog_1_method_7_code
def yX10_has : MethodName := ⟨RX10, "has", "(II)I"⟩
abbrev cX10_make : ByteArray := prog_1_method_8_code
def yX10_make : MethodName := ⟨RX10, "make", "(IIII)I"⟩
abbrev cX10_compare : ByteArray := prog_1_method_9_code
def yX10_compare : MethodName := ⟨RX10, "compare", "(II)I"⟩
abbrev cX10_part : ByteArray := prog_1_method_10_code
def yX10_part : MethodName := ⟨RX10, "part", "(II)I"⟩
abbrev cX10_prime : ByteArray := prog_1_method_11_code
def yX10_prime : MethodName := ⟨RX10, "prime", "(II)I"⟩
abbrev cX10_primary : ByteArray := prog_1_method_12_code
def yX10_primary : MethodName := ⟨RX10, "primary", "(III)I"⟩
abbrev cX10_dual : ByteArray := prog_1_method_13_code
def yX10_dual : MethodName := ⟨RX10, "dual", "(III)I"⟩
abbrev cX10_count : ByteArray := prog_1_method_14_code
def yX10_count : MethodName := ⟨RX10, "count", "(II)I"⟩
abbrev cX10_series : ByteArray := prog_1_method_15_code
def yX10_series : MethodName := ⟨RX10, "series", "(II)I"⟩
abbrev cX10_facts : ByteArray := prog_1_method_16_code
def yX10_facts : MethodName := ⟨RX10, "facts", "(II)I"⟩
abbrev cX10_betti : ByteArray := prog_1_method_17_code
def yX10_betti : MethodName := ⟨RX10, "betti", "(II)I"⟩
abbrev cX10_bettiAt : ByteArray := prog_1_method_18_code
def yX10_bettiAt : MethodName := ⟨RX10, "bettiAt", "(III)I"⟩
abbrev cX10_share : ByteArray := prog_1_method_19_code
def yX10_share : MethodName := ⟨RX10, "share", "(III)J"⟩
abbrev cX10_hold : ByteArray := prog_1_method_20_code
def yX10_hold : MethodName := ⟨RX10, "hold", "(IIIZ)I"⟩
abbrev cX10_take : ByteArray := prog_1_method_21_code
def yX10_take : MethodName := ⟨RX10, "take", "(III)I"⟩
abbrev cX10_measure : ByteArray := prog_1_method_22_code
def yX10_measure : MethodName := ⟨RX10, "measure", "(II)I"⟩
abbrev cX10_image : ByteArray := prog_1_method_23_code
def yX10_image : MethodName := ⟨RX10, "image", "(I)I"⟩
abbrev cX10_restore : ByteArray := prog_1_method_24_code
def yX10_restore : MethodName := ⟨RX10, "restore", "(I)I"⟩
abbrev cX10_told : ByteArray := prog_1_method_25_code
def yX10_told : MethodName := ⟨RX10, "told", "(I)I"⟩
abbrev cX10_isIdeal : ByteArray := prog_1_method_26_code
def yX10_isIdeal : MethodName := ⟨RX10, "isIdeal", "(I)Z"⟩
abbrev cX10_isPlace : ByteArray := prog_1_method_27_code
def yX10_isPlace : MethodName := ⟨RX10, "isPlace", "(II)Z"⟩
abbrev cX10_refuseDegree : ByteArray := prog_1_method_28_code
def yX10_refuseDegree : MethodName := ⟨RX10, "refuseDegree", "(II)I"⟩
abbrev cX10_placeOfBit : ByteArray := prog_1_method_29_code
def yX10_placeOfBit : MethodName := ⟨RX10, "placeOfBit", "(II)I"⟩
abbrev cX10_placeIsMissing : ByteArray := prog_1_method_30_code
def yX10_placeIsMissing : MethodName := ⟨RX10, "placeIsMissing", "(II)Z"⟩
def RX11 : String := "StairIdealsModel"
def TX11 : u_T := fun k => match k with
  | 0 => ("StairIdealsModel", "codes", "[I", true)
  | 1 => ("StairIdealsModel", "many", "[I", true)
  | 2 => ("StairIdealsModel", "holds", "[I", true)
  | 3 => ("StairIdealsModel", "made", "[Z", true)
  | 4 => ("StairIdealsModel", "pad", "[I", true)
  | 5 => ("StairIdealsModel", "padMany", "I", false)
  | 6 => ("StairIdealsModel", "read", "[I", true)
  | 7 => ("StairIdealsModel", "reads", "I", false)
  | 8 => ("StairIdealsModel", "last", "I", false)
  | 9 => ("StairIdealsModel", "product", "[I", true)
  | 10 => ("StairIdealsModel", "products", "I", false)
  | 11 => ("StairIdealsModel", "standard", "[Z", true)
  | 12 => ("StairIdealsModel", "parts", "[I", true)
  | 13 => ("StairIdealsModel", "partMany", "I", false)
  | 14 => ("StairIdealsModel", "todo", "[I", true)
  | 15 => ("StairIdealsModel", "todoMany", "[I", true)
  | 16 => ("StairIdealsModel", "todoDeep", "[I", true)
  | 17 => ("StairIdealsModel", "todos", "I", false)
  | 18 => ("StairIdealsModel", "list", "[I", true)
  | 19 => ("StairIdealsModel", "listMany", "I", false)
  | 20 => ("StairIdealsModel", "pivots", "I", false)
  | 21 => ("StairIdealsModel", "deepest", "I", false)
  | 22 => ("StairIdealsModel", "lattice", "[Z", true)
  | 23 => ("StairIdealsModel", "faces", "I", false)
  | 24 => ("StairIdealsModel", "basis", "[I", true)
  | 25 => ("StairIdealsModel", "figures", "J", false)
  | 26 => ("StairIdealsModel", "twos", "I", false)
  | 27 => ("StairIdealsModel", "kept", "[I", true)
  | 28 => ("StairIdealsModel", "isKept", "[Z", true)
  | 29 => ("StairIdealsModel", "keptAt", "I", false)
  | _ => ("StairIdealsModel", "isWriting", "Z", false)
def tyX11 : Nat → FieldType := fun k => match k with
  | 0 => .array .int
  | 1 => .array .int
  | 2 => .array .int
  | 3 => .array .boolean
  | 4 => .array .int
  | 5 => .int
  | 6 => .array .int
  | 7 => .int
  | 8 => .int
  | 9 => .array .int
  | 10 => .int
  | 11 => .array .boolean
  | 12 => .array .int
  | 13 => .int
  | 14 => .array .int
  | 15 => .array .int
  | 16 => .array .int
  | 17 => .int
  | 18 => .array .int
  | 19 => .int
  | 20 => .int
  | 21 => .int
  | 22 => .array .boolean
  | 23 => .int
  | 24 => .array .int
  | 25 => .long
  | 26 => .int
  | 27 => .array .int
  | 28 => .array .boolean
  | 29 => .int
  | _ => .boolean
abbrev wsX110 : List Cond := u_ws RX11 TX11 31
theorem nmX11 : ∀ a, a < 31 → ∀ b, b < 31 → a ≠ b → (TX11 a).2.1 ≠ (TX11 b).2.1 := by decide +kernel
theorem tyX11_ok : ∀ k, k < 31 → parseFieldDescriptor (TX11 k).2.2.1 = some (tyX11 k) := by decide +kernel
abbrev cX11_init : ByteArray := prog_13_method_1_code
def yX11_init : MethodName := ⟨RX11, "<init>", "()V"⟩
abbrev cX11_in : ByteArray := prog_13_method_3_code
def yX11_in : MethodName := ⟨RX11, "in", "(JJJ)Z"⟩
abbrev cX11_isIdeal : ByteArray := prog_13_method_4_code
def yX11_isIdeal : MethodName := ⟨RX11, "isIdeal", "(I)Z"⟩
abbrev cX11_isPlace : ByteArray := prog_13_method_5_code
def yX11_isPlace : MethodName := ⟨RX11, "isPlace", "(II)Z"⟩
abbrev cX11_less : ByteArray := prog_13_method_6_code
def yX11_less : MethodName := ⟨RX11, "less", "(II)I"⟩
abbrev cX11_greater : ByteArray := prog_13_method_7_code
def yX11_greater : MethodName := ⟨RX11, "greater", "(II)I"⟩
abbrev cX11_ones : ByteArray := prog_13_method_8_code
def yX11_ones : MethodName := ⟨RX11, "ones", "(I)I"⟩
abbrev cX11_ten : ByteArray := prog_13_method_9_code
def yX11_ten : MethodName := ⟨RX11, "ten", "(I)I"⟩
abbrev cX11_power : ByteArray := prog_13_method_10_code
def yX11_power : MethodName := ⟨RX11, "power", "(II)I"⟩
abbrev cX11_isCode : ByteArray := prog_13_method_11_code
def yX11_isCode : MethodName := ⟨RX11, "isCode", "(I)Z"⟩
abbrev cX11_codeAt : ByteArray := prog_13_method_12_code
def yX11_codeAt : MethodName := ⟨RX11, "codeAt", "(I)I"⟩
abbrev cX11_placeOf : ByteArray := prog_13_method_13_code
def yX11_placeOf : MethodName := ⟨RX11, "placeOf", "(I)I"⟩
abbrev cX11_divides : ByteArray := prog_13_method_14_code
def yX11_divides : MethodName := ⟨RX11, "divides", "(II)Z"⟩
abbrev cX11_together : ByteArray := prog_13_method_15_code
def yX11_together : MethodName := ⟨RX11, "together", "(II)I"⟩
abbrev cX11_capped : ByteArray := prog_13_method_16_code
def yX11_capped : MethodName := ⟨RX11, "capped", "(II)I"⟩
abbrev cX11_support : ByteArray := prog_13_method_17_code
def yX11_support : MethodName := ⟨RX11, "support", "(I)I"⟩
abbrev cX11_at : ByteArray := prog_13_method_18_code
def yX11_at : MethodName := ⟨RX11, "at", "(II)I"⟩
abbrev cX11_isIn : ByteArray := prog_13_method_19_code
def yX11_isIn : MethodName := ⟨RX11, "isIn", "(II)Z"⟩
abbrev cX11_isLeast : ByteArray := prog_13_method_20_code
def yX11_isLeast : MethodName := ⟨RX11, "isLeast", "(I)Z"⟩
abbrev cX11_keep : ByteArray := prog_13_method_21_code
def yX11_keep : MethodName := ⟨RX11, "keep", "(I)I"⟩
abbrev cX11_markAbove : ByteArray := prog_13_method_22_code
def yX11_markAbove : MethodName := ⟨RX11, "markAbove", "(I)V"⟩
abbrev cX11_clear : ByteArray := prog_13_method_23_code
def yX11_clear : MethodName := ⟨RX11, "clear", "()V"⟩
abbrev cX11_say : ByteArray := prog_13_method_24_code
def yX11_say : MethodName := ⟨RX11, "say", "(I)I"⟩
abbrev cX11_wipe : ByteArray := prog_13_method_25_code
def yX11_wipe : MethodName := ⟨RX11, "wipe", "()I"⟩
abbrev cX11_goOn : ByteArray := prog_13_method_26_code
def yX11_goOn : MethodName := ⟨RX11, "goOn", "(II)I"⟩
abbrev cX11_fault : ByteArray := prog_13_method_27_code
def yX11_fault : MethodName := ⟨RX11, "fault", "()I"⟩
abbrev cX11_load : ByteArray := prog_13_method_28_code
def yX11_load : MethodName := ⟨RX11, "load", "(I)I"⟩
abbrev cX11_generator : ByteArray := prog_13_method_29_code
def yX11_generator : MethodName := ⟨RX11, "generator", "(II)I"⟩
abbrev cX11_has : ByteArray := prog_13_method_30_code
def yX11_has : MethodName := ⟨RX11, "has", "(II)I"⟩
abbrev cX11_isQuotient : ByteArray := prog_13_method_31_code
def yX11_isQuotient : MethodName := ⟨RX11, "isQuotient", "(III)Z"⟩
abbrev cX11_isRoot : ByteArray := prog_13_method_32_code
def yX11_isRoot : MethodName := ⟨RX11, "isRoot", "(II)Z"⟩
abbrev cX11_isMade : ByteArray := prog_13_method_33_code
def yX11_isMade : MethodName := ⟨RX11, "isMade", "(IIII)Z"⟩
abbrev cX11_packed : ByteArray := prog_13_method_34_code
def yX11_packed : MethodName := ⟨RX11, "packed", "(II)I"⟩
abbrev cX11_isUnder : ByteArray := prog_13_method_35_code
def yX11_isUnder : MethodName := ⟨RX11, "isUnder", "(II)Z"⟩
abbrev cX11_addProduct : ByteArray := prog_13_method_36_code
def yX11_addProduct : MethodName := ⟨RX11, "addProduct", "(I)V"⟩
abbrev cX11_isHigh : ByteArray := prog_13_method_37_code
def yX11_isHigh : MethodName := ⟨RX11, "isHigh", "(I)Z"⟩
abbrev cX11_multiply : ByteArray := prog_13_method_38_code
def yX11_multiply : MethodName := ⟨RX11, "multiply", "(III)I"⟩
abbrev cX11_make : ByteArray := prog_13_method_39_code
def yX11_make : MethodName := ⟨RX11, "make", "(IIII)I"⟩
abbrev cX11_isWithin : ByteArray := prog_13_method_40_code
def yX11_isWithin : MethodName := ⟨RX11, "isWithin", "(II)Z"⟩
abbrev cX11_compare : ByteArray := prog_13_method_41_code
def yX11_compare : MethodName := ⟨RX11, "compare", "(II)I"⟩
abbrev cX11_findStandard : ByteArray := prog_13_method_42_code
def yX11_findStandard : MethodName := ⟨RX11, "findStandard", "(I)V"⟩
abbrev cX11_isHighest : ByteArray := prog_13_method_43_code
def yX11_isHighest : MethodName := ⟨RX11, "isHighest", "(I)Z"⟩
abbrev cX11_partBy : ByteArray := prog_13_method_44_code
def yX11_partBy : MethodName := ⟨RX11, "partBy", "(I)I"⟩
abbrev cX11_findParts : ByteArray := prog_13_method_45_code
def yX11_findParts : MethodName := ⟨RX11, "findParts", "(I)V"⟩
abbrev cX11_layPart : ByteArray := prog_13_method_46_code
def yX11_layPart : MethodName := ⟨RX11, "layPart", "(I)V"⟩
abbrev cX11_part : ByteArray := prog_13_method_47_code
def yX11_part : MethodName := ⟨RX11, "part", "(II)I"⟩
abbrev cX11_primesOf : ByteArray := prog_13_method_48_code
def yX11_primesOf : MethodName := ⟨RX11, "primesOf", "(I)I"⟩
abbrev cX11_prime : ByteArray := prog_13_method_49_code
def yX11_prime : MethodName := ⟨RX11, "prime", "(II)I"⟩
abbrev cX11_isInPart : ByteArray := prog_13_method_50_code
def yX11_isInPart : MethodName := ⟨RX11, "isInPart", "(II)Z"⟩
abbrev cX11_primary : ByteArray := prog_13_method_51_code
def yX11_primary : MethodName := ⟨RX11, "primary", "(III)I"⟩
abbrev cX11_dualBy : ByteArray := prog_13_method_52_code
def yX11_dualBy : MethodName := ⟨RX11, "dualBy", "(II)I"⟩
abbrev cX11_dual : ByteArray := prog_13_method_53_code
def yX11_dual : MethodName := ⟨RX11, "dual", "(III)I"⟩
abbrev cX11_choose : ByteArray := prog_13_method_54_code
def yX11_choose : MethodName := ⟨RX11, "choose", "(II)I"⟩
abbrev cX11_standsFor : ByteArray := prog_13_method_55_code
def yX11_standsFor : MethodName := ⟨RX11, "standsFor", "(II)I"⟩
abbrev cX11_countOf : ByteArray := prog_13_method_56_code
def yX11_countOf : MethodName := ⟨RX11, "countOf", "(I)I"⟩
abbrev cX11_count : ByteArray := prog_13_method_57_code
def yX11_count : MethodName := ⟨RX11, "count", "(II)I"⟩
abbrev cX11_series : ByteArray := prog_13_method_58_code
def yX11_series : MethodName := ⟨RX11, "series", "(II)I"⟩
abbrev cX11_dimension : ByteArray := prog_13_method_59_code
def yX11_dimension : MethodName := ⟨RX11, "dimension", "()I"⟩
abbrev cX11_sizeOf : ByteArray := prog_13_method_60_code
def yX11_sizeOf : MethodName := ⟨RX11, "sizeOf", "(I)I"⟩
abbrev cX11_isLeaf : ByteArray := prog_13_method_61_code
def yX11_isLeaf : MethodName := ⟨RX11, "isLeaf", "()Z"⟩
abbrev cX11_pivot : ByteArray := prog_13_method_62_code
def yX11_pivot : MethodName := ⟨RX11, "pivot", "()I"⟩
abbrev cX11_push : ByteArray := prog_13_method_63_code
def yX11_push : MethodName := ⟨RX11, "push", "(I)V"⟩
abbrev cX11_opens : ByteArray := prog_13_method_64_code
def yX11_opens : MethodName := ⟨RX11, "opens", "(I)V"⟩
abbrev cX11_pushSum : ByteArray := prog_13_method_65_code
def yX11_pushSum : MethodName := ⟨RX11, "pushSum", "(II)V"⟩
abbrev cX11_lessened : ByteArray := prog_13_method_66_code
def yX11_lessened : MethodName := ⟨RX11, "lessened", "(II)I"⟩
abbrev cX11_isTooMuch : ByteArray := prog_13_method_67_code
def yX11_isTooMuch : MethodName := ⟨RX11, "isTooMuch", "(II)Z"⟩
abbrev cX11_pushQuotient : ByteArray := prog_13_method_68_code
def yX11_pushQuotient : MethodName := ⟨RX11, "pushQuotient", "(II)V"⟩
abbrev cX11_popList : ByteArray := prog_13_method_69_code
def yX11_popList : MethodName := ⟨RX11, "popList", "()V"⟩
abbrev cX11_findTree : ByteArray := prog_13_method_70_code
def yX11_findTree : MethodName := ⟨RX11, "findTree", "(I)V"⟩
abbrev cX11_findLattice : ByteArray := prog_13_method_71_code
def yX11_findLattice : MethodName := ⟨RX11, "findLattice", "(I)V"⟩
abbrev cX11_latticeMany : ByteArray := prog_13_method_72_code
def yX11_latticeMany : MethodName := ⟨RX11, "latticeMany", "(I)I"⟩
abbrev cX11_sizeTold : ByteArray := prog_13_method_73_code
def yX11_sizeTold : MethodName := ⟨RX11, "sizeTold", "(I)I"⟩
abbrev cX11_facts : ByteArray := prog_13_method_74_code
def yX11_facts : MethodName := ⟨RX11, "facts", "(II)I"⟩
abbrev cX11_without : ByteArray := prog_13_method_75_code
def yX11_without : MethodName := ⟨RX11, "without", "(II)I"⟩
abbrev cX11_findFaces : ByteArray := prog_13_method_76_code
def yX11_findFaces : MethodName := ⟨RX11, "findFaces", "(II)V"⟩
abbrev cX11_facesOf : ByteArray := prog_13_method_77_code
def yX11_facesOf : MethodName := ⟨RX11, "facesOf", "(I)I"⟩
abbrev cX11_border : ByteArray := prog_13_method_78_code
def yX11_border : MethodName := ⟨RX11, "border", "(I)I"⟩
abbrev cX11_rank : ByteArray := prog_13_method_79_code
def yX11_rank : MethodName := ⟨RX11, "rank", "(I)I"⟩
abbrev cX11_holesAt : ByteArray := prog_13_method_80_code
def yX11_holesAt : MethodName := ⟨RX11, "holesAt", "(III)I"⟩
abbrev cX11_betti : ByteArray := prog_13_method_81_code
def yX11_betti : MethodName := ⟨RX11, "betti", "(II)I"⟩
abbrev cX11_bettiAt : ByteArray := prog_13_method_82_code
def yX11_bettiAt : MethodName := ⟨RX11, "bettiAt", "(III)I"⟩
abbrev cX11_nearest : ByteArray := prog_13_method_83_code
def yX11_nearest : MethodName := ⟨RX11, "nearest", "(JJI)V"⟩
abbrev cX11_bits : ByteArray := prog_13_method_84_code
def yX11_bits : MethodName := ⟨RX11, "bits", "(II)J"⟩
abbrev cX11_cut : ByteArray := prog_13_method_85_code
def yX11_cut : MethodName := ⟨RX11, "cut", "()J"⟩
abbrev cX11_share : ByteArray := prog_13_method_86_code
def yX11_share : MethodName := ⟨RX11, "share", "(III)J"⟩
abbrev cX11_holderOf : ByteArray := prog_13_method_87_code
def yX11_holderOf : MethodName := ⟨RX11, "holderOf", "(II)I"⟩
abbrev cX11_copy : ByteArray := prog_13_method_88_code
def yX11_copy : MethodName := ⟨RX11, "copy", "(II)V"⟩
abbrev cX11_hold : ByteArray := prog_13_method_89_code
def yX11_hold : MethodName := ⟨RX11, "hold", "(IIIZ)I"⟩
abbrev cX11_take : ByteArray := prog_13_method_90_code
def yX11_take : MethodName := ⟨RX11, "take", "(III)I"⟩
abbrev cX11_measure : ByteArray := prog_13_method_91_code
def yX11_measure : MethodName := ⟨RX11, "measure", "(II)I"⟩
abbrev cX11_passRow : ByteArray := prog_13_method_92_code
def yX11_passRow : MethodName := ⟨RX11, "passRow", "([II)V"⟩
abbrev cX11_passAll : ByteArray := prog_13_method_93_code
def yX11_passAll : MethodName := ⟨RX11, "passAll", "()V"⟩
abbrev cX11_image : ByteArray := prog_13_method_94_code
def yX11_image : MethodName := ⟨RX11, "image", "(I)I"⟩
abbrev cX11_restore : ByteArray := prog_13_method_95_code
def yX11_restore : MethodName := ⟨RX11, "restore", "(I)I"⟩
abbrev cX11_told : ByteArray := prog_13_method_96_code
def yX11_told : MethodName := ⟨RX11, "told", "(I)I"⟩
def RJ6 : String := "java/lang/Integer"
def TJ6 : u_T := fun k => match k with
  | _ => ("", "", "", false)
def tyJ6 : Nat → FieldType := fun k => match k with
  | _ => .int
abbrev wsJ60 : List Cond := u_ws RJ6 TJ6 0
theorem nmJ6 : ∀ a, a < 0 → ∀ b, b < 0 → a ≠ b → (TJ6 a).2.1 ≠ (TJ6 b).2.1 := by decide +kernel
theorem tyJ6_ok : ∀ k, k < 0 → parseFieldDescriptor (TJ6 k).2.2.1 = some (tyJ6 k) := by decide +kernel
abbrev cJ6_bitCount_0f7a4 : ByteArray := prog_14_method_49_code
def yJ6_bitCount_0f7a4 : MethodName := ⟨RJ6, "bitCount", "(I)I"⟩
def RJ9 : String := "java/lang/Math"
def TJ9 : u_T := fun k => match k with
  | _ => ("", "", "", false)
def tyJ9 : Nat → FieldType := fun k => match k with
  | _ => .int
abbrev wsJ90 : List Cond := u_ws RJ9 TJ9 0
theorem nmJ9 : ∀ a, a < 0 → ∀ b, b < 0 → a ≠ b → (TJ9 a).2.1 ≠ (TJ9 b).2.1 := by decide +kernel
theorem tyJ9_ok : ∀ k, k < 0 → parseFieldDescriptor (TJ9 k).2.2.1 = some (tyJ9 k) := by decide +kernel
abbrev cJ9_max_7cf53 : ByteArray := prog_15_method_65_code
def yJ9_max_7cf53 : MethodName := ⟨RJ9, "max", "(II)I"⟩
abbrev cJ9_min_7cf53 : ByteArray := prog_15_method_69_code
def yJ9_min_7cf53 : MethodName := ⟨RJ9, "min", "(II)I"⟩
def RJ10 : String := "java/lang/System"
def TJ10 : u_T := fun k => match k with
  | _ => ("", "", "", false)
def tyJ10 : Nat → FieldType := fun k => match k with
  | _ => .int
abbrev wsJ100 : List Cond := u_ws RJ10 TJ10 0
theorem nmJ10 : ∀ a, a < 0 → ∀ b, b < 0 → a ≠ b → (TJ10 a).2.1 ≠ (TJ10 b).2.1 := by decide +kernel
theorem tyJ10_ok : ∀ k, k < 0 → parseFieldDescriptor (TJ10 k).2.2.1 = some (tyJ10 k) := by decide +kernel
def RJ7 : String := "java/util/Arrays"
def TJ7 : u_T := fun k => match k with
  | _ => ("", "", "", false)
def tyJ7 : Nat → FieldType := fun k => match k with
  | _ => .int
abbrev wsJ70 : List Cond := u_ws RJ7 TJ7 0
theorem nmJ7 : ∀ a, a < 0 → ∀ b, b < 0 → a ≠ b → (TJ7 a).2.1 ≠ (TJ7 b).2.1 := by decide +kernel
theorem tyJ7_ok : ∀ k, k < 0 → parseFieldDescriptor (TJ7 k).2.2.1 = some (tyJ7 k) := by decide +kernel
abbrev cJ7_fill_53178 : ByteArray := prog_17_method_103_code
def yJ7_fill_53178 : MethodName := ⟨RJ7, "fill", "([II)V"⟩
def RL : String := "StairIdealsLaw"
abbrev cL_law : ByteArray := code
def yL_law : MethodName := ⟨RL, "law", "([I)Z"⟩
/-- words of one list among lw_tbl, by their places -/
theorem lw_pl (ws : List Cond) (ps : List Nat) (hp : ws = ps.filterMap (fun i => lw_tbl[i]?)) : ∀ w ∈ ws, w ∈ lw_tbl := by
  intro w hw
  rw [hp] at hw
  obtain ⟨i, -, hi⟩ := List.mem_filterMap.mp hw
  exact List.mem_of_getElem? hi
theorem inX0 : ∀ w ∈ wsX00, w ∈ lw_tbl := lw_pl _ [197] (by decide +kernel)
theorem inX1 : ∀ w ∈ wsX10, w ∈ lw_tbl := lw_pl _ [149, 151, 153] (by decide +kernel)
theorem inX2 : ∀ w ∈ wsX20, w ∈ lw_tbl := lw_pl _ [138, 140] (by decide +kernel)
theorem inX3 : ∀ w ∈ wsX30, w ∈ lw_tbl := lw_pl _ [] (by decide +kernel)
theorem inX4 : ∀ w ∈ wsX40, w ∈ lw_tbl := lw_pl _ [99, 101, 103, 105, 107, 109, 111] (by decide +kernel)
theorem inX5 : ∀ w ∈ wsX50, w ∈ lw_tbl := lw_pl _ [] (by decide +kernel)
theorem inX6 : ∀ w ∈ wsX60, w ∈ lw_tbl := lw_pl _ [172] (by decide +kernel)
theorem inX7 : ∀ w ∈ wsX70, w ∈ lw_tbl := lw_pl _ [225, 227, 229, 231] (by decide +kernel)
theorem inX8 : ∀ w ∈ wsX80, w ∈ lw_tbl := lw_pl _ [213, 215, 217] (by decide +kernel)
theorem inX9 : ∀ w ∈ wsX90, w ∈ lw_tbl := lw_pl _ [177, 179] (by decide +kernel)
theorem inX10 : ∀ w ∈ wsX100, w ∈ lw_tbl := lw_pl _ [239, 241, 243, 245, 247] (by decide +kernel)
theorem inX11 : ∀ w ∈ wsX110, w ∈ lw_tbl := lw_pl _ [762, 764, 766, 768, 770, 772, 774, 776, 778, 780, 782, 784, 786, 788, 790, 792, 794, 796, 798, 800, 802, 804, 806, 808, 810, 812, 814, 816, 818, 820, 822] (by decide +kernel)
