section
-- ===== PART A: goes FIRST, ahead of the names: the tables' words, and 'selects' of the private methods out of them =====
/-- a private method of a class that the tables say can be made, by its rows of tables_1 -/
def lw_okq (q : MethodName × Nat) : Prop := (q.1.cls ≠ "java/lang/invoke/MethodHandle" ∧ q.1.cls ≠ "java/lang/invoke/VarHandle") ∧ Cond.instantiable q.1.cls q.2 ∈ tables_1 ∧ Cond.privateMethod q.1 ∈ tables_1 ∧ Cond.instanceMethod q.1 ∈ tables_1
theorem lw_p0 : lw_okq (⟨"StairIdeals$Pad", "begin", "()V"⟩, 7) := ⟨⟨by decide +kernel, by decide +kernel⟩, List.mem_of_getElem? (i := 26) (by decide +kernel), List.mem_of_getElem? (i := 213) (by decide +kernel), List.mem_of_getElem? (i := 214) (by decide +kernel)⟩
theorem lw_p1 : lw_okq (⟨"StairIdeals$Pad", "accept", "(I)Z"⟩, 7) := ⟨⟨by decide +kernel, by decide +kernel⟩, List.mem_of_getElem? (i := 26) (by decide +kernel), List.mem_of_getElem? (i := 217) (by decide +kernel), List.mem_of_getElem? (i := 218) (by decide +kernel)⟩
theorem lw_p2 : lw_okq (⟨"StairIdeals$Pad", "endMonomial", "()Z"⟩, 7) := ⟨⟨by decide +kernel, by decide +kernel⟩, List.mem_of_getElem? (i := 26) (by decide +kernel), List.mem_of_getElem? (i := 221) (by decide +kernel), List.mem_of_getElem? (i := 222) (by decide +kernel)⟩
theorem lw_p3 : lw_okq (⟨"StairIdeals$Pad", "acceptLetter", "(I)Z"⟩, 7) := ⟨⟨by decide +kernel, by decide +kernel⟩, List.mem_of_getElem? (i := 26) (by decide +kernel), List.mem_of_getElem? (i := 225) (by decide +kernel), List.mem_of_getElem? (i := 226) (by decide +kernel)⟩
theorem lw_p4 : lw_okq (⟨"StairIdeals$Pad", "acceptFigure", "(I)Z"⟩, 7) := ⟨⟨by decide +kernel, by decide +kernel⟩, List.mem_of_getElem? (i := 26) (by decide +kernel), List.mem_of_getElem? (i := 235) (by decide +kernel), List.mem_of_getElem? (i := 236) (by decide +kernel)⟩
theorem lw_p5 : lw_okq (⟨"StairIdeals$Stairs", "leastBefore", "(I)I"⟩, 1) := ⟨⟨by decide +kernel, by decide +kernel⟩, List.mem_of_getElem? (i := 106) (by decide +kernel), List.mem_of_getElem? (i := 272) (by decide +kernel), List.mem_of_getElem? (i := 273) (by decide +kernel)⟩
theorem lw_p6 : lw_okq (⟨"StairIdeals$Workshop", "fill", "(LStairIdeals$Ideal;)V"⟩, 2) := ⟨⟨by decide +kernel, by decide +kernel⟩, List.mem_of_getElem? (i := 100) (by decide +kernel), List.mem_of_getElem? (i := 287) (by decide +kernel), List.mem_of_getElem? (i := 288) (by decide +kernel)⟩
theorem lw_p7 : lw_okq (⟨"StairIdeals$Workshop", "productFits", "(LStairIdeals$Ideal;LStairIdeals$Ideal;)Z"⟩, 2) := ⟨⟨by decide +kernel, by decide +kernel⟩, List.mem_of_getElem? (i := 100) (by decide +kernel), List.mem_of_getElem? (i := 344) (by decide +kernel), List.mem_of_getElem? (i := 345) (by decide +kernel)⟩
theorem lw_p8 : lw_okq (⟨"StairIdeals$Workshop", "divideOther", "(LStairIdeals$Ideal;)V"⟩, 2) := ⟨⟨by decide +kernel, by decide +kernel⟩, List.mem_of_getElem? (i := 100) (by decide +kernel), List.mem_of_getElem? (i := 355) (by decide +kernel), List.mem_of_getElem? (i := 356) (by decide +kernel)⟩
theorem lw_p9 : lw_okq (⟨"StairIdeals$Workshop", "radicalOf", "(LStairIdeals$Ideal;)V"⟩, 2) := ⟨⟨by decide +kernel, by decide +kernel⟩, List.mem_of_getElem? (i := 100) (by decide +kernel), List.mem_of_getElem? (i := 367) (by decide +kernel), List.mem_of_getElem? (i := 368) (by decide +kernel)⟩
theorem lw_p10 : lw_okq (⟨"StairIdeals$Stairs", "mostBehind", "(I)I"⟩, 1) := ⟨⟨by decide +kernel, by decide +kernel⟩, List.mem_of_getElem? (i := 106) (by decide +kernel), List.mem_of_getElem? (i := 408) (by decide +kernel), List.mem_of_getElem? (i := 409) (by decide +kernel)⟩
theorem lw_p11 : lw_okq (⟨"StairIdeals$Survey", "findFactors", "()V"⟩, 4) := ⟨⟨by decide +kernel, by decide +kernel⟩, List.mem_of_getElem? (i := 125) (by decide +kernel), List.mem_of_getElem? (i := 479) (by decide +kernel), List.mem_of_getElem? (i := 480) (by decide +kernel)⟩
theorem lw_p12 : lw_okq (⟨"StairIdeals$Survey", "addSteps", "(III)V"⟩, 4) := ⟨⟨by decide +kernel, by decide +kernel⟩, List.mem_of_getElem? (i := 125) (by decide +kernel), List.mem_of_getElem? (i := 486) (by decide +kernel), List.mem_of_getElem? (i := 487) (by decide +kernel)⟩
theorem lw_p13 : lw_okq (⟨"StairIdeals$Complex", "borders", "(II)I"⟩, 1) := ⟨⟨by decide +kernel, by decide +kernel⟩, List.mem_of_getElem? (i := 133) (by decide +kernel), List.mem_of_getElem? (i := 587) (by decide +kernel), List.mem_of_getElem? (i := 588) (by decide +kernel)⟩
theorem lw_p14 : lw_okq (⟨"StairIdeals$Complex", "reduce", "(II)I"⟩, 1) := ⟨⟨by decide +kernel, by decide +kernel⟩, List.mem_of_getElem? (i := 133) (by decide +kernel), List.mem_of_getElem? (i := 594) (by decide +kernel), List.mem_of_getElem? (i := 595) (by decide +kernel)⟩
theorem lw_p15 : lw_okq (⟨"StairIdealsModel", "goOn", "(II)I"⟩, 31) := ⟨⟨by decide +kernel, by decide +kernel⟩, List.mem_of_getElem? (i := 668) (by decide +kernel), List.mem_of_getElem? (i := 786) (by decide +kernel), List.mem_of_getElem? (i := 787) (by decide +kernel)⟩
def lw_privs_1 : List (MethodName × Nat) := [(⟨"StairIdeals$Pad", "begin", "()V"⟩, 7), (⟨"StairIdeals$Pad", "accept", "(I)Z"⟩, 7), (⟨"StairIdeals$Pad", "endMonomial", "()Z"⟩, 7), (⟨"StairIdeals$Pad", "acceptLetter", "(I)Z"⟩, 7), (⟨"StairIdeals$Pad", "acceptFigure", "(I)Z"⟩, 7), (⟨"StairIdeals$Stairs", "leastBefore", "(I)I"⟩, 1), (⟨"StairIdeals$Workshop", "fill", "(LStairIdeals$Ideal;)V"⟩, 2), (⟨"StairIdeals$Workshop", "productFits", "(LStairIdeals$Ideal;LStairIdeals$Ideal;)Z"⟩, 2), (⟨"StairIdeals$Workshop", "divideOther", "(LStairIdeals$Ideal;)V"⟩, 2), (⟨"StairIdeals$Workshop", "radicalOf", "(LStairIdeals$Ideal;)V"⟩, 2), (⟨"StairIdeals$Stairs", "mostBehind", "(I)I"⟩, 1), (⟨"StairIdeals$Survey", "findFactors", "()V"⟩, 4), (⟨"StairIdeals$Survey", "addSteps", "(III)V"⟩, 4), (⟨"StairIdeals$Complex", "borders", "(II)I"⟩, 1), (⟨"StairIdeals$Complex", "reduce", "(II)I"⟩, 1), (⟨"StairIdealsModel", "goOn", "(II)I"⟩, 31)]
theorem lw_r1 : ∀ q ∈ lw_privs_1, lw_okq q := List.forall_mem_cons.mpr ⟨lw_p0, List.forall_mem_cons.mpr ⟨lw_p1, List.forall_mem_cons.mpr ⟨lw_p2, List.forall_mem_cons.mpr ⟨lw_p3, List.forall_mem_cons.mpr ⟨lw_p4, List.forall_mem_cons.mpr ⟨lw_p5, List.forall_mem_cons.mpr ⟨lw_p6, List.forall_mem_cons.mpr ⟨lw_p7, List.forall_mem_cons.mpr ⟨lw_p8, List.forall_mem_cons.mpr ⟨lw_p9, List.forall_mem_cons.mpr ⟨lw_p10, List.forall_mem_cons.mpr ⟨lw_p11, List.forall_mem_cons.mpr ⟨lw_p12, List.forall_mem_cons.mpr ⟨lw_p13, List.forall_mem_cons.mpr ⟨lw_p14, List.forall_mem_cons.mpr ⟨lw_p15, fun _ h => absurd h List.not_mem_nil⟩⟩⟩⟩⟩⟩⟩⟩⟩⟩⟩⟩⟩⟩⟩⟩
theorem lw_p16 : lw_okq (⟨"StairIdealsModel", "clear", "()V"⟩, 31) := ⟨⟨by decide +kernel, by decide +kernel⟩, List.mem_of_getElem? (i := 668) (by decide +kernel), List.mem_of_getElem? (i := 809) (by decide +kernel), List.mem_of_getElem? (i := 810) (by decide +kernel)⟩
theorem lw_p17 : lw_okq (⟨"StairIdealsModel", "markAbove", "(I)V"⟩, 31) := ⟨⟨by decide +kernel, by decide +kernel⟩, List.mem_of_getElem? (i := 668) (by decide +kernel), List.mem_of_getElem? (i := 813) (by decide +kernel), List.mem_of_getElem? (i := 814) (by decide +kernel)⟩
theorem lw_p18 : lw_okq (⟨"StairIdealsModel", "keep", "(I)I"⟩, 31) := ⟨⟨by decide +kernel, by decide +kernel⟩, List.mem_of_getElem? (i := 668) (by decide +kernel), List.mem_of_getElem? (i := 823) (by decide +kernel), List.mem_of_getElem? (i := 824) (by decide +kernel)⟩
theorem lw_p19 : lw_okq (⟨"StairIdealsModel", "isLeast", "(I)Z"⟩, 31) := ⟨⟨by decide +kernel, by decide +kernel⟩, List.mem_of_getElem? (i := 668) (by decide +kernel), List.mem_of_getElem? (i := 827) (by decide +kernel), List.mem_of_getElem? (i := 828) (by decide +kernel)⟩
theorem lw_p20 : lw_okq (⟨"StairIdealsModel", "at", "(II)I"⟩, 31) := ⟨⟨by decide +kernel, by decide +kernel⟩, List.mem_of_getElem? (i := 668) (by decide +kernel), List.mem_of_getElem? (i := 838) (by decide +kernel), List.mem_of_getElem? (i := 839) (by decide +kernel)⟩
theorem lw_p21 : lw_okq (⟨"StairIdealsModel", "isIn", "(II)Z"⟩, 31) := ⟨⟨by decide +kernel, by decide +kernel⟩, List.mem_of_getElem? (i := 668) (by decide +kernel), List.mem_of_getElem? (i := 850) (by decide +kernel), List.mem_of_getElem? (i := 851) (by decide +kernel)⟩
theorem lw_p22 : lw_okq (⟨"StairIdealsModel", "multiply", "(III)I"⟩, 31) := ⟨⟨by decide +kernel, by decide +kernel⟩, List.mem_of_getElem? (i := 668) (by decide +kernel), List.mem_of_getElem? (i := 859) (by decide +kernel), List.mem_of_getElem? (i := 860) (by decide +kernel)⟩
theorem lw_p23 : lw_okq (⟨"StairIdealsModel", "addProduct", "(I)V"⟩, 31) := ⟨⟨by decide +kernel, by decide +kernel⟩, List.mem_of_getElem? (i := 668) (by decide +kernel), List.mem_of_getElem? (i := 866) (by decide +kernel), List.mem_of_getElem? (i := 867) (by decide +kernel)⟩
theorem lw_p24 : lw_okq (⟨"StairIdealsModel", "isMade", "(IIII)Z"⟩, 31) := ⟨⟨by decide +kernel, by decide +kernel⟩, List.mem_of_getElem? (i := 668) (by decide +kernel), List.mem_of_getElem? (i := 876) (by decide +kernel), List.mem_of_getElem? (i := 877) (by decide +kernel)⟩
theorem lw_p25 : lw_okq (⟨"StairIdealsModel", "isQuotient", "(III)Z"⟩, 31) := ⟨⟨by decide +kernel, by decide +kernel⟩, List.mem_of_getElem? (i := 668) (by decide +kernel), List.mem_of_getElem? (i := 880) (by decide +kernel), List.mem_of_getElem? (i := 881) (by decide +kernel)⟩
theorem lw_p26 : lw_okq (⟨"StairIdealsModel", "isRoot", "(II)Z"⟩, 31) := ⟨⟨by decide +kernel, by decide +kernel⟩, List.mem_of_getElem? (i := 668) (by decide +kernel), List.mem_of_getElem? (i := 890) (by decide +kernel), List.mem_of_getElem? (i := 891) (by decide +kernel)⟩
theorem lw_p27 : lw_okq (⟨"StairIdealsModel", "isWithin", "(II)Z"⟩, 31) := ⟨⟨by decide +kernel, by decide +kernel⟩, List.mem_of_getElem? (i := 668) (by decide +kernel), List.mem_of_getElem? (i := 901) (by decide +kernel), List.mem_of_getElem? (i := 902) (by decide +kernel)⟩
theorem lw_p28 : lw_okq (⟨"StairIdealsModel", "findParts", "(I)V"⟩, 31) := ⟨⟨by decide +kernel, by decide +kernel⟩, List.mem_of_getElem? (i := 668) (by decide +kernel), List.mem_of_getElem? (i := 909) (by decide +kernel), List.mem_of_getElem? (i := 910) (by decide +kernel)⟩
theorem lw_p29 : lw_okq (⟨"StairIdealsModel", "findStandard", "(I)V"⟩, 31) := ⟨⟨by decide +kernel, by decide +kernel⟩, List.mem_of_getElem? (i := 668) (by decide +kernel), List.mem_of_getElem? (i := 913) (by decide +kernel), List.mem_of_getElem? (i := 914) (by decide +kernel)⟩
theorem lw_p30 : lw_okq (⟨"StairIdealsModel", "isHighest", "(I)Z"⟩, 31) := ⟨⟨by decide +kernel, by decide +kernel⟩, List.mem_of_getElem? (i := 668) (by decide +kernel), List.mem_of_getElem? (i := 917) (by decide +kernel), List.mem_of_getElem? (i := 918) (by decide +kernel)⟩
theorem lw_p31 : lw_okq (⟨"StairIdealsModel", "layPart", "(I)V"⟩, 31) := ⟨⟨by decide +kernel, by decide +kernel⟩, List.mem_of_getElem? (i := 668) (by decide +kernel), List.mem_of_getElem? (i := 924) (by decide +kernel), List.mem_of_getElem? (i := 925) (by decide +kernel)⟩
def lw_privs_2 : List (MethodName × Nat) := [(⟨"StairIdealsModel", "clear", "()V"⟩, 31), (⟨"StairIdealsModel", "markAbove", "(I)V"⟩, 31), (⟨"StairIdealsModel", "keep", "(I)I"⟩, 31), (⟨"StairIdealsModel", "isLeast", "(I)Z"⟩, 31), (⟨"StairIdealsModel", "at", "(II)I"⟩, 31), (⟨"StairIdealsModel", "isIn", "(II)Z"⟩, 31), (⟨"StairIdealsModel", "multiply", "(III)I"⟩, 31), (⟨"StairIdealsModel", "addProduct", "(I)V"⟩, 31), (⟨"StairIdealsModel", "isMade", "(IIII)Z"⟩, 31), (⟨"StairIdealsModel", "isQuotient", "(III)Z"⟩, 31), (⟨"StairIdealsModel", "isRoot", "(II)Z"⟩, 31), (⟨"StairIdealsModel", "isWithin", "(II)Z"⟩, 31), (⟨"StairIdealsModel", "findParts", "(I)V"⟩, 31), (⟨"StairIdealsModel", "findStandard", "(I)V"⟩, 31), (⟨"StairIdealsModel", "isHighest", "(I)Z"⟩, 31), (⟨"StairIdealsModel", "layPart", "(I)V"⟩, 31)]
theorem lw_r2 : ∀ q ∈ lw_privs_2, lw_okq q := List.forall_mem_cons.mpr ⟨lw_p16, List.forall_mem_cons.mpr ⟨lw_p17, List.forall_mem_cons.mpr ⟨lw_p18, List.forall_mem_cons.mpr ⟨lw_p19, List.forall_mem_cons.mpr ⟨lw_p20, List.forall_mem_cons.mpr ⟨lw_p21, List.forall_mem_cons.mpr ⟨lw_p22, List.forall_mem_cons.mpr ⟨lw_p23, List.forall_mem_cons.mpr ⟨lw_p24, List.forall_mem_cons.mpr ⟨lw_p25, List.forall_mem_cons.mpr ⟨lw_p26, List.forall_mem_cons.mpr ⟨lw_p27, List.forall_mem_cons.mpr ⟨lw_p28, List.forall_mem_cons.mpr ⟨lw_p29, List.forall_mem_cons.mpr ⟨lw_p30, List.forall_mem_cons.mpr ⟨lw_p31, fun _ h => absurd h List.not_mem_nil⟩⟩⟩⟩⟩⟩⟩⟩⟩⟩⟩⟩⟩⟩⟩⟩
theorem lw_p32 : lw_okq (⟨"StairIdealsModel", "primesOf", "(I)I"⟩, 31) := ⟨⟨by decide +kernel, by decide +kernel⟩, List.mem_of_getElem? (i := 668) (by decide +kernel), List.mem_of_getElem? (i := 932) (by decide +kernel), List.mem_of_getElem? (i := 933) (by decide +kernel)⟩
theorem lw_p33 : lw_okq (⟨"StairIdealsModel", "countOf", "(I)I"⟩, 31) := ⟨⟨by decide +kernel, by decide +kernel⟩, List.mem_of_getElem? (i := 668) (by decide +kernel), List.mem_of_getElem? (i := 956) (by decide +kernel), List.mem_of_getElem? (i := 957) (by decide +kernel)⟩
theorem lw_p34 : lw_okq (⟨"StairIdealsModel", "dimension", "()I"⟩, 31) := ⟨⟨by decide +kernel, by decide +kernel⟩, List.mem_of_getElem? (i := 668) (by decide +kernel), List.mem_of_getElem? (i := 976) (by decide +kernel), List.mem_of_getElem? (i := 977) (by decide +kernel)⟩
theorem lw_p35 : lw_okq (⟨"StairIdealsModel", "sizeTold", "(I)I"⟩, 31) := ⟨⟨by decide +kernel, by decide +kernel⟩, List.mem_of_getElem? (i := 668) (by decide +kernel), List.mem_of_getElem? (i := 986) (by decide +kernel), List.mem_of_getElem? (i := 987) (by decide +kernel)⟩
theorem lw_p36 : lw_okq (⟨"StairIdealsModel", "sizeOf", "(I)I"⟩, 31) := ⟨⟨by decide +kernel, by decide +kernel⟩, List.mem_of_getElem? (i := 668) (by decide +kernel), List.mem_of_getElem? (i := 990) (by decide +kernel), List.mem_of_getElem? (i := 991) (by decide +kernel)⟩
theorem lw_p37 : lw_okq (⟨"StairIdealsModel", "latticeMany", "(I)I"⟩, 31) := ⟨⟨by decide +kernel, by decide +kernel⟩, List.mem_of_getElem? (i := 668) (by decide +kernel), List.mem_of_getElem? (i := 994) (by decide +kernel), List.mem_of_getElem? (i := 995) (by decide +kernel)⟩
theorem lw_p38 : lw_okq (⟨"StairIdealsModel", "findLattice", "(I)V"⟩, 31) := ⟨⟨by decide +kernel, by decide +kernel⟩, List.mem_of_getElem? (i := 668) (by decide +kernel), List.mem_of_getElem? (i := 998) (by decide +kernel), List.mem_of_getElem? (i := 999) (by decide +kernel)⟩
theorem lw_p39 : lw_okq (⟨"StairIdealsModel", "findTree", "(I)V"⟩, 31) := ⟨⟨by decide +kernel, by decide +kernel⟩, List.mem_of_getElem? (i := 668) (by decide +kernel), List.mem_of_getElem? (i := 1005) (by decide +kernel), List.mem_of_getElem? (i := 1006) (by decide +kernel)⟩
theorem lw_p40 : lw_okq (⟨"StairIdealsModel", "opens", "(I)V"⟩, 31) := ⟨⟨by decide +kernel, by decide +kernel⟩, List.mem_of_getElem? (i := 668) (by decide +kernel), List.mem_of_getElem? (i := 1009) (by decide +kernel), List.mem_of_getElem? (i := 1010) (by decide +kernel)⟩
theorem lw_p41 : lw_okq (⟨"StairIdealsModel", "push", "(I)V"⟩, 31) := ⟨⟨by decide +kernel, by decide +kernel⟩, List.mem_of_getElem? (i := 668) (by decide +kernel), List.mem_of_getElem? (i := 1013) (by decide +kernel), List.mem_of_getElem? (i := 1014) (by decide +kernel)⟩
theorem lw_p42 : lw_okq (⟨"StairIdealsModel", "popList", "()V"⟩, 31) := ⟨⟨by decide +kernel, by decide +kernel⟩, List.mem_of_getElem? (i := 668) (by decide +kernel), List.mem_of_getElem? (i := 1017) (by decide +kernel), List.mem_of_getElem? (i := 1018) (by decide +kernel)⟩
theorem lw_p43 : lw_okq (⟨"StairIdealsModel", "isLeaf", "()Z"⟩, 31) := ⟨⟨by decide +kernel, by decide +kernel⟩, List.mem_of_getElem? (i := 668) (by decide +kernel), List.mem_of_getElem? (i := 1021) (by decide +kernel), List.mem_of_getElem? (i := 1022) (by decide +kernel)⟩
theorem lw_p44 : lw_okq (⟨"StairIdealsModel", "pivot", "()I"⟩, 31) := ⟨⟨by decide +kernel, by decide +kernel⟩, List.mem_of_getElem? (i := 668) (by decide +kernel), List.mem_of_getElem? (i := 1025) (by decide +kernel), List.mem_of_getElem? (i := 1026) (by decide +kernel)⟩
theorem lw_p45 : lw_okq (⟨"StairIdealsModel", "pushSum", "(II)V"⟩, 31) := ⟨⟨by decide +kernel, by decide +kernel⟩, List.mem_of_getElem? (i := 668) (by decide +kernel), List.mem_of_getElem? (i := 1029) (by decide +kernel), List.mem_of_getElem? (i := 1030) (by decide +kernel)⟩
theorem lw_p46 : lw_okq (⟨"StairIdealsModel", "pushQuotient", "(II)V"⟩, 31) := ⟨⟨by decide +kernel, by decide +kernel⟩, List.mem_of_getElem? (i := 668) (by decide +kernel), List.mem_of_getElem? (i := 1033) (by decide +kernel), List.mem_of_getElem? (i := 1034) (by decide +kernel)⟩
theorem lw_p47 : lw_okq (⟨"StairIdealsModel", "isTooMuch", "(II)Z"⟩, 31) := ⟨⟨by decide +kernel, by decide +kernel⟩, List.mem_of_getElem? (i := 668) (by decide +kernel), List.mem_of_getElem? (i := 1037) (by decide +kernel), List.mem_of_getElem? (i := 1038) (by decide +kernel)⟩
def lw_privs_3 : List (MethodName × Nat) := [(⟨"StairIdealsModel", "primesOf", "(I)I"⟩, 31), (⟨"StairIdealsModel", "countOf", "(I)I"⟩, 31), (⟨"StairIdealsModel", "dimension", "()I"⟩, 31), (⟨"StairIdealsModel", "sizeTold", "(I)I"⟩, 31), (⟨"StairIdealsModel", "sizeOf", "(I)I"⟩, 31), (⟨"StairIdealsModel", "latticeMany", "(I)I"⟩, 31), (⟨"StairIdealsModel", "findLattice", "(I)V"⟩, 31), (⟨"StairIdealsModel", "findTree", "(I)V"⟩, 31), (⟨"StairIdealsModel", "opens", "(I)V"⟩, 31), (⟨"StairIdealsModel", "push", "(I)V"⟩, 31), (⟨"StairIdealsModel", "popList", "()V"⟩, 31), (⟨"StairIdealsModel", "isLeaf", "()Z"⟩, 31), (⟨"StairIdealsModel", "pivot", "()I"⟩, 31), (⟨"StairIdealsModel", "pushSum", "(II)V"⟩, 31), (⟨"StairIdealsModel", "pushQuotient", "(II)V"⟩, 31), (⟨"StairIdealsModel", "isTooMuch", "(II)Z"⟩, 31)]
theorem lw_r3 : ∀ q ∈ lw_privs_3, lw_okq q := List.forall_mem_cons.mpr ⟨lw_p32, List.forall_mem_cons.mpr ⟨lw_p33, List.forall_mem_cons.mpr ⟨lw_p34, List.forall_mem_cons.mpr ⟨lw_p35, List.forall_mem_cons.mpr ⟨lw_p36, List.forall_mem_cons.mpr ⟨lw_p37, List.forall_mem_cons.mpr ⟨lw_p38, List.forall_mem_cons.mpr ⟨lw_p39, List.forall_mem_cons.mpr ⟨lw_p40, List.forall_mem_cons.mpr ⟨lw_p41, List.forall_mem_cons.mpr ⟨lw_p42, List.forall_mem_cons.mpr ⟨lw_p43, List.forall_mem_cons.mpr ⟨lw_p44, List.forall_mem_cons.mpr ⟨lw_p45, List.forall_mem_cons.mpr ⟨lw_p46, List.forall_mem_cons.mpr ⟨lw_p47, fun _ h => absurd h List.not_mem_nil⟩⟩⟩⟩⟩⟩⟩⟩⟩⟩⟩⟩⟩⟩⟩⟩
theorem lw_p48 : lw_okq (⟨"StairIdealsModel", "holesAt", "(III)I"⟩, 31) := ⟨⟨by decide +kernel, by decide +kernel⟩, List.mem_of_getElem? (i := 668) (by decide +kernel), List.mem_of_getElem? (i := 1048) (by decide +kernel), List.mem_of_getElem? (i := 1049) (by decide +kernel)⟩
theorem lw_p49 : lw_okq (⟨"StairIdealsModel", "findFaces", "(II)V"⟩, 31) := ⟨⟨by decide +kernel, by decide +kernel⟩, List.mem_of_getElem? (i := 668) (by decide +kernel), List.mem_of_getElem? (i := 1052) (by decide +kernel), List.mem_of_getElem? (i := 1053) (by decide +kernel)⟩
theorem lw_p50 : lw_okq (⟨"StairIdealsModel", "facesOf", "(I)I"⟩, 31) := ⟨⟨by decide +kernel, by decide +kernel⟩, List.mem_of_getElem? (i := 668) (by decide +kernel), List.mem_of_getElem? (i := 1059) (by decide +kernel), List.mem_of_getElem? (i := 1060) (by decide +kernel)⟩
theorem lw_p51 : lw_okq (⟨"StairIdealsModel", "rank", "(I)I"⟩, 31) := ⟨⟨by decide +kernel, by decide +kernel⟩, List.mem_of_getElem? (i := 668) (by decide +kernel), List.mem_of_getElem? (i := 1063) (by decide +kernel), List.mem_of_getElem? (i := 1064) (by decide +kernel)⟩
theorem lw_p52 : lw_okq (⟨"StairIdealsModel", "nearest", "(JJI)V"⟩, 31) := ⟨⟨by decide +kernel, by decide +kernel⟩, List.mem_of_getElem? (i := 668) (by decide +kernel), List.mem_of_getElem? (i := 1081) (by decide +kernel), List.mem_of_getElem? (i := 1082) (by decide +kernel)⟩
theorem lw_p53 : lw_okq (⟨"StairIdealsModel", "bits", "(II)J"⟩, 31) := ⟨⟨by decide +kernel, by decide +kernel⟩, List.mem_of_getElem? (i := 668) (by decide +kernel), List.mem_of_getElem? (i := 1085) (by decide +kernel), List.mem_of_getElem? (i := 1086) (by decide +kernel)⟩
theorem lw_p54 : lw_okq (⟨"StairIdealsModel", "cut", "()J"⟩, 31) := ⟨⟨by decide +kernel, by decide +kernel⟩, List.mem_of_getElem? (i := 668) (by decide +kernel), List.mem_of_getElem? (i := 1089) (by decide +kernel), List.mem_of_getElem? (i := 1090) (by decide +kernel)⟩
theorem lw_p55 : lw_okq (⟨"StairIdealsModel", "copy", "(II)V"⟩, 31) := ⟨⟨by decide +kernel, by decide +kernel⟩, List.mem_of_getElem? (i := 668) (by decide +kernel), List.mem_of_getElem? (i := 1104) (by decide +kernel), List.mem_of_getElem? (i := 1105) (by decide +kernel)⟩
theorem lw_p56 : lw_okq (⟨"StairIdealsModel", "passAll", "()V"⟩, 31) := ⟨⟨by decide +kernel, by decide +kernel⟩, List.mem_of_getElem? (i := 668) (by decide +kernel), List.mem_of_getElem? (i := 1120) (by decide +kernel), List.mem_of_getElem? (i := 1121) (by decide +kernel)⟩
theorem lw_p57 : lw_okq (⟨"StairIdealsModel", "passRow", "([II)V"⟩, 31) := ⟨⟨by decide +kernel, by decide +kernel⟩, List.mem_of_getElem? (i := 668) (by decide +kernel), List.mem_of_getElem? (i := 1124) (by decide +kernel), List.mem_of_getElem? (i := 1125) (by decide +kernel)⟩
def lw_privs_4 : List (MethodName × Nat) := [(⟨"StairIdealsModel", "holesAt", "(III)I"⟩, 31), (⟨"StairIdealsModel", "findFaces", "(II)V"⟩, 31), (⟨"StairIdealsModel", "facesOf", "(I)I"⟩, 31), (⟨"StairIdealsModel", "rank", "(I)I"⟩, 31), (⟨"StairIdealsModel", "nearest", "(JJI)V"⟩, 31), (⟨"StairIdealsModel", "bits", "(II)J"⟩, 31), (⟨"StairIdealsModel", "cut", "()J"⟩, 31), (⟨"StairIdealsModel", "copy", "(II)V"⟩, 31), (⟨"StairIdealsModel", "passAll", "()V"⟩, 31), (⟨"StairIdealsModel", "passRow", "([II)V"⟩, 31)]
theorem lw_r4 : ∀ q ∈ lw_privs_4, lw_okq q := List.forall_mem_cons.mpr ⟨lw_p48, List.forall_mem_cons.mpr ⟨lw_p49, List.forall_mem_cons.mpr ⟨lw_p50, List.forall_mem_cons.mpr ⟨lw_p51, List.forall_mem_cons.mpr ⟨lw_p52, List.forall_mem_cons.mpr ⟨lw_p53, List.forall_mem_cons.mpr ⟨lw_p54, List.forall_mem_cons.mpr ⟨lw_p55, List.forall_mem_cons.mpr ⟨lw_p56, List.forall_mem_cons.mpr ⟨lw_p57, fun _ h => absurd h List.not_mem_nil⟩⟩⟩⟩⟩⟩⟩⟩⟩⟩
def lw_privs : List (MethodName × Nat) := lw_privs_1 ++ (lw_privs_2 ++ (lw_privs_3 ++ (lw_privs_4)))
def lw_tbl : List Cond := k2_sels lw_privs ++ tables_1
theorem lw_privs_ok : ∀ q ∈ lw_privs, lw_okq q := by
  show ∀ q ∈ lw_privs_1 ++ (lw_privs_2 ++ (lw_privs_3 ++ (lw_privs_4))), lw_okq q
  exact List.forall_mem_append.mpr ⟨lw_r1, List.forall_mem_append.mpr ⟨lw_r2, List.forall_mem_append.mpr ⟨lw_r3, lw_r4⟩⟩⟩
/-- the streams that the claim lets the run draw from -/
abbrev lw_cs : List Choice := [Jvm.Choice.named "NaN.bits"]
theorem lw_bits : nanBits ∈ lw_cs := by first | decide | exact List.mem_cons_self | simp [lw_cs, nanBits]
/-! ===== BEGIN words of one list among another's, by their places ===== -/
theorem goodIn_r {big : List Cond} (ws : List Cond) (ps : List Nat) (hp : ws = ps.filterMap (fun i => big[i]?)) (h : ws.all goodWord = true) : GoodIn big ws := by
  intro w hw
  have h1 := List.all_eq_true.mp h w hw
  rw [hp] at hw
  obtain ⟨i, -, hi⟩ := List.mem_filterMap.mp hw
  have hm : w ∈ big := by first | exact List.mem_of_getElem? hi | exact List.getElem?_mem hi
  exact ⟨hm, good_of_word h1⟩
theorem goodIn_app {big a b : List Cond} (ha : GoodIn big a) (hb : GoodIn big b) : GoodIn big (a ++ b) := fun w h => (List.mem_append.mp h).elim (ha w) (hb w)
theorem goodIn_ca {big a b : List Cond} {c : Cond} (ha : GoodIn big (c :: a)) (hb : GoodIn big b) : GoodIn big (c :: (a ++ b)) := fun w h => (List.mem_cons.mp h).elim (fun e => ha w (List.mem_cons.mpr (Or.inl e))) (fun h => (List.mem_append.mp h).elim (fun h => ha w (List.mem_cons.mpr (Or.inr h))) (hb w))
theorem goodIn_sub {big ws : List Cond} (hm : ∀ w ∈ ws, w ∈ big) (h : ws.all goodWord = true) : GoodIn big ws := fun w hw => ⟨hm w hw, good_of_word (List.all_eq_true.mp h w hw)⟩
/-! ===== END ===== -/

def RX0 : String := "StairIdeals$Complex"
def TX0 : u_T := fun k => match k with
  | _ => ("StairIdeals$Complex", "basis", "[I", true)
def tyX0 : Nat → FieldType := fun k => match k with
  | _ => .array .int
abbrev wsX00 : List Cond := u_ws RX0 TX0 1
theorem nmX0 : ∀ a, a < 1 → ∀ b, b < 1 → a ≠ b → (TX0 a).2.1 ≠ (TX0 b).2.1 := by decide +kernel
theorem tyX0_ok : ∀ k, k < 1 → parseFieldDescriptor (TX0 k).2.2.1 = some (tyX0 k) := by decide +kernel
abbrev cX0_init : ByteArray := prog_2_method_1_code
def yX0_init : MethodName := ⟨RX0, "<init>", "()V"⟩
abbrev cX0_sheetsAt : ByteArray := prog_2_method_2_code
def yX0_sheetsAt : MethodName := ⟨RX0, "sheetsAt", "(ILStairIdeals$Stairs;)I"⟩
abbrev cX0_holes : ByteArray := prog_2_method_3_code
def yX0_holes : MethodName := ⟨RX0, "holes", "(II)I"⟩
abbrev cX0_sheetsOf : ByteArray := prog_2_method_4_code
def yX0_sheetsOf : MethodName := ⟨RX0, "sheetsOf", "(II)I"⟩
abbrev cX0_borders : ByteArray := prog_2_method_5_code
def yX0_borders : MethodName := ⟨RX0, "borders", "(II)I"⟩
abbrev cX0_borderOf : ByteArray := prog_2_method_6_code
def yX0_borderOf : MethodName := ⟨RX0, "borderOf", "(I)I"⟩
abbrev cX0_reduce : ByteArray := prog_2_method_7_code
def yX0_reduce : MethodName := ⟨RX0, "reduce", "(II)I"⟩
def RX1 : String := "StairIdeals$Holdings"
def TX1 : u_T := fun k => match k with
  | 0 => ("StairIdeals$Holdings", "ideals", "[LStairIdeals$Ideal;", true)
  | 1 => ("StairIdeals$Holdings", "held", "[LStairIdeals$Ideal;", true)
  | _ => ("StairIdeals$Holdings", "kinds", "[I", true)
def tyX1 : Nat → FieldType := fun k => match k with
  | 0 => .array (.object "StairIdeals$Ideal")
  | 1 => .array (.object "StairIdeals$Ideal")
  | _ => .array .int
abbrev wsX10 : List Cond := u_ws RX1 TX1 3
theorem nmX1 : ∀ a, a < 3 → ∀ b, b < 3 → a ≠ b → (TX1 a).2.1 ≠ (TX1 b).2.1 := by decide +kernel
theorem tyX1_ok : ∀ k, k < 3 → parseFieldDescriptor (TX1 k).2.2.1 = some (tyX1 k) := by decide +kernel
abbrev cX1_init : ByteArray := prog_3_method_1_code
def yX1_init : MethodName := ⟨RX1, "<init>", "()V"⟩
abbrev cX1_copyFrom : ByteArray := prog_3_method_2_code
def yX1_copyFrom : MethodName := ⟨RX1, "copyFrom", "(LStairIdeals$Holdings;)V"⟩
def RX2 : String := "StairIdeals$Ideal"
def TX2 : u_T := fun k => match k with
  | 0 => ("StairIdeals$Ideal", "generators", "[I", true)
  | _ => ("StairIdeals$Ideal", "size", "I", false)
def tyX2 : Nat → FieldType := fun k => match k with
  | 0 => .array .int
  | _ => .int
abbrev wsX20 : List Cond := u_ws RX2 TX2 2
theorem nmX2 : ∀ a, a < 2 → ∀ b, b < 2 → a ≠ b → (TX2 a).2.1 ≠ (TX2 b).2.1 := by decide +kernel
theorem tyX2_ok : ∀ k, k < 2 → parseFieldDescriptor (TX2 k).2.2.1 = some (tyX2 k) := by decide +kernel
abbrev cX2_init : ByteArray := prog_4_method_1_code
def yX2_init : MethodName := ⟨RX2, "<init>", "()V"⟩
abbrev cX2_copyFrom : ByteArray := prog_4_method_2_code
def yX2_copyFrom : MethodName := ⟨RX2, "copyFrom", "(LStairIdeals$Ideal;)V"⟩
abbrev cX2_contains : ByteArray := prog_4_method_3_code
def yX2_contains : MethodName := ⟨RX2, "contains", "(I)Z"⟩
abbrev cX2_isWithin : ByteArray := prog_4_method_4_code
def yX2_isWithin : MethodName := ⟨RX2, "isWithin", "(LStairIdeals$Ideal;)Z"⟩
abbrev cX2_isCommonMultiple : ByteArray := prog_4_method_5_code
def yX2_isCommonMultiple : MethodName := ⟨RX2, "isCommonMultiple", "(I)Z"⟩
abbrev cX2_allDivide : ByteArray := prog_4_method_6_code
def yX2_allDivide : MethodName := ⟨RX2, "allDivide", "(I)Z"⟩
def RX3 : String := "StairIdeals$Monomial"
def TX3 : u_T := fun k => match k with
  | _ => ("", "", "", false)
def tyX3 : Nat → FieldType := fun k => match k with
  | _ => .int
abbrev wsX30 : List Cond := u_ws RX3 TX3 0
theorem nmX3 : ∀ a, a < 0 → ∀ b, b < 0 → a ≠ b → (TX3 a).2.1 ≠ (TX3 b).2.1 := by decide +kernel
theorem tyX3_ok : ∀ k, k < 0 → parseFieldDescriptor (TX3 k).2.2.1 = some (tyX3 k) := by decide +kernel
abbrev cX3_isCode : ByteArray := prog_5_method_2_code
def yX3_isCode : MethodName := ⟨RX3, "isCode", "(I)Z"⟩
abbrev cX3_ofCode : ByteArray := prog_5_method_3_code
def yX3_ofCode : MethodName := ⟨RX3, "ofCode", "(I)I"⟩
abbrev cX3_toCode : ByteArray := prog_5_method_4_code
def yX3_toCode : MethodName := ⟨RX3, "toCode", "(I)I"⟩
abbrev cX3_exponent : ByteArray := prog_5_method_5_code
def yX3_exponent : MethodName := ⟨RX3, "exponent", "(II)I"⟩
abbrev cX3_power : ByteArray := prog_5_method_6_code
def yX3_power : MethodName := ⟨RX3, "power", "(II)I"⟩
abbrev cX3_divides : ByteArray := prog_5_method_7_code
def yX3_divides : MethodName := ⟨RX3, "divides", "(II)Z"⟩
abbrev cX3_isTooHigh : ByteArray := prog_5_method_8_code
def yX3_isTooHigh : MethodName := ⟨RX3, "isTooHigh", "(I)Z"⟩
abbrev cX3_support : ByteArray := prog_5_method_9_code
def yX3_support : MethodName := ⟨RX3, "support", "(I)I"⟩
abbrev cX3_ofSet : ByteArray := prog_5_method_10_code
def yX3_ofSet : MethodName := ⟨RX3, "ofSet", "(I)I"⟩
abbrev cX3_ofDegree : ByteArray := prog_5_method_11_code
def yX3_ofDegree : MethodName := ⟨RX3, "ofDegree", "(I)I"⟩
def RX4 : String := "StairIdeals$Pad"
def TX4 : u_T := fun k => match k with
  | 0 => ("StairIdeals$Pad", "monomials", "[I", true)
  | 1 => ("StairIdeals$Pad", "found", "I", false)
  | 2 => ("StairIdeals$Pad", "size", "I", false)
  | 3 => ("StairIdeals$Pad", "signs", "[I", true)
  | 4 => ("StairIdeals$Pad", "state", "I", false)
  | 5 => ("StairIdeals$Pad", "letter", "I", false)
  | _ => ("StairIdeals$Pad", "current", "I", false)
def tyX4 : Nat → FieldType := fun k => match k with
  | 0 => .array .int
  | 1 => .int
  | 2 => .int
  | 3 => .array .int
  | 4 => .int
  | 5 => .int
  | _ => .int
abbrev wsX40 : List Cond := u_ws RX4 TX4 7
theorem nmX4 : ∀ a, a < 7 → ∀ b, b < 7 → a ≠ b → (TX4 a).2.1 ≠ (TX4 b).2.1 := by decide +kernel
theorem tyX4_ok : ∀ k, k < 7 → parseFieldDescriptor (TX4 k).2.2.1 = some (tyX4 k) := by decide +kernel
abbrev cX4_init : ByteArray := prog_6_method_1_code
def yX4_init : MethodName := ⟨RX4, "<init>", "()V"⟩
abbrev cX4_append : ByteArray := prog_6_method_2_code
def yX4_append : MethodName := ⟨RX4, "append", "(I)Z"⟩
abbrev cX4_read : ByteArray := prog_6_method_3_code
def yX4_read : MethodName := ⟨RX4, "read", "()I"⟩
abbrev cX4_begin : ByteArray := prog_6_method_4_code
def yX4_begin : MethodName := ⟨RX4, "begin", "()V"⟩
abbrev cX4_accept : ByteArray := prog_6_method_5_code
def yX4_accept : MethodName := ⟨RX4, "accept", "(I)Z"⟩
abbrev cX4_endMonomial : ByteArray := prog_6_method_6_code
def yX4_endMonomial : MethodName := ⟨RX4, "endMonomial", "()Z"⟩
abbrev cX4_acceptLetter : ByteArray := prog_6_method_7_code
def yX4_acceptLetter : MethodName := ⟨RX4, "acceptLetter", "(I)Z"⟩
abbrev cX4_acceptFigure : ByteArray := prog_6_method_8_code
def yX4_acceptFigure : MethodName := ⟨RX4, "acceptFigure", "(I)Z"⟩
def RX5 : String := "StairIdeals$Share"
def TX5 : u_T := fun k => match k with
  | _ => ("", "", "", false)
def tyX5 : Nat → FieldType := fun k => match k with
  | _ => .int
abbrev wsX50 : List Cond := u_ws RX5 TX5 0
theorem nmX5 : ∀ a, a < 0 → ∀ b, b < 0 → a ≠ b → (TX5 a).2.1 ≠ (TX5 b).2.1 := by decide +kernel
theorem tyX5_ok : ∀ k, k < 0 → parseFieldDescriptor (TX5 k).2.2.1 = some (tyX5 k) := by decide +kernel
abbrev cX5_single : ByteArray := prog_7_method_2_code
def yX5_single : MethodName := ⟨RX5, "single", "(II)F"⟩
abbrev cX5_singleBits : ByteArray := prog_7_method_3_code
def yX5_singleBits : MethodName := ⟨RX5, "singleBits", "(II)J"⟩
abbrev cX5_doubleBits : ByteArray := prog_7_method_4_code
def yX5_doubleBits : MethodName := ⟨RX5, "doubleBits", "(II)J"⟩
abbrev cX5_thousandths : ByteArray := prog_7_method_5_code
def yX5_thousandths : MethodName := ⟨RX5, "thousandths", "(II)J"⟩
def RX6 : String := "StairIdeals$Stairs"
def TX6 : u_T := fun k => match k with
  | _ => ("StairIdeals$Stairs", "heights", "[I", true)
def tyX6 : Nat → FieldType := fun k => match k with
  | _ => .array .int
abbrev wsX60 : List Cond := u_ws RX6 TX6 1
theorem nmX6 : ∀ a, a < 1 → ∀ b, b < 1 → a ≠ b → (TX6 a).2.1 ≠ (TX6 b).2.1 := by decide +kernel
theorem tyX6_ok : ∀ k, k < 1 → parseFieldDescriptor (TX6 k).2.2.1 = some (tyX6 k) := by decide +kernel
abbrev cX6_init : ByteArray := prog_8_method_1_code
def yX6_init : MethodName := ⟨RX6, "<init>", "()V"⟩
abbrev cX6_becomeNothing : ByteArray := prog_8_method_2_code
def yX6_becomeNothing : MethodName := ⟨RX6, "becomeNothing", "()V"⟩
abbrev cX6_becomeAll : ByteArray := prog_8_method_3_code
def yX6_becomeAll : MethodName := ⟨RX6, "becomeAll", "()V"⟩
abbrev cX6_become : ByteArray := prog_8_method_4_code
def yX6_become : MethodName := ⟨RX6, "become", "(LStairIdeals$Ideal;)V"⟩
abbrev cX6_lowerBy : ByteArray := prog_8_method_5_code
def yX6_lowerBy : MethodName := ⟨RX6, "lowerBy", "(LStairIdeals$Ideal;)V"⟩
abbrev cX6_lower : ByteArray := prog_8_method_6_code
def yX6_lower : MethodName := ⟨RX6, "lower", "(I)V"⟩
abbrev cX6_raiseBy : ByteArray := prog_8_method_7_code
def yX6_raiseBy : MethodName := ⟨RX6, "raiseBy", "(LStairIdeals$Stairs;)V"⟩
abbrev cX6_contains : ByteArray := prog_8_method_8_code
def yX6_contains : MethodName := ⟨RX6, "contains", "(I)Z"⟩
abbrev cX6_cellOf : ByteArray := prog_8_method_9_code
def yX6_cellOf : MethodName := ⟨RX6, "cellOf", "(I)I"⟩
abbrev cX6_monomialOf : ByteArray := prog_8_method_10_code
def yX6_monomialOf : MethodName := ⟨RX6, "monomialOf", "(I)I"⟩
abbrev cX6_spreadUp : ByteArray := prog_8_method_11_code
def yX6_spreadUp : MethodName := ⟨RX6, "spreadUp", "()V"⟩
abbrev cX6_spreadDown : ByteArray := prog_8_method_12_code
def yX6_spreadDown : MethodName := ⟨RX6, "spreadDown", "()V"⟩
abbrev cX6_leastBefore : ByteArray := prog_8_method_13_code
def yX6_leastBefore : MethodName := ⟨RX6, "leastBefore", "(I)I"⟩
abbrev cX6_mostBehind : ByteArray := prog_8_method_14_code
def yX6_mostBehind : MethodName := ⟨RX6, "mostBehind", "(I)I"⟩
abbrev cX6_generatorAt : ByteArray := prog_8_method_15_code
def yX6_generatorAt : MethodName := ⟨RX6, "generatorAt", "(I)I"⟩
abbrev cX6_cellInPartOrder : ByteArray := prog_8_method_16_code
def yX6_cellInPartOrder : MethodName := ⟨RX6, "cellInPartOrder", "(I)I"⟩
abbrev cX6_partAt : ByteArray := prog_8_method_17_code
def yX6_partAt : MethodName := ⟨RX6, "partAt", "(I)I"⟩
abbrev cX6_primes : ByteArray := prog_8_method_18_code
def yX6_primes : MethodName := ⟨RX6, "primes", "()I"⟩
abbrev cX6_dimension : ByteArray := prog_8_method_19_code
def yX6_dimension : MethodName := ⟨RX6, "dimension", "()I"⟩
abbrev cX6_standardInAll : ByteArray := prog_8_method_20_code
def yX6_standardInAll : MethodName := ⟨RX6, "standardInAll", "()I"⟩
def RX7 : String := "StairIdeals$Survey"
def TX7 : u_T := fun k => match k with
  | 0 => ("StairIdeals$Survey", "stairs", "LStairIdeals$Stairs;", true)
  | 1 => ("StairIdeals$Survey", "factors", "[I", true)
  | 2 => ("StairIdeals$Survey", "complex", "LStairIdeals$Complex;", true)
  | _ => ("StairIdeals$Survey", "tree", "LStairIdeals$Tree;", true)
def tyX7 : Nat → FieldType := fun k => match k with
  | 0 => .object "StairIdeals$Stairs"
  | 1 => .array .int
  | 2 => .object "StairIdeals$Complex"
  | _ => .object "StairIdeals$Tree"
abbrev wsX70 : List Cond := u_ws RX7 TX7 4
theorem nmX7 : ∀ a, a < 4 → ∀ b, b < 4 → a ≠ b → (TX7 a).2.1 ≠ (TX7 b).2.1 := by decide +kernel
theorem tyX7_ok : ∀ k, k < 4 → parseFieldDescriptor (TX7 k).2.2.1 = some (tyX7 k) := by decide +kernel
abbrev cX7_init : ByteArray := prog_9_method_1_code
def yX7_init : MethodName := ⟨RX7, "<init>", "()V"⟩
abbrev cX7_look : ByteArray := prog_9_method_2_code
def yX7_look : MethodName := ⟨RX7, "look", "(LStairIdeals$Ideal;)V"⟩
abbrev cX7_partCount : ByteArray := prog_9_method_3_code
def yX7_partCount : MethodName := ⟨RX7, "partCount", "()I"⟩
abbrev cX7_partCode : ByteArray := prog_9_method_4_code
def yX7_partCode : MethodName := ⟨RX7, "partCode", "(I)I"⟩
abbrev cX7_seriesFactor : ByteArray := prog_9_method_5_code
def yX7_seriesFactor : MethodName := ⟨RX7, "seriesFactor", "(I)I"⟩
abbrev cX7_standardOfDegree : ByteArray := prog_9_method_6_code
def yX7_standardOfDegree : MethodName := ⟨RX7, "standardOfDegree", "(I)I"⟩
abbrev cX7_findFactors : ByteArray := prog_9_method_7_code
def yX7_findFactors : MethodName := ⟨RX7, "findFactors", "()V"⟩
abbrev cX7_addSteps : ByteArray := prog_9_method_8_code
def yX7_addSteps : MethodName := ⟨RX7, "addSteps", "(III)V"⟩
abbrev cX7_pivots : ByteArray := prog_9_method_9_code
def yX7_pivots : MethodName := ⟨RX7, "pivots", "(LStairIdeals$Ideal;)I"⟩
abbrev cX7_nestedPivots : ByteArray := prog_9_method_10_code
def yX7_nestedPivots : MethodName := ⟨RX7, "nestedPivots", "(LStairIdeals$Ideal;)I"⟩
abbrev cX7_latticeSize : ByteArray := prog_9_method_11_code
def yX7_latticeSize : MethodName := ⟨RX7, "latticeSize", "(LStairIdeals$Ideal;)I"⟩
abbrev cX7_holesInAll : ByteArray := prog_9_method_12_code
def yX7_holesInAll : MethodName := ⟨RX7, "holesInAll", "(LStairIdeals$Ideal;I)I"⟩
abbrev cX7_holesAt : ByteArray := prog_9_method_13_code
def yX7_holesAt : MethodName := ⟨RX7, "holesAt", "(LStairIdeals$Ideal;II)I"⟩
def RX8 : String := "StairIdeals$Tree"
def TX8 : u_T := fun k => match k with
  | 0 => ("StairIdeals$Tree", "pivots", "I", false)
  | 1 => ("StairIdeals$Tree", "deepest", "I", false)
  | _ => ("StairIdeals$Tree", "rows", "[[I", true)
def tyX8 : Nat → FieldType := fun k => match k with
  | 0 => .int
  | 1 => .int
  | _ => .array (.array .int)
abbrev wsX80 : List Cond := u_ws RX8 TX8 3
theorem nmX8 : ∀ a, a < 3 → ∀ b, b < 3 → a ≠ b → (TX8 a).2.1 ≠ (TX8 b).2.1 := by decide +kernel
theorem tyX8_ok : ∀ k, k < 3 → parseFieldDescriptor (TX8 k).2.2.1 = some (tyX8 k) := by decide +kernel
abbrev cX8_init : ByteArray := prog_10_method_1_code
def yX8_init : MethodName := ⟨RX8, "<init>", "()V"⟩
abbrev cX8_grow : ByteArray := prog_10_method_2_code
def yX8_grow : MethodName := ⟨RX8, "grow", "(LStairIdeals$Ideal;)V"⟩
abbrev cX8_branch : ByteArray := prog_10_method_3_code
def yX8_branch : MethodName := ⟨RX8, "branch", "(LStairIdeals$Tree;II)V"⟩
abbrev cX8_pivotOf : ByteArray := prog_10_method_4_code
def yX8_pivotOf : MethodName := ⟨RX8, "pivotOf", "([II)I"⟩
abbrev cX8_keepWithout : ByteArray := prog_10_method_5_code
def yX8_keepWithout : MethodName := ⟨RX8, "keepWithout", "([III[I)I"⟩
abbrev cX8_divide : ByteArray := prog_10_method_6_code
def yX8_divide : MethodName := ⟨RX8, "divide", "([III[I)I"⟩
abbrev cX8_someDivides : ByteArray := prog_10_method_7_code
def yX8_someDivides : MethodName := ⟨RX8, "someDivides", "([III)Z"⟩
def RX9 : String := "StairIdeals$Workshop"
def TX9 : u_T := fun k => match k with
  | 0 => ("StairIdeals$Workshop", "made", "LStairIdeals$Stairs;", true)
  | _ => ("StairIdeals$Workshop", "other", "LStairIdeals$Stairs;", true)
def tyX9 : Nat → FieldType := fun k => match k with
  | 0 => .object "StairIdeals$Stairs"
  | _ => .object "StairIdeals$Stairs"
abbrev wsX90 : List Cond := u_ws RX9 TX9 2
theorem nmX9 : ∀ a, a < 2 → ∀ b, b < 2 → a ≠ b → (TX9 a).2.1 ≠ (TX9 b).2.1 := by decide +kernel
theorem tyX9_ok : ∀ k, k < 2 → parseFieldDescriptor (TX9 k).2.2.1 = some (tyX9 k) := by decide +kernel
abbrev cX9_init : ByteArray := prog_11_method_1_code
def yX9_init : MethodName := ⟨RX9, "<init>", "()V"⟩
abbrev cX9_gather : ByteArray := prog_11_method_2_code
def yX9_gather : MethodName := ⟨RX9, "gather", "(LStairIdeals$Pad;)V"⟩
abbrev cX9_combine : ByteArray := prog_11_method_3_code
def yX9_combine : MethodName := ⟨RX9, "combine", "(ILStairIdeals$Ideal;LStairIdeals$Ideal;)Z"⟩
abbrev cX9_productFits : ByteArray := prog_11_method_4_code
def yX9_productFits : MethodName := ⟨RX9, "productFits", "(LStairIdeals$Ideal;LStairIdeals$Ideal;)Z"⟩
abbrev cX9_divideOther : ByteArray := prog_11_method_5_code
def yX9_divideOther : MethodName := ⟨RX9, "divideOther", "(LStairIdeals$Ideal;)V"⟩
abbrev cX9_radicalOf : ByteArray := prog_11_method_6_code
def yX9_radicalOf : MethodName := ⟨RX9, "radicalOf", "(LStairIdeals$Ideal;)V"⟩
abbrev cX9_meetParts : ByteArray := prog_11_method_7_code
def yX9_meetParts : MethodName := ⟨RX9, "meetParts", "(LStairIdeals$Stairs;I)V"⟩
abbrev cX9_turnParts : ByteArray := prog_11_method_8_code
def yX9_turnParts : MethodName := ⟨RX9, "turnParts", "(LStairIdeals$Stairs;I)V"⟩
abbrev cX9_figuresOf : ByteArray := prog_11_method_9_code
def yX9_figuresOf : MethodName := ⟨RX9, "figuresOf", "(I)I"⟩
abbrev cX9_deliver : ByteArray := prog_11_method_10_code
def yX9_deliver : MethodName := ⟨RX9, "deliver", "(LStairIdeals$Ideal;)I"⟩
abbrev cX9_fill : ByteArray := prog_11_method_11_code
def yX9_fill : MethodName := ⟨RX9, "fill", "(LStairIdeals$Ideal;)V"⟩
def RX10 : String := "StairIdeals"
def TX10 : u_T := fun k => match k with
  | 0 => ("StairIdeals", "pad", "LStairIdeals$Pad;", true)
  | 1 => ("StairIdeals", "holdings", "LStairIdeals$Holdings;", true)
  | 2 => ("StairIdeals", "images", "[LStairIdeals$Holdings;", true)
  | 3 => ("StairIdeals", "workshop", "LStairIdeals$Workshop;", true)
  | _ => ("StairIdeals", "survey", "LStairIdeals$Survey;", true)
def tyX10 : Nat → FieldType := fun k => match k with
  | 0 => .object "StairIdeals$Pad"
  | 1 => .object "StairIdeals$Holdings"
  | 2 => .array (.object "StairIdeals$Holdings")
  | 3 => .object "StairIdeals$Workshop"
  | _ => .object "StairIdeals$Survey"
abbrev wsX100 : List Cond := u_ws RX10 TX10 5
theorem nmX10 : ∀ a, a < 5 → ∀ b, b < 5 → a ≠ b → (TX10 a).2.1 ≠ (TX10 b).2.1 := by decide +kernel
theorem tyX10_ok : ∀ k, k < 5 → parseFieldDescriptor (TX10 k).2.2.1 = some (tyX10 k) := by decide +kernel
abbrev cX10_init : ByteArray := prog_1_method_1_code
def yX10_init : MethodName := ⟨RX10, "<init>", "()V"⟩
abbrev cX10_say : ByteArray := prog_1_method_2_code
def yX10_say : MethodName := ⟨RX10, "say", "(I)I"⟩
abbrev cX10_wipe : ByteArray := prog_1_method_3_code
def yX10_wipe : MethodName := ⟨RX10, "wipe", "()I"⟩
abbrev cX10_fault : ByteArray := prog_1_method_4_code
def yX10_fault : MethodName := ⟨RX10, "fault", "()I"⟩
abbrev cX10_load : ByteArray := prog_1_method_5_code
def yX10_load : MethodName := ⟨RX10, "load", "(I)I"⟩
abbrev cX10_generator : ByteArray := prog_1_method_6_code
def yX10_generator : MethodName := ⟨RX10, "generator", "(II)I"⟩
abbrev cX10_has : ByteArray := prog_1_method_7_code
def yX10_has : MethodName := ⟨RX10, "has", "(II)I"⟩
abbrev cX10_make : ByteArray := prog_1_method_8_code
def yX10_make : MethodName := ⟨RX10, "make", "(IIII)I"⟩
abbrev cX10_compare : ByteArray := prog_1_method_9_code
def yX10_compare : MethodName := ⟨RX10, "compare", "(II)I"⟩
abbrev cX10_part : ByteArray := prog_1_method_10_code
def yX10_part : MethodName := ⟨RX10, "part", "(II)I"⟩
abbrev cX10_prime : ByteArray := prog_1_method_11_code
def yX10_prime : MethodName := ⟨RX10, "prime", "(II)I"⟩
abbrev cX10_primary : ByteArray := prog_1_method_12_code
def yX10_primary : MethodName := ⟨RX10, "primary", "(III)I"⟩
abbrev cX10_dual : ByteArray := prog_1_method_13_code
def yX10_dual : MethodName := ⟨RX10, "dual", "(III)I"⟩
abbrev cX10_count : ByteArray := prog_1_method_14_code
def yX10_count : MethodName := ⟨RX10, "count", "(II)I"⟩
abbrev cX10_series : ByteArray := prog_1_method_15_code
def yX10_series : MethodName := ⟨RX10, "series", "(II)I"⟩
abbrev cX10_facts : ByteArray := prog_1_method_16_code
def yX10_facts : MethodName := ⟨RX10, "facts", "(II)I"⟩
abbrev cX10_betti : ByteArray := prog_1_method_17_code
def yX10_betti : MethodName := ⟨RX10, "betti", "(II)I"⟩
abbrev cX10_bettiAt : ByteArray := prog_1_method_18_code
def yX10_bettiAt : MethodName := ⟨RX10, "bettiAt", "(III)I"⟩
abbrev cX10_share : ByteArray := prog_1_method_19_code
def yX10_share : MethodName := ⟨RX10, "share", "(III)J"⟩
abbrev cX10_hold : ByteArray := prog_1_method_20_code
def yX10_hold : MethodName := ⟨RX10, "hold", "(IIIZ)I"⟩
abbrev cX10_take : ByteArray := prog_1_method_21_code
def yX10_take : MethodName := ⟨RX10, "take", "(III)I"⟩
abbrev cX10_measure : ByteArray := prog_1_method_22_code
def yX10_measure : MethodName := ⟨RX10, "measure", "(II)I"⟩
abbrev cX10_image : ByteArray := prog_1_method_23_code
def yX10_image : MethodName := ⟨RX10, "image", "(I)I"⟩
abbrev cX10_restore : ByteArray := prog_1_method_24_code
def yX10_restore : MethodName := ⟨RX10, "restore", "(I)I"⟩
abbrev cX10_told : ByteArray := prog_1_method_25_code
def yX10_told : MethodName := ⟨RX10, "told", "(I)I"⟩
abbrev cX10_isIdeal : ByteArray := prog_1_method_26_code
def yX10_isIdeal : MethodName := ⟨RX10, "isIdeal", "(I)Z"⟩
abbrev cX10_isPlace : ByteArray := prog_1_method_27_code
def yX10_isPlace : MethodName := ⟨RX10, "isPlace", "(II)Z"⟩
abbrev cX10_refuseDegree : ByteArray := prog_1_method_28_code
def yX10_refuseDegree : MethodName := ⟨RX10, "refuseDegree", "(II)I"⟩
abbrev cX10_placeOfBit : ByteArray := prog_1_method_29_code
def yX10_placeOfBit : MethodName := ⟨RX10, "placeOfBit", "(II)I"⟩
abbrev cX10_placeIsMissing : ByteArray := prog_1_method_30_code
def yX10_placeIsMissing : MethodName := ⟨RX10, "placeIsMissing", "(II)Z"⟩
def RX11 : String := "StairIdealsModel"
def TX11 : u_T := fun k => match k with
  | 0 => ("StairIdealsModel", "codes", "[I", true)
  | 1 => ("StairIdealsModel", "many", "[I", true)
  | 2 => ("StairIdealsModel", "holds", "[I", true)
  | 3 => ("StairIdealsModel", "made", "[Z", true)
  | 4 => ("StairIdealsModel", "pad", "[I", true)
  | 5 => ("StairIdealsModel", "padMany", "I", false)
  | 6 => ("StairIdealsModel", "read", "[I", true)
  | 7 => ("StairIdealsModel", "reads", "I", false)
  | 8 => ("StairIdealsModel", "last", "I", false)
  | 9 => ("StairIdealsModel", "product", "[I", true)
  | 10 => ("StairIdealsModel", "products", "I", false)
  | 11 => ("StairIdealsModel", "standard", "[Z", true)
  | 12 => ("StairIdealsModel", "parts", "[I", true)
  | 13 => ("StairIdealsModel", "partMany", "I", false)
  | 14 => ("StairIdealsModel", "todo", "[I", true)
  | 15 => ("StairIdealsModel", "todoMany", "[I", true)
  | 16 => ("StairIdealsModel", "todoDeep", "[I", true)
  | 17 => ("StairIdealsModel", "todos", "I", false)
  | 18 => ("StairIdealsModel", "list", "[I", true)
  | 19 => ("StairIdealsModel", "listMany", "I", false)
  | 20 => ("StairIdealsModel", "pivots", "I", false)
  | 21 => ("StairIdealsModel", "deepest", "I", false)
  | 22 => ("StairIdealsModel", "lattice", "[Z", true)
  | 23 => ("StairIdealsModel", "faces", "I", false)
  | 24 => ("StairIdealsModel", "basis", "[I", true)
  | 25 => ("StairIdealsModel", "figures", "J", false)
  | 26 => ("StairIdealsModel", "twos", "I", false)
  | 27 => ("StairIdealsModel", "kept", "[I", true)
  | 28 => ("StairIdealsModel", "isKept", "[Z", true)
  | 29 => ("StairIdealsModel", "keptAt", "I", false)
  | _ => ("StairIdealsModel", "isWriting", "Z", false)
def tyX11 : Nat → FieldType := fun k => match k with
  | 0 => .array .int
  | 1 => .array .int
  | 2 => .array .int
  | 3 => .array .boolean
  | 4 => .array .int
  | 5 => .int
  | 6 => .array .int
  | 7 => .int
  | 8 => .int
  | 9 => .array .int
  | 10 => .int
  | 11 => .array .boolean
  | 12 => .array .int
  | 13 => .int
  | 14 => .array .int
  | 15 => .array .int
  | 16 => .array .int
  | 17 => .int
  | 18 => .array .int
  | 19 => .int
  | 20 => .int
  | 21 => .int
  | 22 => .array .boolean
  | 23 => .int
  | 24 => .array .int
  | 25 => .long
  | 26 => .int
  | 27 => .array .int
  | 28 => .array .boolean
  | 29 => .int
  | _ => .boolean
abbrev wsX110 : List Cond := u_ws RX11 TX11 31
theorem nmX11 : ∀ a, a < 31 → ∀ b, b < 31 → a ≠ b → (TX11 a).2.1 ≠ (TX11 b).2.1 := by decide +kernel
theorem tyX11_ok : ∀ k, k < 31 → parseFieldDescriptor (TX11 k).2.2.1 = some (tyX11 k) := by decide +kernel
abbrev cX11_init : ByteArray := prog_13_method_1_code
def yX11_init : MethodName := ⟨RX11, "<init>", "()V"⟩
abbrev cX11_in : ByteArray := prog_13_method_3_code
def yX11_in : MethodName := ⟨RX11, "in", "(JJJ)Z"⟩
abbrev cX11_isIdeal : ByteArray := prog_13_method_4_code
def yX11_isIdeal : MethodName := ⟨RX11, "isIdeal", "(I)Z"⟩
abbrev cX11_isPlace : ByteArray := prog_13_method_5_code
def yX11_isPlace : MethodName := ⟨RX11, "isPlace", "(II)Z"⟩
abbrev cX11_less : ByteArray := prog_13_method_6_code
def yX11_less : MethodName := ⟨RX11, "less", "(II)I"⟩
abbrev cX11_greater : ByteArray := prog_13_method_7_code
def yX11_greater : MethodName := ⟨RX11, "greater", "(II)I"⟩
abbrev cX11_ones : ByteArray := prog_13_method_8_code
def yX11_ones : MethodName := ⟨RX11, "ones", "(I)I"⟩
abbrev cX11_ten : ByteArray := prog_13_method_9_code
def yX11_ten : MethodName := ⟨RX11, "ten", "(I)I"⟩
abbrev cX11_power : ByteArray := prog_13_method_10_code
def yX11_power : MethodName := ⟨RX11, "power", "(II)I"⟩
abbrev cX11_isCode : ByteArray := prog_13_method_11_code
def yX11_isCode : MethodName := ⟨RX11, "isCode", "(I)Z"⟩
abbrev cX11_codeAt : ByteArray := prog_13_method_12_code
def yX11_codeAt : MethodName := ⟨RX11, "codeAt", "(I)I"⟩
abbrev cX11_placeOf : ByteArray := prog_13_method_13_code
def yX11_placeOf : MethodName := ⟨RX11, "placeOf", "(I)I"⟩
abbrev cX11_divides : ByteArray := prog_13_method_14_code
def yX11_divides : MethodName := ⟨RX11, "divides", "(II)Z"⟩
abbrev cX11_together : ByteArray := prog_13_method_15_code
def yX11_together : MethodName := ⟨RX11, "together", "(II)I"⟩
abbrev cX11_capped : ByteArray := prog_13_method_16_code
def yX11_capped : MethodName := ⟨RX11, "capped", "(II)I"⟩
abbrev cX11_support : ByteArray := prog_13_method_17_code
def yX11_support : MethodName := ⟨RX11, "support", "(I)I"⟩
abbrev cX11_at : ByteArray := prog_13_method_18_code
def yX11_at : MethodName := ⟨RX11, "at", "(II)I"⟩
abbrev cX11_isIn : ByteArray := prog_13_method_19_code
def yX11_isIn : MethodName := ⟨RX11, "isIn", "(II)Z"⟩
abbrev cX11_isLeast : ByteArray := prog_13_method_20_code
def yX11_isLeast : MethodName := ⟨RX11, "isLeast", "(I)Z"⟩
abbrev cX11_keep : ByteArray := prog_13_method_21_code
def yX11_keep : MethodName := ⟨RX11, "keep", "(I)I"⟩
abbrev cX11_markAbove : ByteArray := prog_13_method_22_code
def yX11_markAbove : MethodName := ⟨RX11, "markAbove", "(I)V"⟩
abbrev cX11_clear : ByteArray := prog_13_method_23_code
def yX11_clear : MethodName := ⟨RX11, "clear", "()V"⟩
abbrev cX11_say : ByteArray := prog_13_method_24_code
def yX11_say : MethodName := ⟨RX11, "say", "(I)I"⟩
abbrev cX11_wipe : ByteArray := prog_13_method_25_code
def yX11_wipe : MethodName := ⟨RX11, "wipe", "()I"⟩
abbrev cX11_goOn : ByteArray := prog_13_method_26_code
def yX11_goOn : MethodName := ⟨RX11, "goOn", "(II)I"⟩
abbrev cX11_fault : ByteArray := prog_13_method_27_code
def yX11_fault : MethodName := ⟨RX11, "fault", "()I"⟩
abbrev cX11_load : ByteArray := prog_13_method_28_code
def yX11_load : MethodName := ⟨RX11, "load", "(I)I"⟩
abbrev cX11_generator : ByteArray := prog_13_method_29_code
def yX11_generator : MethodName := ⟨RX11, "generator", "(II)I"⟩
abbrev cX11_has : ByteArray := prog_13_method_30_code
def yX11_has : MethodName := ⟨RX11, "has", "(II)I"⟩
abbrev cX11_isQuotient : ByteArray := prog_13_method_31_code
def yX11_isQuotient : MethodName := ⟨RX11, "isQuotient", "(III)Z"⟩
abbrev cX11_isRoot : ByteArray := prog_13_method_32_code
def yX11_isRoot : MethodName := ⟨RX11, "isRoot", "(II)Z"⟩
abbrev cX11_isMade : ByteArray := prog_13_method_33_code
def yX11_isMade : MethodName := ⟨RX11, "isMade", "(IIII)Z"⟩
abbrev cX11_packed : ByteArray := prog_13_method_34_code
def yX11_packed : MethodName := ⟨RX11, "packed", "(II)I"⟩
abbrev cX11_isUnder : ByteArray := prog_13_method_35_code
def yX11_isUnder : MethodName := ⟨RX11, "isUnder", "(II)Z"⟩
abbrev cX11_addProduct : ByteArray := prog_13_method_36_code
def yX11_addProduct : MethodName := ⟨RX11, "addProduct", "(I)V"⟩
abbrev cX11_isHigh : ByteArray := prog_13_method_37_code
def yX11_isHigh : MethodName := ⟨RX11, "isHigh", "(I)Z"⟩
abbrev cX11_multiply : ByteArray := prog_13_method_38_code
def yX11_multiply : MethodName := ⟨RX11, "multiply", "(III)I"⟩
abbrev cX11_make : ByteArray := prog_13_method_39_code
def yX11_make : MethodName := ⟨RX11, "make", "(IIII)I"⟩
abbrev cX11_isWithin : ByteArray := prog_13_method_40_code
def yX11_isWithin : MethodName := ⟨RX11, "isWithin", "(II)Z"⟩
abbrev cX11_compare : ByteArray := prog_13_method_41_code
def yX11_compare : MethodName := ⟨RX11, "compare", "(II)I"⟩
abbrev cX11_findStandard : ByteArray := prog_13_method_42_code
def yX11_findStandard : MethodName := ⟨RX11, "findStandard", "(I)V"⟩
abbrev cX11_isHighest : ByteArray := prog_13_method_43_code
def yX11_isHighest : MethodName := ⟨RX11, "isHighest", "(I)Z"⟩
abbrev cX11_partBy : ByteArray := prog_13_method_44_code
def yX11_partBy : MethodName := ⟨RX11, "partBy", "(I)I"⟩
abbrev cX11_findParts : ByteArray := prog_13_method_45_code
def yX11_findParts : MethodName := ⟨RX11, "findParts", "(I)V"⟩
abbrev cX11_layPart : ByteArray := prog_13_method_46_code
def yX11_layPart : MethodName := ⟨RX11, "layPart", "(I)V"⟩
abbrev cX11_part : ByteArray := prog_13_method_47_code
def yX11_part : MethodName := ⟨RX11, "part", "(II)I"⟩
abbrev cX11_primesOf : ByteArray := prog_13_method_48_code
def yX11_primesOf : MethodName := ⟨RX11, "primesOf", "(I)I"⟩
abbrev cX11_prime : ByteArray := prog_13_method_49_code
def yX11_prime : MethodName := ⟨RX11, "prime", "(II)I"⟩
abbrev cX11_isInPart : ByteArray := prog_13_method_50_code
def yX11_isInPart : MethodName := ⟨RX11, "isInPart", "(II)Z"⟩
abbrev cX11_primary : ByteArray := prog_13_method_51_code
def yX11_primary : MethodName := ⟨RX11, "primary", "(III)I"⟩
abbrev cX11_dualBy : ByteArray := prog_13_method_52_code
def yX11_dualBy : MethodName := ⟨RX11, "dualBy", "(II)I"⟩
abbrev cX11_dual : ByteArray := prog_13_method_53_code
def yX11_dual : MethodName := ⟨RX11, "dual", "(III)I"⟩
abbrev cX11_choose : ByteArray := prog_13_method_54_code
def yX11_choose : MethodName := ⟨RX11, "choose", "(II)I"⟩
abbrev cX11_standsFor : ByteArray := prog_13_method_55_code
def yX11_standsFor : MethodName := ⟨RX11, "standsFor", "(II)I"⟩
abbrev cX11_countOf : ByteArray := prog_13_method_56_code
def yX11_countOf : MethodName := ⟨RX11, "countOf", "(I)I"⟩
abbrev cX11_count : ByteArray := prog_13_method_57_code
def yX11_count : MethodName := ⟨RX11, "count", "(II)I"⟩
abbrev cX11_series : ByteArray := prog_13_method_58_code
def yX11_series : MethodName := ⟨RX11, "series", "(II)I"⟩
abbrev cX11_dimension : ByteArray := prog_13_method_59_code
def yX11_dimension : MethodName := ⟨RX11, "dimension", "()I"⟩
abbrev cX11_sizeOf : ByteArray := prog_13_method_60_code
def yX11_sizeOf : MethodName := ⟨RX11, "sizeOf", "(I)I"⟩
abbrev cX11_isLeaf : ByteArray := prog_13_method_61_code
def yX11_isLeaf : MethodName := ⟨RX11, "isLeaf", "()Z"⟩
abbrev cX11_pivot : ByteArray := prog_13_method_62_code
def yX11_pivot : MethodName := ⟨RX11, "pivot", "()I"⟩
abbrev cX11_push : ByteArray := prog_13_method_63_code
def yX11_push : MethodName := ⟨RX11, "push", "(I)V"⟩
abbrev cX11_opens : ByteArray := prog_13_method_64_code
def yX11_opens : MethodName := ⟨RX11, "opens", "(I)V"⟩
abbrev cX11_pushSum : ByteArray := prog_13_method_65_code
def yX11_pushSum : MethodName := ⟨RX11, "pushSum", "(II)V"⟩
abbrev cX11_lessened : ByteArray := prog_13_method_66_code
def yX11_lessened : MethodName := ⟨RX11, "lessened", "(II)I"⟩
abbrev cX11_isTooMuch : ByteArray := prog_13_method_67_code
def yX11_isTooMuch : MethodName := ⟨RX11, "isTooMuch", "(II)Z"⟩
abbrev cX11_pushQuotient : ByteArray := prog_13_method_68_code
def yX11_pushQuotient : MethodName := ⟨RX11, "pushQuotient", "(II)V"⟩
abbrev cX11_popList : ByteArray := prog_13_method_69_code
def yX11_popList : MethodName := ⟨RX11, "popList", "()V"⟩
abbrev cX11_findTree : ByteArray := prog_13_method_70_code
def yX11_findTree : MethodName := ⟨RX11, "findTree", "(I)V"⟩
abbrev cX11_findLattice : ByteArray := prog_13_method_71_code
def yX11_findLattice : MethodName := ⟨RX11, "findLattice", "(I)V"⟩
abbrev cX11_latticeMany : ByteArray := prog_13_method_72_code
def yX11_latticeMany : MethodName := ⟨RX11, "latticeMany", "(I)I"⟩
abbrev cX11_sizeTold : ByteArray := prog_13_method_73_code
def yX11_sizeTold : MethodName := ⟨RX11, "sizeTold", "(I)I"⟩
abbrev cX11_facts : ByteArray := prog_13_method_74_code
def yX11_facts : MethodName := ⟨RX11, "facts", "(II)I"⟩
abbrev cX11_without : ByteArray := prog_13_method_75_code
def yX11_without : MethodName := ⟨RX11, "without", "(II)I"⟩
abbrev cX11_findFaces : ByteArray := prog_13_method_76_code
def yX11_findFaces : MethodName := ⟨RX11, "findFaces", "(II)V"⟩
abbrev cX11_facesOf : ByteArray := prog_13_method_77_code
def yX11_facesOf : MethodName := ⟨RX11, "facesOf", "(I)I"⟩
abbrev cX11_border : ByteArray := prog_13_method_78_code
def yX11_border : MethodName := ⟨RX11, "border", "(I)I"⟩
abbrev cX11_rank : ByteArray := prog_13_method_79_code
def yX11_rank : MethodName := ⟨RX11, "rank", "(I)I"⟩
abbrev cX11_holesAt : ByteArray := prog_13_method_80_code
def yX11_holesAt : MethodName := ⟨RX11, "holesAt", "(III)I"⟩
abbrev cX11_betti : ByteArray := prog_13_method_81_code
def yX11_betti : MethodName := ⟨RX11, "betti", "(II)I"⟩
abbrev cX11_bettiAt : ByteArray := prog_13_method_82_code
def yX11_bettiAt : MethodName := ⟨RX11, "bettiAt", "(III)I"⟩
abbrev cX11_nearest : ByteArray := prog_13_method_83_code
def yX11_nearest : MethodName := ⟨RX11, "nearest", "(JJI)V"⟩
abbrev cX11_bits : ByteArray := prog_13_method_84_code
def yX11_bits : MethodName := ⟨RX11, "bits", "(II)J"⟩
abbrev cX11_cut : ByteArray := prog_13_method_85_code
def yX11_cut : MethodName := ⟨RX11, "cut", "()J"⟩
abbrev cX11_share : ByteArray := prog_13_method_86_code
def yX11_share : MethodName := ⟨RX11, "share", "(III)J"⟩
abbrev cX11_holderOf : ByteArray := prog_13_method_87_code
def yX11_holderOf : MethodName := ⟨RX11, "holderOf", "(II)I"⟩
abbrev cX11_copy : ByteArray := prog_13_method_88_code
def yX11_copy : MethodName := ⟨RX11, "copy", "(II)V"⟩
abbrev cX11_hold : ByteArray := prog_13_method_89_code
def yX11_hold : MethodName := ⟨RX11, "hold", "(IIIZ)I"⟩
abbrev cX11_take : ByteArray := prog_13_method_90_code
def yX11_take : MethodName := ⟨RX11, "take", "(III)I"⟩
abbrev cX11_measure : ByteArray := prog_13_method_91_code
def yX11_measure : MethodName := ⟨RX11, "measure", "(II)I"⟩
abbrev cX11_passRow : ByteArray := prog_13_method_92_code
def yX11_passRow : MethodName := ⟨RX11, "passRow", "([II)V"⟩
abbrev cX11_passAll : ByteArray := prog_13_method_93_code
def yX11_passAll : MethodName := ⟨RX11, "passAll", "()V"⟩
abbrev cX11_image : ByteArray := prog_13_method_94_code
def yX11_image : MethodName := ⟨RX11, "image", "(I)I"⟩
abbrev cX11_restore : ByteArray := prog_13_method_95_code
def yX11_restore : MethodName := ⟨RX11, "restore", "(I)I"⟩
abbrev cX11_told : ByteArray := prog_13_method_96_code
def yX11_told : MethodName := ⟨RX11, "told", "(I)I"⟩
def RJ6 : String := "java/lang/Integer"
def TJ6 : u_T := fun k => match k with
  | _ => ("", "", "", false)
def tyJ6 : Nat → FieldType := fun k => match k with
  | _ => .int
abbrev wsJ60 : List Cond := u_ws RJ6 TJ6 0
theorem nmJ6 : ∀ a, a < 0 → ∀ b, b < 0 → a ≠ b → (TJ6 a).2.1 ≠ (TJ6 b).2.1 := by decide +kernel
theorem tyJ6_ok : ∀ k, k < 0 → parseFieldDescriptor (TJ6 k).2.2.1 = some (tyJ6 k) := by decide +kernel
abbrev cJ6_bitCount_0f7a4 : ByteArray := prog_14_method_49_code
def yJ6_bitCount_0f7a4 : MethodName := ⟨RJ6, "bitCount", "(I)I"⟩
def RJ9 : String := "java/lang/Math"
def TJ9 : u_T := fun k => match k with
  | _ => ("", "", "", false)
def tyJ9 : Nat → FieldType := fun k => match k with
  | _ => .int
abbrev wsJ90 : List Cond := u_ws RJ9 TJ9 0
theorem nmJ9 : ∀ a, a < 0 → ∀ b, b < 0 → a ≠ b → (TJ9 a).2.1 ≠ (TJ9 b).2.1 := by decide +kernel
theorem tyJ9_ok : ∀ k, k < 0 → parseFieldDescriptor (TJ9 k).2.2.1 = some (tyJ9 k) := by decide +kernel
abbrev cJ9_max_7cf53 : ByteArray := prog_15_method_65_code
def yJ9_max_7cf53 : MethodName := ⟨RJ9, "max", "(II)I"⟩
abbrev cJ9_min_7cf53 : ByteArray := prog_15_method_69_code
def yJ9_min_7cf53 : MethodName := ⟨RJ9, "min", "(II)I"⟩
def RJ10 : String := "java/lang/System"
def TJ10 : u_T := fun k => match k with
  | _ => ("", "", "", false)
def tyJ10 : Nat → FieldType := fun k => match k with
  | _ => .int
abbrev wsJ100 : List Cond := u_ws RJ10 TJ10 0
theorem nmJ10 : ∀ a, a < 0 → ∀ b, b < 0 → a ≠ b → (TJ10 a).2.1 ≠ (TJ10 b).2.1 := by decide +kernel
theorem tyJ10_ok : ∀ k, k < 0 → parseFieldDescriptor (TJ10 k).2.2.1 = some (tyJ10 k) := by decide +kernel
def RJ7 : String := "java/util/Arrays"
def TJ7 : u_T := fun k => match k with
  | _ => ("", "", "", false)
def tyJ7 : Nat → FieldType := fun k => match k with
  | _ => .int
abbrev wsJ70 : List Cond := u_ws RJ7 TJ7 0
theorem nmJ7 : ∀ a, a < 0 → ∀ b, b < 0 → a ≠ b → (TJ7 a).2.1 ≠ (TJ7 b).2.1 := by decide +kernel
theorem tyJ7_ok : ∀ k, k < 0 → parseFieldDescriptor (TJ7 k).2.2.1 = some (tyJ7 k) := by decide +kernel
abbrev cJ7_fill_53178 : ByteArray := prog_17_method_103_code
def yJ7_fill_53178 : MethodName := ⟨RJ7, "fill", "([II)V"⟩
def RL : String := "StairIdealsLaw"
abbrev cL_law : ByteArray := code
def yL_law : MethodName := ⟨RL, "law", "([I)Z"⟩
/-- words of one list among lw_tbl, by their places -/
theorem lw_pl (ws : List Cond) (ps : List Nat) (hp : ws = ps.filterMap (fun i => lw_tbl[i]?)) : ∀ w ∈ ws, w ∈ lw_tbl := by
  intro w hw
  rw [hp] at hw
  obtain ⟨i, -, hi⟩ := List.mem_filterMap.mp hw
  exact List.mem_of_getElem? hi
theorem inX0 : ∀ w ∈ wsX00, w ∈ lw_tbl := lw_pl _ [197] (by decide +kernel)
theorem inX1 : ∀ w ∈ wsX10, w ∈ lw_tbl := lw_pl _ [149, 151, 153] (by decide +kernel)
theorem inX2 : ∀ w ∈ wsX20, w ∈ lw_tbl := lw_pl _ [138, 140] (by decide +kernel)
theorem inX3 : ∀ w ∈ wsX30, w ∈ lw_tbl := lw_pl _ [] (by decide +kernel)
theorem inX4 : ∀ w ∈ wsX40, w ∈ lw_tbl := lw_pl _ [99, 101, 103, 105, 107, 109, 111] (by decide +kernel)
theorem inX5 : ∀ w ∈ wsX50, w ∈ lw_tbl := lw_pl _ [] (by decide +kernel)
theorem inX6 : ∀ w ∈ wsX60, w ∈ lw_tbl := lw_pl _ [172] (by decide +kernel)
theorem inX7 : ∀ w ∈ wsX70, w ∈ lw_tbl := lw_pl _ [225, 227, 229, 231] (by decide +kernel)
theorem inX8 : ∀ w ∈ wsX80, w ∈ lw_tbl := lw_pl _ [213, 215, 217] (by decide +kernel)
theorem inX9 : ∀ w ∈ wsX90, w ∈ lw_tbl := lw_pl _ [177, 179] (by decide +kernel)
theorem inX10 : ∀ w ∈ wsX100, w ∈ lw_tbl := lw_pl _ [239, 241, 243, 245, 247] (by decide +kernel)
theorem inX11 : ∀ w ∈ wsX110, w ∈ lw_tbl := lw_pl _ [762, 764, 766, 768, 770, 772, 774, 776, 778, 780, 782, 784, 786, 788, 790, 792, 794, 796, 798, 800, 802, 804, 806, 808, 810, 812, 814, 816, 818, 820, 822] (by decide +kernel)
end
section
theorem dX0_init_0 : decode cX0_init 0 = .ok (.aload_n 0, 1) := by decide +kernel
theorem dX0_init_1 : decode cX0_init 1 = .ok (.invokespecial 3, 3) := by decide +kernel
theorem dX0_init_4 : decode cX0_init 4 = .ok (.aload_n 0, 1) := by decide +kernel
theorem dX0_init_5 : decode cX0_init 5 = .ok (.bipush 16, 2) := by decide +kernel
theorem dX0_init_7 : decode cX0_init 7 = .ok (.newarray .int, 2) := by decide +kernel
theorem dX0_init_9 : decode cX0_init 9 = .ok (.putfield 11, 3) := by decide +kernel
theorem dX0_init_12 : decode cX0_init 12 = .ok (.return_, 1) := by decide +kernel
theorem dX0_sheetsAt_0 : decode cX0_sheetsAt 0 = .ok (.iconst 0, 1) := by decide +kernel
theorem dX0_sheetsAt_1 : decode cX0_sheetsAt 1 = .ok (.istore_n 2, 1) := by decide +kernel
theorem dX0_sheetsAt_2 : decode cX0_sheetsAt 2 = .ok (.iconst 0, 1) := by decide +kernel
theorem dX0_sheetsAt_3 : decode cX0_sheetsAt 3 = .ok (.istore_n 3, 1) := by decide +kernel
theorem dX0_sheetsAt_4 : decode cX0_sheetsAt 4 = .ok (.iload_n 3, 1) := by decide +kernel
theorem dX0_sheetsAt_5 : decode cX0_sheetsAt 5 = .ok (.bipush 16, 2) := by decide +kernel
theorem dX0_sheetsAt_7 : decode cX0_sheetsAt 7 = .ok (.if_icmp .ge 41, 3) := by decide +kernel
theorem dX0_sheetsAt_10 : decode cX0_sheetsAt 10 = .ok (.iload_n 3, 1) := by decide +kernel
theorem dX0_sheetsAt_11 : decode cX0_sheetsAt 11 = .ok (.invokestatic 15, 3) := by decide +kernel
theorem dX0_sheetsAt_14 : decode cX0_sheetsAt 14 = .ok (.istore 4, 2) := by decide +kernel
theorem dX0_sheetsAt_16 : decode cX0_sheetsAt 16 = .ok (.iload 4, 2) := by decide +kernel
theorem dX0_sheetsAt_18 : decode cX0_sheetsAt 18 = .ok (.iload_n 0, 1) := by decide +kernel
theorem dX0_sheetsAt_19 : decode cX0_sheetsAt 19 = .ok (.invokestatic 21, 3) := by decide +kernel
theorem dX0_sheetsAt_22 : decode cX0_sheetsAt 22 = .ok (.ifCond .eq 20, 3) := by decide +kernel
theorem dX0_sheetsAt_25 : decode cX0_sheetsAt 25 = .ok (.aload_n 1, 1) := by decide +kernel
theorem dX0_sheetsAt_26 : decode cX0_sheetsAt 26 = .ok (.iload_n 0, 1) := by decide +kernel
theorem dX0_sheetsAt_27 : decode cX0_sheetsAt 27 = .ok (.iload 4, 2) := by decide +kernel
theorem dX0_sheetsAt_29 : decode cX0_sheetsAt 29 = .ok (.isub, 1) := by decide +kernel
theorem dX0_sheetsAt_30 : decode cX0_sheetsAt 30 = .ok (.invokevirtual 25, 3) := by decide +kernel
theorem dX0_sheetsAt_33 : decode cX0_sheetsAt 33 = .ok (.ifCond .eq 9, 3) := by decide +kernel
theorem dX0_sheetsAt_36 : decode cX0_sheetsAt 36 = .ok (.iload_n 2, 1) := by decide +kernel
theorem dX0_sheetsAt_37 : decode cX0_sheetsAt 37 = .ok (.iconst 1, 1) := by decide +kernel
theorem dX0_sheetsAt_38 : decode cX0_sheetsAt 38 = .ok (.iload_n 3, 1) := by decide +kernel
theorem dX0_sheetsAt_39 : decode cX0_sheetsAt 39 = .ok (.ishl, 1) := by decide +kernel
theorem dX0_sheetsAt_40 : decode cX0_sheetsAt 40 = .ok (.ior, 1) := by decide +kernel
theorem dX0_sheetsAt_41 : decode cX0_sheetsAt 41 = .ok (.istore_n 2, 1) := by decide +kernel
theorem dX0_sheetsAt_42 : decode cX0_sheetsAt 42 = .ok (.iinc 3 1, 3) := by decide +kernel
theorem dX0_sheetsAt_45 : decode cX0_sheetsAt 45 = .ok (.goto (-41), 3) := by decide +kernel
theorem dX0_sheetsAt_48 : decode cX0_sheetsAt 48 = .ok (.iload_n 2, 1) := by decide +kernel
theorem dX0_sheetsAt_49 : decode cX0_sheetsAt 49 = .ok (.ireturn, 1) := by decide +kernel
theorem dX0_holes_0 : decode cX0_holes 0 = .ok (.iload_n 1, 1) := by decide +kernel
theorem dX0_holes_1 : decode cX0_holes 1 = .ok (.iload_n 2, 1) := by decide +kernel
theorem dX0_holes_2 : decode cX0_holes 2 = .ok (.invokestatic 31, 3) := by decide +kernel
theorem dX0_holes_5 : decode cX0_holes 5 = .ok (.aload_n 0, 1) := by decide +kernel
theorem dX0_holes_6 : decode cX0_holes 6 = .ok (.iload_n 1, 1) := by decide +kernel
theorem dX0_holes_7 : decode cX0_holes 7 = .ok (.iload_n 2, 1) := by decide +kernel
theorem dX0_holes_8 : decode cX0_holes 8 = .ok (.invokevirtual 35, 3) := by decide +kernel
theorem dX0_holes_11 : decode cX0_holes 11 = .ok (.isub, 1) := by decide +kernel
theorem dX0_holes_12 : decode cX0_holes 12 = .ok (.aload_n 0, 1) := by decide +kernel
theorem dX0_holes_13 : decode cX0_holes 13 = .ok (.iload_n 1, 1) := by decide +kernel
theorem dX0_holes_14 : decode cX0_holes 14 = .ok (.iload_n 2, 1) := by decide +kernel
theorem dX0_holes_15 : decode cX0_holes 15 = .ok (.iconst 1, 1) := by decide +kernel
theorem dX0_holes_16 : decode cX0_holes 16 = .ok (.iadd, 1) := by decide +kernel
theorem dX0_holes_17 : decode cX0_holes 17 = .ok (.invokevirtual 35, 3) := by decide +kernel
theorem dX0_holes_20 : decode cX0_holes 20 = .ok (.isub, 1) := by decide +kernel
theorem dX0_holes_21 : decode cX0_holes 21 = .ok (.ireturn, 1) := by decide +kernel
theorem dX0_sheetsOf_0 : decode cX0_sheetsOf 0 = .ok (.iconst 0, 1) := by decide +kernel
theorem dX0_sheetsOf_1 : decode cX0_sheetsOf 1 = .ok (.istore_n 2, 1) := by decide +kernel
theorem dX0_sheetsOf_2 : decode cX0_sheetsOf 2 = .ok (.iconst 0, 1) := by decide +kernel
theorem dX0_sheetsOf_3 : decode cX0_sheetsOf 3 = .ok (.istore_n 3, 1) := by decide +kernel
theorem dX0_sheetsOf_4 : decode cX0_sheetsOf 4 = .ok (.iload_n 3, 1) := by decide +kernel
theorem dX0_sheetsOf_5 : decode cX0_sheetsOf 5 = .ok (.bipush 16, 2) := by decide +kernel
theorem dX0_sheetsOf_7 : decode cX0_sheetsOf 7 = .ok (.if_icmp .ge 29, 3) := by decide +kernel
theorem dX0_sheetsOf_10 : decode cX0_sheetsOf 10 = .ok (.iload_n 0, 1) := by decide +kernel
theorem dX0_sheetsOf_11 : decode cX0_sheetsOf 11 = .ok (.iload_n 3, 1) := by decide +kernel
theorem dX0_sheetsOf_12 : decode cX0_sheetsOf 12 = .ok (.ishr, 1) := by decide +kernel
theorem dX0_sheetsOf_13 : decode cX0_sheetsOf 13 = .ok (.iconst 1, 1) := by decide +kernel
theorem dX0_sheetsOf_14 : decode cX0_sheetsOf 14 = .ok (.iand, 1) := by decide +kernel
theorem dX0_sheetsOf_15 : decode cX0_sheetsOf 15 = .ok (.iconst 1, 1) := by decide +kernel
theorem dX0_sheetsOf_16 : decode cX0_sheetsOf 16 = .ok (.if_icmp .ne 14, 3) := by decide +kernel
theorem dX0_sheetsOf_19 : decode cX0_sheetsOf 19 = .ok (.iload_n 3, 1) := by decide +kernel
theorem dX0_sheetsOf_20 : decode cX0_sheetsOf 20 = .ok (.invokestatic 38, 3) := by decide +kernel
theorem dX0_sheetsOf_23 : decode cX0_sheetsOf 23 = .ok (.iload_n 1, 1) := by decide +kernel
theorem dX0_sheetsOf_24 : decode cX0_sheetsOf 24 = .ok (.if_icmp .ne 6, 3) := by decide +kernel
theorem dX0_sheetsOf_27 : decode cX0_sheetsOf 27 = .ok (.iinc 2 1, 3) := by decide +kernel
theorem dX0_sheetsOf_30 : decode cX0_sheetsOf 30 = .ok (.iinc 3 1, 3) := by decide +kernel
theorem dX0_sheetsOf_33 : decode cX0_sheetsOf 33 = .ok (.goto (-29), 3) := by decide +kernel
theorem dX0_sheetsOf_36 : decode cX0_sheetsOf 36 = .ok (.iload_n 2, 1) := by decide +kernel
theorem dX0_sheetsOf_37 : decode cX0_sheetsOf 37 = .ok (.ireturn, 1) := by decide +kernel
theorem dX0_borders_0 : decode cX0_borders 0 = .ok (.iconst 0, 1) := by decide +kernel
theorem dX0_borders_1 : decode cX0_borders 1 = .ok (.istore_n 3, 1) := by decide +kernel
theorem dX0_borders_2 : decode cX0_borders 2 = .ok (.iconst 1, 1) := by decide +kernel
theorem dX0_borders_3 : decode cX0_borders 3 = .ok (.istore 4, 2) := by decide +kernel
theorem dX0_borders_5 : decode cX0_borders 5 = .ok (.iload 4, 2) := by decide +kernel
theorem dX0_borders_7 : decode cX0_borders 7 = .ok (.bipush 16, 2) := by decide +kernel
theorem dX0_borders_9 : decode cX0_borders 9 = .ok (.if_icmp .ge 65, 3) := by decide +kernel
theorem dX0_borders_12 : decode cX0_borders 12 = .ok (.iload_n 1, 1) := by decide +kernel
theorem dX0_borders_13 : decode cX0_borders 13 = .ok (.iload 4, 2) := by decide +kernel
theorem dX0_borders_15 : decode cX0_borders 15 = .ok (.ishr, 1) := by decide +kernel
theorem dX0_borders_16 : decode cX0_borders 16 = .ok (.iconst 1, 1) := by decide +kernel
theorem dX0_borders_17 : decode cX0_borders 17 = .ok (.iand, 1) := by decide +kernel
theorem dX0_borders_18 : decode cX0_borders 18 = .ok (.iconst 1, 1) := by decide +kernel
theorem dX0_borders_19 : decode cX0_borders 19 = .ok (.if_icmp .ne 49, 3) := by decide +kernel
theorem dX0_borders_22 : decode cX0_borders 22 = .ok (.iload 4, 2) := by decide +kernel
theorem dX0_borders_24 : decode cX0_borders 24 = .ok (.invokestatic 38, 3) := by decide +kernel
theorem dX0_borders_27 : decode cX0_borders 27 = .ok (.iload_n 2, 1) := by decide +kernel
theorem dX0_borders_28 : decode cX0_borders 28 = .ok (.if_icmp .ne 40, 3) := by decide +kernel
theorem dX0_borders_31 : decode cX0_borders 31 = .ok (.aload_n 0, 1) := by decide +kernel
theorem dX0_borders_32 : decode cX0_borders 32 = .ok (.iload 4, 2) := by decide +kernel
theorem dX0_borders_34 : decode cX0_borders 34 = .ok (.invokestatic 43, 3) := by decide +kernel
theorem dX0_borders_37 : decode cX0_borders 37 = .ok (.iload_n 3, 1) := by decide +kernel
theorem dX0_borders_38 : decode cX0_borders 38 = .ok (.invokevirtual 46, 3) := by decide +kernel
theorem dX0_borders_41 : decode cX0_borders 41 = .ok (.istore 5, 2) := by decide +kernel
theorem dX0_borders_43 : decode cX0_borders 43 = .ok (.iload 5, 2) := by decide +kernel
theorem dX0_borders_45 : decode cX0_borders 45 = .ok (.ifCond .eq 23, 3) := by decide +kernel
theorem dX0_borders_48 : decode cX0_borders 48 = .ok (.iload_n 3, 1) := by decide +kernel
theorem dX0_borders_49 : decode cX0_borders 49 = .ok (.aload_n 0, 1) := by decide +kernel
theorem dX0_borders_50 : decode cX0_borders 50 = .ok (.getfield 11, 3) := by decide +kernel
theorem dX0_borders_53 : decode cX0_borders 53 = .ok (.arraylength, 1) := by decide +kernel
theorem dX0_borders_54 : decode cX0_borders 54 = .ok (.if_icmp .ge 14, 3) := by decide +kernel
theorem dX0_borders_57 : decode cX0_borders 57 = .ok (.aload_n 0, 1) := by decide +kernel
theorem dX0_borders_58 : decode cX0_borders 58 = .ok (.getfield 11, 3) := by decide +kernel
theorem dX0_borders_61 : decode cX0_borders 61 = .ok (.iload_n 3, 1) := by decide +kernel
theorem dX0_borders_62 : decode cX0_borders 62 = .ok (.iload 5, 2) := by decide +kernel
theorem dX0_borders_64 : decode cX0_borders 64 = .ok (.iastore, 1) := by decide +kernel
theorem dX0_borders_65 : decode cX0_borders 65 = .ok (.iinc 3 1, 3) := by decide +kernel
theorem dX0_borders_68 : decode cX0_borders 68 = .ok (.iinc 4 1, 3) := by decide +kernel
theorem dX0_borders_71 : decode cX0_borders 71 = .ok (.goto (-66), 3) := by decide +kernel
theorem dX0_borders_74 : decode cX0_borders 74 = .ok (.iload_n 3, 1) := by decide +kernel
theorem dX0_borders_75 : decode cX0_borders 75 = .ok (.ireturn, 1) := by decide +kernel
theorem dX0_borderOf_0 : decode cX0_borderOf 0 = .ok (.iconst 0, 1) := by decide +kernel
theorem dX0_borderOf_1 : decode cX0_borderOf 1 = .ok (.istore_n 1, 1) := by decide +kernel
theorem dX0_borderOf_2 : decode cX0_borderOf 2 = .ok (.iconst 0, 1) := by decide +kernel
theorem dX0_borderOf_3 : decode cX0_borderOf 3 = .ok (.istore_n 2, 1) := by decide +kernel
theorem dX0_borderOf_4 : decode cX0_borderOf 4 = .ok (.iload_n 2, 1) := by decide +kernel
theorem dX0_borderOf_5 : decode cX0_borderOf 5 = .ok (.iconst 4, 1) := by decide +kernel
theorem dX0_borderOf_6 : decode cX0_borderOf 6 = .ok (.if_icmp .ge 30, 3) := by decide +kernel
theorem dX0_borderOf_9 : decode cX0_borderOf 9 = .ok (.iload_n 0, 1) := by decide +kernel
theorem dX0_borderOf_10 : decode cX0_borderOf 10 = .ok (.iload_n 2, 1) := by decide +kernel
theorem dX0_borderOf_11 : decode cX0_borderOf 11 = .ok (.ishr, 1) := by decide +kernel
theorem dX0_borderOf_12 : decode cX0_borderOf 12 = .ok (.iconst 1, 1) := by decide +kernel
theorem dX0_borderOf_13 : decode cX0_borderOf 13 = .ok (.iand, 1) := by decide +kernel
theorem dX0_borderOf_14 : decode cX0_borderOf 14 = .ok (.iconst 1, 1) := by decide +kernel
theorem dX0_borderOf_15 : decode cX0_borderOf 15 = .ok (.if_icmp .ne 15, 3) := by decide +kernel
theorem dX0_borderOf_18 : decode cX0_borderOf 18 = .ok (.iload_n 1, 1) := by decide +kernel
theorem dX0_borderOf_19 : decode cX0_borderOf 19 = .ok (.iconst 1, 1) := by decide +kernel
theorem dX0_borderOf_20 : decode cX0_borderOf 20 = .ok (.iload_n 0, 1) := by decide +kernel
theorem dX0_borderOf_21 : decode cX0_borderOf 21 = .ok (.iconst 1, 1) := by decide +kernel
theorem dX0_borderOf_22 : decode cX0_borderOf 22 = .ok (.iload_n 2, 1) := by decide +kernel
theorem dX0_borderOf_23 : decode cX0_borderOf 23 = .ok (.ishl, 1) := by decide +kernel
theorem dX0_borderOf_24 : decode cX0_borderOf 24 = .ok (.iconst (-1), 1) := by decide +kernel
theorem dX0_borderOf_25 : decode cX0_borderOf 25 = .ok (.ixor, 1) := by decide +kernel
theorem dX0_borderOf_26 : decode cX0_borderOf 26 = .ok (.iand, 1) := by decide +kernel
theorem dX0_borderOf_27 : decode cX0_borderOf 27 = .ok (.ishl, 1) := by decide +kernel
theorem dX0_borderOf_28 : decode cX0_borderOf 28 = .ok (.ixor, 1) := by decide +kernel
theorem dX0_borderOf_29 : decode cX0_borderOf 29 = .ok (.istore_n 1, 1) := by decide +kernel
theorem dX0_borderOf_30 : decode cX0_borderOf 30 = .ok (.iinc 2 1, 3) := by decide +kernel
theorem dX0_borderOf_33 : decode cX0_borderOf 33 = .ok (.goto (-29), 3) := by decide +kernel
theorem dX0_borderOf_36 : decode cX0_borderOf 36 = .ok (.iload_n 1, 1) := by decide +kernel
theorem dX0_borderOf_37 : decode cX0_borderOf 37 = .ok (.ireturn, 1) := by decide +kernel
theorem dX0_reduce_0 : decode cX0_reduce 0 = .ok (.iload_n 1, 1) := by decide +kernel
theorem dX0_reduce_1 : decode cX0_reduce 1 = .ok (.istore_n 3, 1) := by decide +kernel
theorem dX0_reduce_2 : decode cX0_reduce 2 = .ok (.iconst 0, 1) := by decide +kernel
theorem dX0_reduce_3 : decode cX0_reduce 3 = .ok (.istore 4, 2) := by decide +kernel
theorem dX0_reduce_5 : decode cX0_reduce 5 = .ok (.iload 4, 2) := by decide +kernel
theorem dX0_reduce_7 : decode cX0_reduce 7 = .ok (.iload_n 2, 1) := by decide +kernel
theorem dX0_reduce_8 : decode cX0_reduce 8 = .ok (.if_icmp .ge 33, 3) := by decide +kernel
theorem dX0_reduce_11 : decode cX0_reduce 11 = .ok (.iload 4, 2) := by decide +kernel
theorem dX0_reduce_13 : decode cX0_reduce 13 = .ok (.aload_n 0, 1) := by decide +kernel
theorem dX0_reduce_14 : decode cX0_reduce 14 = .ok (.getfield 11, 3) := by decide +kernel
theorem dX0_reduce_17 : decode cX0_reduce 17 = .ok (.arraylength, 1) := by decide +kernel
theorem dX0_reduce_18 : decode cX0_reduce 18 = .ok (.if_icmp .ge 23, 3) := by decide +kernel
theorem dX0_reduce_21 : decode cX0_reduce 21 = .ok (.iload_n 3, 1) := by decide +kernel
theorem dX0_reduce_22 : decode cX0_reduce 22 = .ok (.iload_n 3, 1) := by decide +kernel
theorem dX0_reduce_23 : decode cX0_reduce 23 = .ok (.aload_n 0, 1) := by decide +kernel
theorem dX0_reduce_24 : decode cX0_reduce 24 = .ok (.getfield 11, 3) := by decide +kernel
theorem dX0_reduce_27 : decode cX0_reduce 27 = .ok (.iload 4, 2) := by decide +kernel
theorem dX0_reduce_29 : decode cX0_reduce 29 = .ok (.iaload, 1) := by decide +kernel
theorem dX0_reduce_30 : decode cX0_reduce 30 = .ok (.ixor, 1) := by decide +kernel
theorem dX0_reduce_31 : decode cX0_reduce 31 = .ok (.invokestatic 49, 3) := by decide +kernel
theorem dX0_reduce_34 : decode cX0_reduce 34 = .ok (.istore_n 3, 1) := by decide +kernel
theorem dX0_reduce_35 : decode cX0_reduce 35 = .ok (.iinc 4 1, 3) := by decide +kernel
theorem dX0_reduce_38 : decode cX0_reduce 38 = .ok (.goto (-33), 3) := by decide +kernel
theorem dX0_reduce_41 : decode cX0_reduce 41 = .ok (.iload_n 3, 1) := by decide +kernel
theorem dX0_reduce_42 : decode cX0_reduce 42 = .ok (.ireturn, 1) := by decide +kernel
theorem dX1_init_0 : decode cX1_init 0 = .ok (.aload_n 0, 1) := by decide +kernel
theorem dX1_init_1 : decode cX1_init 1 = .ok (.invokespecial 3, 3) := by decide +kernel
theorem dX1_init_4 : decode cX1_init 4 = .ok (.aload_n 0, 1) := by decide +kernel
theorem dX1_init_5 : decode cX1_init 5 = .ok (.iconst 4, 1) := by decide +kernel
theorem dX1_init_6 : decode cX1_init 6 = .ok (.anewarray 9, 3) := by decide +kernel
theorem dX1_init_9 : decode cX1_init 9 = .ok (.putfield 11, 3) := by decide +kernel
theorem dX1_init_12 : decode cX1_init 12 = .ok (.aload_n 0, 1) := by decide +kernel
theorem dX1_init_13 : decode cX1_init 13 = .ok (.bipush 12, 2) := by decide +kernel
theorem dX1_init_15 : decode cX1_init 15 = .ok (.anewarray 9, 3) := by decide +kernel
theorem dX1_init_18 : decode cX1_init 18 = .ok (.putfield 17, 3) := by decide +kernel
theorem dX1_init_21 : decode cX1_init 21 = .ok (.aload_n 0, 1) := by decide +kernel
theorem dX1_init_22 : decode cX1_init 22 = .ok (.bipush 12, 2) := by decide +kernel
theorem dX1_init_24 : decode cX1_init 24 = .ok (.newarray .int, 2) := by decide +kernel
theorem dX1_init_26 : decode cX1_init 26 = .ok (.putfield 20, 3) := by decide +kernel
theorem dX1_init_29 : decode cX1_init 29 = .ok (.iconst 0, 1) := by decide +kernel
theorem dX1_init_30 : decode cX1_init 30 = .ok (.istore_n 1, 1) := by decide +kernel
theorem dX1_init_31 : decode cX1_init 31 = .ok (.iload_n 1, 1) := by decide +kernel
theorem dX1_init_32 : decode cX1_init 32 = .ok (.aload_n 0, 1) := by decide +kernel
theorem dX1_init_33 : decode cX1_init 33 = .ok (.getfield 11, 3) := by decide +kernel
theorem dX1_init_36 : decode cX1_init 36 = .ok (.arraylength, 1) := by decide +kernel
theorem dX1_init_37 : decode cX1_init 37 = .ok (.if_icmp .ge 22, 3) := by decide +kernel
theorem dX1_init_40 : decode cX1_init 40 = .ok (.aload_n 0, 1) := by decide +kernel
theorem dX1_init_41 : decode cX1_init 41 = .ok (.getfield 11, 3) := by decide +kernel
theorem dX1_init_44 : decode cX1_init 44 = .ok (.iload_n 1, 1) := by decide +kernel
theorem dX1_init_45 : decode cX1_init 45 = .ok (.new 9, 3) := by decide +kernel
theorem dX1_init_48 : decode cX1_init 48 = .ok (.dup, 1) := by decide +kernel
theorem dX1_init_49 : decode cX1_init 49 = .ok (.invokespecial 24, 3) := by decide +kernel
theorem dX1_init_52 : decode cX1_init 52 = .ok (.aastore, 1) := by decide +kernel
theorem dX1_init_53 : decode cX1_init 53 = .ok (.iinc 1 1, 3) := by decide +kernel
theorem dX1_init_56 : decode cX1_init 56 = .ok (.goto (-25), 3) := by decide +kernel
theorem dX1_init_59 : decode cX1_init 59 = .ok (.iconst 0, 1) := by decide +kernel
theorem dX1_init_60 : decode cX1_init 60 = .ok (.istore_n 1, 1) := by decide +kernel
theorem dX1_init_61 : decode cX1_init 61 = .ok (.iload_n 1, 1) := by decide +kernel
theorem dX1_init_62 : decode cX1_init 62 = .ok (.aload_n 0, 1) := by decide +kernel
theorem dX1_init_63 : decode cX1_init 63 = .ok (.getfield 17, 3) := by decide +kernel
theorem dX1_init_66 : decode cX1_init 66 = .ok (.arraylength, 1) := by decide +kernel
theorem dX1_init_67 : decode cX1_init 67 = .ok (.if_icmp .ge 22, 3) := by decide +kernel
theorem dX1_init_70 : decode cX1_init 70 = .ok (.aload_n 0, 1) := by decide +kernel
theorem dX1_init_71 : decode cX1_init 71 = .ok (.getfield 17, 3) := by decide +kernel
theorem dX1_init_74 : decode cX1_init 74 = .ok (.iload_n 1, 1) := by decide +kernel
theorem dX1_init_75 : decode cX1_init 75 = .ok (.new 9, 3) := by decide +kernel
theorem dX1_init_78 : decode cX1_init 78 = .ok (.dup, 1) := by decide +kernel
theorem dX1_init_79 : decode cX1_init 79 = .ok (.invokespecial 24, 3) := by decide +kernel
theorem dX1_init_82 : decode cX1_init 82 = .ok (.aastore, 1) := by decide +kernel
theorem dX1_init_83 : decode cX1_init 83 = .ok (.iinc 1 1, 3) := by decide +kernel
theorem dX1_init_86 : decode cX1_init 86 = .ok (.goto (-25), 3) := by decide +kernel
theorem dX1_init_89 : decode cX1_init 89 = .ok (.return_, 1) := by decide +kernel
theorem dX1_copyFrom_0 : decode cX1_copyFrom 0 = .ok (.iconst 0, 1) := by decide +kernel
theorem dX1_copyFrom_1 : decode cX1_copyFrom 1 = .ok (.istore_n 2, 1) := by decide +kernel
theorem dX1_copyFrom_2 : decode cX1_copyFrom 2 = .ok (.iload_n 2, 1) := by decide +kernel
theorem dX1_copyFrom_3 : decode cX1_copyFrom 3 = .ok (.aload_n 0, 1) := by decide +kernel
theorem dX1_copyFrom_4 : decode cX1_copyFrom 4 = .ok (.getfield 11, 3) := by decide +kernel
theorem dX1_copyFrom_7 : decode cX1_copyFrom 7 = .ok (.arraylength, 1) := by decide +kernel
theorem dX1_copyFrom_8 : decode cX1_copyFrom 8 = .ok (.if_icmp .ge 24, 3) := by decide +kernel
theorem dX1_copyFrom_11 : decode cX1_copyFrom 11 = .ok (.aload_n 0, 1) := by decide +kernel
theorem dX1_copyFrom_12 : decode cX1_copyFrom 12 = .ok (.getfield 11, 3) := by decide +kernel
theorem dX1_copyFrom_15 : decode cX1_copyFrom 15 = .ok (.iload_n 2, 1) := by decide +kernel
theorem dX1_copyFrom_16 : decode cX1_copyFrom 16 = .ok (.aaload, 1) := by decide +kernel
theorem dX1_copyFrom_17 : decode cX1_copyFrom 17 = .ok (.aload_n 1, 1) := by decide +kernel
theorem dX1_copyFrom_18 : decode cX1_copyFrom 18 = .ok (.getfield 11, 3) := by decide +kernel
theorem dX1_copyFrom_21 : decode cX1_copyFrom 21 = .ok (.iload_n 2, 1) := by decide +kernel
theorem dX1_copyFrom_22 : decode cX1_copyFrom 22 = .ok (.aaload, 1) := by decide +kernel
theorem dX1_copyFrom_23 : decode cX1_copyFrom 23 = .ok (.invokevirtual 25, 3) := by decide +kernel
theorem dX1_copyFrom_26 : decode cX1_copyFrom 26 = .ok (.iinc 2 1, 3) := by decide +kernel
theorem dX1_copyFrom_29 : decode cX1_copyFrom 29 = .ok (.goto (-27), 3) := by decide +kernel
theorem dX1_copyFrom_32 : decode cX1_copyFrom 32 = .ok (.iconst 0, 1) := by decide +kernel
theorem dX1_copyFrom_33 : decode cX1_copyFrom 33 = .ok (.istore_n 2, 1) := by decide +kernel
theorem dX1_copyFrom_34 : decode cX1_copyFrom 34 = .ok (.iload_n 2, 1) := by decide +kernel
theorem dX1_copyFrom_35 : decode cX1_copyFrom 35 = .ok (.aload_n 0, 1) := by decide +kernel
theorem dX1_copyFrom_36 : decode cX1_copyFrom 36 = .ok (.getfield 17, 3) := by decide +kernel
theorem dX1_copyFrom_39 : decode cX1_copyFrom 39 = .ok (.arraylength, 1) := by decide +kernel
theorem dX1_copyFrom_40 : decode cX1_copyFrom 40 = .ok (.if_icmp .ge 36, 3) := by decide +kernel
theorem dX1_copyFrom_43 : decode cX1_copyFrom 43 = .ok (.aload_n 0, 1) := by decide +kernel
theorem dX1_copyFrom_44 : decode cX1_copyFrom 44 = .ok (.getfield 17, 3) := by decide +kernel
theorem dX1_copyFrom_47 : decode cX1_copyFrom 47 = .ok (.iload_n 2, 1) := by decide +kernel
theorem dX1_copyFrom_48 : decode cX1_copyFrom 48 = .ok (.aaload, 1) := by decide +kernel
theorem dX1_copyFrom_49 : decode cX1_copyFrom 49 = .ok (.aload_n 1, 1) := by decide +kernel
theorem dX1_copyFrom_50 : decode cX1_copyFrom 50 = .ok (.getfield 17, 3) := by decide +kernel
theorem dX1_copyFrom_53 : decode cX1_copyFrom 53 = .ok (.iload_n 2, 1) := by decide +kernel
theorem dX1_copyFrom_54 : decode cX1_copyFrom 54 = .ok (.aaload, 1) := by decide +kernel
theorem dX1_copyFrom_55 : decode cX1_copyFrom 55 = .ok (.invokevirtual 25, 3) := by decide +kernel
theorem dX1_copyFrom_58 : decode cX1_copyFrom 58 = .ok (.aload_n 0, 1) := by decide +kernel
theorem dX1_copyFrom_59 : decode cX1_copyFrom 59 = .ok (.getfield 20, 3) := by decide +kernel
theorem dX1_copyFrom_62 : decode cX1_copyFrom 62 = .ok (.iload_n 2, 1) := by decide +kernel
theorem dX1_copyFrom_63 : decode cX1_copyFrom 63 = .ok (.aload_n 1, 1) := by decide +kernel
theorem dX1_copyFrom_64 : decode cX1_copyFrom 64 = .ok (.getfield 20, 3) := by decide +kernel
theorem dX1_copyFrom_67 : decode cX1_copyFrom 67 = .ok (.iload_n 2, 1) := by decide +kernel
theorem dX1_copyFrom_68 : decode cX1_copyFrom 68 = .ok (.iaload, 1) := by decide +kernel
theorem dX1_copyFrom_69 : decode cX1_copyFrom 69 = .ok (.iastore, 1) := by decide +kernel
theorem dX1_copyFrom_70 : decode cX1_copyFrom 70 = .ok (.iinc 2 1, 3) := by decide +kernel
theorem dX1_copyFrom_73 : decode cX1_copyFrom 73 = .ok (.goto (-39), 3) := by decide +kernel
theorem dX1_copyFrom_76 : decode cX1_copyFrom 76 = .ok (.return_, 1) := by decide +kernel
theorem dX10_init_0 : decode cX10_init 0 = .ok (.aload_n 0, 1) := by decide +kernel
theorem dX10_init_1 : decode cX10_init 1 = .ok (.invokespecial 1, 3) := by decide +kernel
theorem dX10_init_4 : decode cX10_init 4 = .ok (.aload_n 0, 1) := by decide +kernel
theorem dX10_init_5 : decode cX10_init 5 = .ok (.new 7, 3) := by decide +kernel
theorem dX10_init_8 : decode cX10_init 8 = .ok (.dup, 1) := by decide +kernel
theorem dX10_init_9 : decode cX10_init 9 = .ok (.invokespecial 9, 3) := by decide +kernel
theorem dX10_init_12 : decode cX10_init 12 = .ok (.putfield 10, 3) := by decide +kernel
theorem dX10_init_15 : decode cX10_init 15 = .ok (.aload_n 0, 1) := by decide +kernel
theorem dX10_init_16 : decode cX10_init 16 = .ok (.new 16, 3) := by decide +kernel
theorem dX10_init_19 : decode cX10_init 19 = .ok (.dup, 1) := by decide +kernel
theorem dX10_init_20 : decode cX10_init 20 = .ok (.invokespecial 18, 3) := by decide +kernel
theorem dX10_init_23 : decode cX10_init 23 = .ok (.putfield 19, 3) := by decide +kernel
theorem dX10_init_26 : decode cX10_init 26 = .ok (.aload_n 0, 1) := by decide +kernel
theorem dX10_init_27 : decode cX10_init 27 = .ok (.iconst 2, 1) := by decide +kernel
theorem dX10_init_28 : decode cX10_init 28 = .ok (.anewarray 16, 3) := by decide +kernel
theorem dX10_init_31 : decode cX10_init 31 = .ok (.putfield 23, 3) := by decide +kernel
theorem dX10_init_34 : decode cX10_init 34 = .ok (.aload_n 0, 1) := by decide +kernel
theorem dX10_init_35 : decode cX10_init 35 = .ok (.new 27, 3) := by decide +kernel
theorem dX10_init_38 : decode cX10_init 38 = .ok (.dup, 1) := by decide +kernel
theorem dX10_init_39 : decode cX10_init 39 = .ok (.invokespecial 29, 3) := by decide +kernel
theorem dX10_init_42 : decode cX10_init 42 = .ok (.putfield 30, 3) := by decide +kernel
theorem dX10_init_45 : decode cX10_init 45 = .ok (.aload_n 0, 1) := by decide +kernel
theorem dX10_init_46 : decode cX10_init 46 = .ok (.new 34, 3) := by decide +kernel
theorem dX10_init_49 : decode cX10_init 49 = .ok (.dup, 1) := by decide +kernel
theorem dX10_init_50 : decode cX10_init 50 = .ok (.invokespecial 36, 3) := by decide +kernel
theorem dX10_init_53 : decode cX10_init 53 = .ok (.putfield 37, 3) := by decide +kernel
theorem dX10_init_56 : decode cX10_init 56 = .ok (.return_, 1) := by decide +kernel
theorem dX10_say_0 : decode cX10_say 0 = .ok (.iload_n 1, 1) := by decide +kernel
theorem dX10_say_1 : decode cX10_say 1 = .ok (.bipush 33, 2) := by decide +kernel
theorem dX10_say_3 : decode cX10_say 3 = .ok (.if_icmp .lt 9, 3) := by decide +kernel
theorem dX10_say_6 : decode cX10_say 6 = .ok (.iload_n 1, 1) := by decide +kernel
theorem dX10_say_7 : decode cX10_say 7 = .ok (.bipush 126, 2) := by decide +kernel
theorem dX10_say_9 : decode cX10_say 9 = .ok (.if_icmp .le 6, 3) := by decide +kernel
theorem dX10_say_12 : decode cX10_say 12 = .ok (.bipush (-2), 2) := by decide +kernel
theorem dX10_say_14 : decode cX10_say 14 = .ok (.ireturn, 1) := by decide +kernel
theorem dX10_say_15 : decode cX10_say 15 = .ok (.aload_n 0, 1) := by decide +kernel
theorem dX10_say_16 : decode cX10_say 16 = .ok (.getfield 10, 3) := by decide +kernel
theorem dX10_say_19 : decode cX10_say 19 = .ok (.iload_n 1, 1) := by decide +kernel
theorem dX10_say_20 : decode cX10_say 20 = .ok (.invokevirtual 41, 3) := by decide +kernel
theorem dX10_say_23 : decode cX10_say 23 = .ok (.ifCond .eq 13, 3) := by decide +kernel
theorem dX10_say_26 : decode cX10_say 26 = .ok (.aload_n 0, 1) := by decide +kernel
theorem dX10_say_27 : decode cX10_say 27 = .ok (.getfield 10, 3) := by decide +kernel
theorem dX10_say_30 : decode cX10_say 30 = .ok (.getfield 45, 3) := by decide +kernel
theorem dX10_say_33 : decode cX10_say 33 = .ok (.goto 5, 3) := by decide +kernel
theorem dX10_say_36 : decode cX10_say 36 = .ok (.bipush (-4), 2) := by decide +kernel
theorem dX10_say_38 : decode cX10_say 38 = .ok (.ireturn, 1) := by decide +kernel
theorem dX10_wipe_0 : decode cX10_wipe 0 = .ok (.aload_n 0, 1) := by decide +kernel
theorem dX10_wipe_1 : decode cX10_wipe 1 = .ok (.getfield 10, 3) := by decide +kernel
theorem dX10_wipe_4 : decode cX10_wipe 4 = .ok (.getfield 45, 3) := by decide +kernel
theorem dX10_wipe_7 : decode cX10_wipe 7 = .ok (.istore_n 1, 1) := by decide +kernel
theorem dX10_wipe_8 : decode cX10_wipe 8 = .ok (.aload_n 0, 1) := by decide +kernel
theorem dX10_wipe_9 : decode cX10_wipe 9 = .ok (.getfield 10, 3) := by decide +kernel
theorem dX10_wipe_12 : decode cX10_wipe 12 = .ok (.iconst 0, 1) := by decide +kernel
theorem dX10_wipe_13 : decode cX10_wipe 13 = .ok (.putfield 45, 3) := by decide +kernel
theorem dX10_wipe_16 : decode cX10_wipe 16 = .ok (.iload_n 1, 1) := by decide +kernel
theorem dX10_wipe_17 : decode cX10_wipe 17 = .ok (.ireturn, 1) := by decide +kernel
theorem dX10_fault_0 : decode cX10_fault 0 = .ok (.aload_n 0, 1) := by decide +kernel
theorem dX10_fault_1 : decode cX10_fault 1 = .ok (.getfield 10, 3) := by decide +kernel
theorem dX10_fault_4 : decode cX10_fault 4 = .ok (.invokevirtual 49, 3) := by decide +kernel
theorem dX10_fault_7 : decode cX10_fault 7 = .ok (.ireturn, 1) := by decide +kernel
theorem dX10_load_0 : decode cX10_load 0 = .ok (.iload_n 1, 1) := by decide +kernel
theorem dX10_load_1 : decode cX10_load 1 = .ok (.invokestatic 53, 3) := by decide +kernel
theorem dX10_load_4 : decode cX10_load 4 = .ok (.ifCond .ne 5, 3) := by decide +kernel
theorem dX10_load_7 : decode cX10_load 7 = .ok (.iconst (-1), 1) := by decide +kernel
theorem dX10_load_8 : decode cX10_load 8 = .ok (.ireturn, 1) := by decide +kernel
theorem dX10_load_9 : decode cX10_load 9 = .ok (.aload_n 0, 1) := by decide +kernel
theorem dX10_load_10 : decode cX10_load 10 = .ok (.getfield 10, 3) := by decide +kernel
theorem dX10_load_13 : decode cX10_load 13 = .ok (.invokevirtual 49, 3) := by decide +kernel
theorem dX10_load_16 : decode cX10_load 16 = .ok (.bipush (-6), 2) := by decide +kernel
theorem dX10_load_18 : decode cX10_load 18 = .ok (.if_icmp .eq 6, 3) := by decide +kernel
theorem dX10_load_21 : decode cX10_load 21 = .ok (.bipush (-5), 2) := by decide +kernel
theorem dX10_load_23 : decode cX10_load 23 = .ok (.ireturn, 1) := by decide +kernel
theorem dX10_load_24 : decode cX10_load 24 = .ok (.aload_n 0, 1) := by decide +kernel
theorem dX10_load_25 : decode cX10_load 25 = .ok (.getfield 30, 3) := by decide +kernel
theorem dX10_load_28 : decode cX10_load 28 = .ok (.aload_n 0, 1) := by decide +kernel
theorem dX10_load_29 : decode cX10_load 29 = .ok (.getfield 10, 3) := by decide +kernel
theorem dX10_load_32 : decode cX10_load 32 = .ok (.invokevirtual 56, 3) := by decide +kernel
theorem dX10_load_35 : decode cX10_load 35 = .ok (.aload_n 0, 1) := by decide +kernel
theorem dX10_load_36 : decode cX10_load 36 = .ok (.getfield 10, 3) := by decide +kernel
theorem dX10_load_39 : decode cX10_load 39 = .ok (.iconst 0, 1) := by decide +kernel
theorem dX10_load_40 : decode cX10_load 40 = .ok (.putfield 45, 3) := by decide +kernel
theorem dX10_load_43 : decode cX10_load 43 = .ok (.aload_n 0, 1) := by decide +kernel
theorem dX10_load_44 : decode cX10_load 44 = .ok (.getfield 30, 3) := by decide +kernel
theorem dX10_load_47 : decode cX10_load 47 = .ok (.aload_n 0, 1) := by decide +kernel
theorem dX10_load_48 : decode cX10_load 48 = .ok (.getfield 19, 3) := by decide +kernel
theorem dX10_load_51 : decode cX10_load 51 = .ok (.getfield 60, 3) := by decide +kernel
theorem dX10_load_54 : decode cX10_load 54 = .ok (.iload_n 1, 1) := by decide +kernel
theorem dX10_load_55 : decode cX10_load 55 = .ok (.aaload, 1) := by decide +kernel
theorem dX10_load_56 : decode cX10_load 56 = .ok (.invokevirtual 64, 3) := by decide +kernel
theorem dX10_load_59 : decode cX10_load 59 = .ok (.ireturn, 1) := by decide +kernel
theorem dX10_generator_0 : decode cX10_generator 0 = .ok (.iload_n 1, 1) := by decide +kernel
theorem dX10_generator_1 : decode cX10_generator 1 = .ok (.invokestatic 53, 3) := by decide +kernel
theorem dX10_generator_4 : decode cX10_generator 4 = .ok (.ifCond .ne 5, 3) := by decide +kernel
theorem dX10_generator_7 : decode cX10_generator 7 = .ok (.iconst (-1), 1) := by decide +kernel
theorem dX10_generator_8 : decode cX10_generator 8 = .ok (.ireturn, 1) := by decide +kernel
theorem dX10_generator_9 : decode cX10_generator 9 = .ok (.aload_n 0, 1) := by decide +kernel
theorem dX10_generator_10 : decode cX10_generator 10 = .ok (.getfield 19, 3) := by decide +kernel
theorem dX10_generator_13 : decode cX10_generator 13 = .ok (.getfield 60, 3) := by decide +kernel
theorem dX10_generator_16 : decode cX10_generator 16 = .ok (.iload_n 1, 1) := by decide +kernel
theorem dX10_generator_17 : decode cX10_generator 17 = .ok (.aaload, 1) := by decide +kernel
theorem dX10_generator_18 : decode cX10_generator 18 = .ok (.astore_n 3, 1) := by decide +kernel
theorem dX10_generator_19 : decode cX10_generator 19 = .ok (.iload_n 2, 1) := by decide +kernel
theorem dX10_generator_20 : decode cX10_generator 20 = .ok (.iconst (-1), 1) := by decide +kernel
theorem dX10_generator_21 : decode cX10_generator 21 = .ok (.if_icmp .ne 8, 3) := by decide +kernel
theorem dX10_generator_24 : decode cX10_generator 24 = .ok (.aload_n 3, 1) := by decide +kernel
theorem dX10_generator_25 : decode cX10_generator 25 = .ok (.getfield 68, 3) := by decide +kernel
theorem dX10_generator_28 : decode cX10_generator 28 = .ok (.ireturn, 1) := by decide +kernel
theorem dX10_generator_29 : decode cX10_generator 29 = .ok (.iload_n 2, 1) := by decide +kernel
theorem dX10_generator_30 : decode cX10_generator 30 = .ok (.ifCond .lt 23, 3) := by decide +kernel
theorem dX10_generator_33 : decode cX10_generator 33 = .ok (.iload_n 2, 1) := by decide +kernel
theorem dX10_generator_34 : decode cX10_generator 34 = .ok (.aload_n 3, 1) := by decide +kernel
theorem dX10_generator_35 : decode cX10_generator 35 = .ok (.getfield 68, 3) := by decide +kernel
theorem dX10_generator_38 : decode cX10_generator 38 = .ok (.if_icmp .ge 15, 3) := by decide +kernel
theorem dX10_generator_41 : decode cX10_generator 41 = .ok (.aload_n 3, 1) := by decide +kernel
theorem dX10_generator_42 : decode cX10_generator 42 = .ok (.getfield 71, 3) := by decide +kernel
theorem dX10_generator_45 : decode cX10_generator 45 = .ok (.iload_n 2, 1) := by decide +kernel
theorem dX10_generator_46 : decode cX10_generator 46 = .ok (.iaload, 1) := by decide +kernel
theorem dX10_generator_47 : decode cX10_generator 47 = .ok (.invokestatic 75, 3) := by decide +kernel
theorem dX10_generator_50 : decode cX10_generator 50 = .ok (.goto 5, 3) := by decide +kernel
theorem dX10_generator_53 : decode cX10_generator 53 = .ok (.bipush (-6), 2) := by decide +kernel
theorem dX10_generator_55 : decode cX10_generator 55 = .ok (.ireturn, 1) := by decide +kernel
theorem dX10_has_0 : decode cX10_has 0 = .ok (.iload_n 1, 1) := by decide +kernel
theorem dX10_has_1 : decode cX10_has 1 = .ok (.invokestatic 53, 3) := by decide +kernel
theorem dX10_has_4 : decode cX10_has 4 = .ok (.ifCond .ne 5, 3) := by decide +kernel
theorem dX10_has_7 : decode cX10_has 7 = .ok (.iconst (-1), 1) := by decide +kernel
theorem dX10_has_8 : decode cX10_has 8 = .ok (.ireturn, 1) := by decide +kernel
theorem dX10_has_9 : decode cX10_has 9 = .ok (.iload_n 2, 1) := by decide +kernel
theorem dX10_has_10 : decode cX10_has 10 = .ok (.invokestatic 81, 3) := by decide +kernel
theorem dX10_has_13 : decode cX10_has 13 = .ok (.ifCond .ne 6, 3) := by decide +kernel
theorem dX10_has_16 : decode cX10_has 16 = .ok (.bipush (-2), 2) := by decide +kernel
theorem dX10_has_18 : decode cX10_has 18 = .ok (.ireturn, 1) := by decide +kernel
theorem dX10_has_19 : decode cX10_has 19 = .ok (.aload_n 0, 1) := by decide +kernel
theorem dX10_has_20 : decode cX10_has 20 = .ok (.getfield 19, 3) := by decide +kernel
theorem dX10_has_23 : decode cX10_has 23 = .ok (.getfield 60, 3) := by decide +kernel
theorem dX10_has_26 : decode cX10_has 26 = .ok (.iload_n 1, 1) := by decide +kernel
theorem dX10_has_27 : decode cX10_has 27 = .ok (.aaload, 1) := by decide +kernel
theorem dX10_has_28 : decode cX10_has 28 = .ok (.iload_n 2, 1) := by decide +kernel
theorem dX10_has_29 : decode cX10_has 29 = .ok (.invokestatic 84, 3) := by decide +kernel
theorem dX10_has_32 : decode cX10_has 32 = .ok (.invokevirtual 87, 3) := by decide +kernel
theorem dX10_has_35 : decode cX10_has 35 = .ok (.ifCond .eq 7, 3) := by decide +kernel
theorem dX10_has_38 : decode cX10_has 38 = .ok (.iconst 1, 1) := by decide +kernel
theorem dX10_has_39 : decode cX10_has 39 = .ok (.goto 4, 3) := by decide +kernel
theorem dX10_has_42 : decode cX10_has 42 = .ok (.iconst 0, 1) := by decide +kernel
theorem dX10_has_43 : decode cX10_has 43 = .ok (.ireturn, 1) := by decide +kernel
theorem dX10_make_0 : decode cX10_make 0 = .ok (.iload_n 2, 1) := by decide +kernel
theorem dX10_make_1 : decode cX10_make 1 = .ok (.invokestatic 53, 3) := by decide +kernel
theorem dX10_make_4 : decode cX10_make 4 = .ok (.ifCond .eq 18, 3) := by decide +kernel
theorem dX10_make_7 : decode cX10_make 7 = .ok (.iload_n 3, 1) := by decide +kernel
theorem dX10_make_8 : decode cX10_make 8 = .ok (.invokestatic 53, 3) := by decide +kernel
theorem dX10_make_11 : decode cX10_make 11 = .ok (.ifCond .eq 11, 3) := by decide +kernel
theorem dX10_make_14 : decode cX10_make 14 = .ok (.iload 4, 2) := by decide +kernel
theorem dX10_make_16 : decode cX10_make 16 = .ok (.invokestatic 53, 3) := by decide +kernel
theorem dX10_make_19 : decode cX10_make 19 = .ok (.ifCond .ne 5, 3) := by decide +kernel
theorem dX10_make_22 : decode cX10_make 22 = .ok (.iconst (-1), 1) := by decide +kernel
theorem dX10_make_23 : decode cX10_make 23 = .ok (.ireturn, 1) := by decide +kernel
theorem dX10_make_24 : decode cX10_make 24 = .ok (.iload_n 1, 1) := by decide +kernel
theorem dX10_make_25 : decode cX10_make 25 = .ok (.ifCond .lt 8, 3) := by decide +kernel
theorem dX10_make_28 : decode cX10_make 28 = .ok (.iload_n 1, 1) := by decide +kernel
theorem dX10_make_29 : decode cX10_make 29 = .ok (.iconst 4, 1) := by decide +kernel
theorem dX10_make_30 : decode cX10_make 30 = .ok (.if_icmp .le 6, 3) := by decide +kernel
theorem dX10_make_33 : decode cX10_make 33 = .ok (.bipush (-2), 2) := by decide +kernel
theorem dX10_make_35 : decode cX10_make 35 = .ok (.ireturn, 1) := by decide +kernel
theorem dX10_make_36 : decode cX10_make 36 = .ok (.aload_n 0, 1) := by decide +kernel
theorem dX10_make_37 : decode cX10_make 37 = .ok (.getfield 30, 3) := by decide +kernel
theorem dX10_make_40 : decode cX10_make 40 = .ok (.iload_n 1, 1) := by decide +kernel
theorem dX10_make_41 : decode cX10_make 41 = .ok (.aload_n 0, 1) := by decide +kernel
theorem dX10_make_42 : decode cX10_make 42 = .ok (.getfield 19, 3) := by decide +kernel
theorem dX10_make_45 : decode cX10_make 45 = .ok (.getfield 60, 3) := by decide +kernel
theorem dX10_make_48 : decode cX10_make 48 = .ok (.iload_n 2, 1) := by decide +kernel
theorem dX10_make_49 : decode cX10_make 49 = .ok (.aaload, 1) := by decide +kernel
theorem dX10_make_50 : decode cX10_make 50 = .ok (.aload_n 0, 1) := by decide +kernel
theorem dX10_make_51 : decode cX10_make 51 = .ok (.getfield 19, 3) := by decide +kernel
theorem dX10_make_54 : decode cX10_make 54 = .ok (.getfield 60, 3) := by decide +kernel
theorem dX10_make_57 : decode cX10_make 57 = .ok (.iload_n 3, 1) := by decide +kernel
theorem dX10_make_58 : decode cX10_make 58 = .ok (.aaload, 1) := by decide +kernel
theorem dX10_make_59 : decode cX10_make 59 = .ok (.invokevirtual 90, 3) := by decide +kernel
theorem dX10_make_62 : decode cX10_make 62 = .ok (.ifCond .ne 6, 3) := by decide +kernel
theorem dX10_make_65 : decode cX10_make 65 = .ok (.bipush (-3), 2) := by decide +kernel
theorem dX10_make_67 : decode cX10_make 67 = .ok (.ireturn, 1) := by decide +kernel
theorem dX10_make_68 : decode cX10_make 68 = .ok (.aload_n 0, 1) := by decide +kernel
theorem dX10_make_69 : decode cX10_make 69 = .ok (.getfield 30, 3) := by decide +kernel
theorem dX10_make_72 : decode cX10_make 72 = .ok (.aload_n 0, 1) := by decide +kernel
theorem dX10_make_73 : decode cX10_make 73 = .ok (.getfield 19, 3) := by decide +kernel
theorem dX10_make_76 : decode cX10_make 76 = .ok (.getfield 60, 3) := by decide +kernel
theorem dX10_make_79 : decode cX10_make 79 = .ok (.iload 4, 2) := by decide +kernel
theorem dX10_make_81 : decode cX10_make 81 = .ok (.aaload, 1) := by decide +kernel
theorem dX10_make_82 : decode cX10_make 82 = .ok (.invokevirtual 64, 3) := by decide +kernel
theorem dX10_make_85 : decode cX10_make 85 = .ok (.ireturn, 1) := by decide +kernel
theorem dX10_compare_0 : decode cX10_compare 0 = .ok (.iload_n 1, 1) := by decide +kernel
theorem dX10_compare_1 : decode cX10_compare 1 = .ok (.invokestatic 53, 3) := by decide +kernel
theorem dX10_compare_4 : decode cX10_compare 4 = .ok (.ifCond .eq 10, 3) := by decide +kernel
theorem dX10_compare_7 : decode cX10_compare 7 = .ok (.iload_n 2, 1) := by decide +kernel
theorem dX10_compare_8 : decode cX10_compare 8 = .ok (.invokestatic 53, 3) := by decide +kernel
theorem dX10_compare_11 : decode cX10_compare 11 = .ok (.ifCond .ne 5, 3) := by decide +kernel
theorem dX10_compare_14 : decode cX10_compare 14 = .ok (.iconst (-1), 1) := by decide +kernel
theorem dX10_compare_15 : decode cX10_compare 15 = .ok (.ireturn, 1) := by decide +kernel
theorem dX10_compare_16 : decode cX10_compare 16 = .ok (.aload_n 0, 1) := by decide +kernel
theorem dX10_compare_17 : decode cX10_compare 17 = .ok (.getfield 19, 3) := by decide +kernel
theorem dX10_compare_20 : decode cX10_compare 20 = .ok (.getfield 60, 3) := by decide +kernel
theorem dX10_compare_23 : decode cX10_compare 23 = .ok (.iload_n 1, 1) := by decide +kernel
theorem dX10_compare_24 : decode cX10_compare 24 = .ok (.aaload, 1) := by decide +kernel
theorem dX10_compare_25 : decode cX10_compare 25 = .ok (.aload_n 0, 1) := by decide +kernel
theorem dX10_compare_26 : decode cX10_compare 26 = .ok (.getfield 19, 3) := by decide +kernel
theorem dX10_compare_29 : decode cX10_compare 29 = .ok (.getfield 60, 3) := by decide +kernel
theorem dX10_compare_32 : decode cX10_compare 32 = .ok (.iload_n 2, 1) := by decide +kernel
theorem dX10_compare_33 : decode cX10_compare 33 = .ok (.aaload, 1) := by decide +kernel
theorem dX10_compare_34 : decode cX10_compare 34 = .ok (.invokevirtual 94, 3) := by decide +kernel
theorem dX10_compare_37 : decode cX10_compare 37 = .ok (.istore_n 3, 1) := by decide +kernel
theorem dX10_compare_38 : decode cX10_compare 38 = .ok (.aload_n 0, 1) := by decide +kernel
theorem dX10_compare_39 : decode cX10_compare 39 = .ok (.getfield 19, 3) := by decide +kernel
theorem dX10_compare_42 : decode cX10_compare 42 = .ok (.getfield 60, 3) := by decide +kernel
theorem dX10_compare_45 : decode cX10_compare 45 = .ok (.iload_n 2, 1) := by decide +kernel
theorem dX10_compare_46 : decode cX10_compare 46 = .ok (.aaload, 1) := by decide +kernel
theorem dX10_compare_47 : decode cX10_compare 47 = .ok (.aload_n 0, 1) := by decide +kernel
theorem dX10_compare_48 : decode cX10_compare 48 = .ok (.getfield 19, 3) := by decide +kernel
theorem dX10_compare_51 : decode cX10_compare 51 = .ok (.getfield 60, 3) := by decide +kernel
theorem dX10_compare_54 : decode cX10_compare 54 = .ok (.iload_n 1, 1) := by decide +kernel
theorem dX10_compare_55 : decode cX10_compare 55 = .ok (.aaload, 1) := by decide +kernel
theorem dX10_compare_56 : decode cX10_compare 56 = .ok (.invokevirtual 94, 3) := by decide +kernel
theorem dX10_compare_59 : decode cX10_compare 59 = .ok (.istore 4, 2) := by decide +kernel
theorem dX10_compare_61 : decode cX10_compare 61 = .ok (.iload_n 3, 1) := by decide +kernel
theorem dX10_compare_62 : decode cX10_compare 62 = .ok (.ifCond .eq 14, 3) := by decide +kernel
theorem dX10_compare_65 : decode cX10_compare 65 = .ok (.iload 4, 2) := by decide +kernel
theorem dX10_compare_67 : decode cX10_compare 67 = .ok (.ifCond .eq 7, 3) := by decide +kernel
theorem dX10_compare_70 : decode cX10_compare 70 = .ok (.iconst 0, 1) := by decide +kernel
theorem dX10_compare_71 : decode cX10_compare 71 = .ok (.goto 4, 3) := by decide +kernel
theorem dX10_compare_74 : decode cX10_compare 74 = .ok (.iconst 1, 1) := by decide +kernel
theorem dX10_compare_75 : decode cX10_compare 75 = .ok (.ireturn, 1) := by decide +kernel
theorem dX10_compare_76 : decode cX10_compare 76 = .ok (.iload 4, 2) := by decide +kernel
theorem dX10_compare_78 : decode cX10_compare 78 = .ok (.ifCond .eq 7, 3) := by decide +kernel
theorem dX10_compare_81 : decode cX10_compare 81 = .ok (.iconst 2, 1) := by decide +kernel
theorem dX10_compare_82 : decode cX10_compare 82 = .ok (.goto 4, 3) := by decide +kernel
theorem dX10_compare_85 : decode cX10_compare 85 = .ok (.iconst 3, 1) := by decide +kernel
theorem dX10_compare_86 : decode cX10_compare 86 = .ok (.ireturn, 1) := by decide +kernel
theorem dX10_part_0 : decode cX10_part 0 = .ok (.iload_n 1, 1) := by decide +kernel
theorem dX10_part_1 : decode cX10_part 1 = .ok (.invokestatic 53, 3) := by decide +kernel
theorem dX10_part_4 : decode cX10_part 4 = .ok (.ifCond .ne 5, 3) := by decide +kernel
theorem dX10_part_7 : decode cX10_part 7 = .ok (.iconst (-1), 1) := by decide +kernel
theorem dX10_part_8 : decode cX10_part 8 = .ok (.ireturn, 1) := by decide +kernel
theorem dX10_part_9 : decode cX10_part 9 = .ok (.aload_n 0, 1) := by decide +kernel
theorem dX10_part_10 : decode cX10_part 10 = .ok (.getfield 37, 3) := by decide +kernel
theorem dX10_part_13 : decode cX10_part 13 = .ok (.aload_n 0, 1) := by decide +kernel
theorem dX10_part_14 : decode cX10_part 14 = .ok (.getfield 19, 3) := by decide +kernel
theorem dX10_part_17 : decode cX10_part 17 = .ok (.getfield 60, 3) := by decide +kernel
theorem dX10_part_20 : decode cX10_part 20 = .ok (.iload_n 1, 1) := by decide +kernel
theorem dX10_part_21 : decode cX10_part 21 = .ok (.aaload, 1) := by decide +kernel
theorem dX10_part_22 : decode cX10_part 22 = .ok (.invokevirtual 98, 3) := by decide +kernel
theorem dX10_part_25 : decode cX10_part 25 = .ok (.iload_n 2, 1) := by decide +kernel
theorem dX10_part_26 : decode cX10_part 26 = .ok (.iconst (-1), 1) := by decide +kernel
theorem dX10_part_27 : decode cX10_part 27 = .ok (.if_icmp .ne 13, 3) := by decide +kernel
theorem dX10_part_30 : decode cX10_part 30 = .ok (.aload_n 0, 1) := by decide +kernel
theorem dX10_part_31 : decode cX10_part 31 = .ok (.getfield 37, 3) := by decide +kernel
theorem dX10_part_34 : decode cX10_part 34 = .ok (.invokevirtual 102, 3) := by decide +kernel
theorem dX10_part_37 : decode cX10_part 37 = .ok (.goto 11, 3) := by decide +kernel
theorem dX10_part_40 : decode cX10_part 40 = .ok (.aload_n 0, 1) := by decide +kernel
theorem dX10_part_41 : decode cX10_part 41 = .ok (.getfield 37, 3) := by decide +kernel
theorem dX10_part_44 : decode cX10_part 44 = .ok (.iload_n 2, 1) := by decide +kernel
theorem dX10_part_45 : decode cX10_part 45 = .ok (.invokevirtual 105, 3) := by decide +kernel
theorem dX10_part_48 : decode cX10_part 48 = .ok (.ireturn, 1) := by decide +kernel
theorem dX10_prime_0 : decode cX10_prime 0 = .ok (.iload_n 1, 1) := by decide +kernel
theorem dX10_prime_1 : decode cX10_prime 1 = .ok (.invokestatic 53, 3) := by decide +kernel
theorem dX10_prime_4 : decode cX10_prime 4 = .ok (.ifCond .ne 5, 3) := by decide +kernel
theorem dX10_prime_7 : decode cX10_prime 7 = .ok (.iconst (-1), 1) := by decide +kernel
theorem dX10_prime_8 : decode cX10_prime 8 = .ok (.ireturn, 1) := by decide +kernel
theorem dX10_prime_9 : decode cX10_prime 9 = .ok (.aload_n 0, 1) := by decide +kernel
theorem dX10_prime_10 : decode cX10_prime 10 = .ok (.getfield 37, 3) := by decide +kernel
theorem dX10_prime_13 : decode cX10_prime 13 = .ok (.aload_n 0, 1) := by decide +kernel
theorem dX10_prime_14 : decode cX10_prime 14 = .ok (.getfield 19, 3) := by decide +kernel
theorem dX10_prime_17 : decode cX10_prime 17 = .ok (.getfield 60, 3) := by decide +kernel
theorem dX10_prime_20 : decode cX10_prime 20 = .ok (.iload_n 1, 1) := by decide +kernel
theorem dX10_prime_21 : decode cX10_prime 21 = .ok (.aaload, 1) := by decide +kernel
theorem dX10_prime_22 : decode cX10_prime 22 = .ok (.invokevirtual 98, 3) := by decide +kernel
theorem dX10_prime_25 : decode cX10_prime 25 = .ok (.aload_n 0, 1) := by decide +kernel
theorem dX10_prime_26 : decode cX10_prime 26 = .ok (.getfield 37, 3) := by decide +kernel
theorem dX10_prime_29 : decode cX10_prime 29 = .ok (.getfield 108, 3) := by decide +kernel
theorem dX10_prime_32 : decode cX10_prime 32 = .ok (.invokevirtual 112, 3) := by decide +kernel
theorem dX10_prime_35 : decode cX10_prime 35 = .ok (.istore_n 3, 1) := by decide +kernel
theorem dX10_prime_36 : decode cX10_prime 36 = .ok (.iload_n 2, 1) := by decide +kernel
theorem dX10_prime_37 : decode cX10_prime 37 = .ok (.iconst (-1), 1) := by decide +kernel
theorem dX10_prime_38 : decode cX10_prime 38 = .ok (.if_icmp .ne 10, 3) := by decide +kernel
theorem dX10_prime_41 : decode cX10_prime 41 = .ok (.iload_n 3, 1) := by decide +kernel
theorem dX10_prime_42 : decode cX10_prime 42 = .ok (.invokestatic 117, 3) := by decide +kernel
theorem dX10_prime_45 : decode cX10_prime 45 = .ok (.goto 8, 3) := by decide +kernel
theorem dX10_prime_48 : decode cX10_prime 48 = .ok (.iload_n 3, 1) := by decide +kernel
theorem dX10_prime_49 : decode cX10_prime 49 = .ok (.iload_n 2, 1) := by decide +kernel
theorem dX10_prime_50 : decode cX10_prime 50 = .ok (.invokestatic 122, 3) := by decide +kernel
theorem dX10_prime_53 : decode cX10_prime 53 = .ok (.ireturn, 1) := by decide +kernel
theorem dX10_primary_0 : decode cX10_primary 0 = .ok (.iload_n 1, 1) := by decide +kernel
theorem dX10_primary_1 : decode cX10_primary 1 = .ok (.invokestatic 53, 3) := by decide +kernel
theorem dX10_primary_4 : decode cX10_primary 4 = .ok (.ifCond .eq 10, 3) := by decide +kernel
theorem dX10_primary_7 : decode cX10_primary 7 = .ok (.iload_n 3, 1) := by decide +kernel
theorem dX10_primary_8 : decode cX10_primary 8 = .ok (.invokestatic 53, 3) := by decide +kernel
theorem dX10_primary_11 : decode cX10_primary 11 = .ok (.ifCond .ne 5, 3) := by decide +kernel
theorem dX10_primary_14 : decode cX10_primary 14 = .ok (.iconst (-1), 1) := by decide +kernel
theorem dX10_primary_15 : decode cX10_primary 15 = .ok (.ireturn, 1) := by decide +kernel
theorem dX10_primary_16 : decode cX10_primary 16 = .ok (.aload_n 0, 1) := by decide +kernel
theorem dX10_primary_17 : decode cX10_primary 17 = .ok (.getfield 37, 3) := by decide +kernel
theorem dX10_primary_20 : decode cX10_primary 20 = .ok (.aload_n 0, 1) := by decide +kernel
theorem dX10_primary_21 : decode cX10_primary 21 = .ok (.getfield 19, 3) := by decide +kernel
theorem dX10_primary_24 : decode cX10_primary 24 = .ok (.getfield 60, 3) := by decide +kernel
theorem dX10_primary_27 : decode cX10_primary 27 = .ok (.iload_n 1, 1) := by decide +kernel
theorem dX10_primary_28 : decode cX10_primary 28 = .ok (.aaload, 1) := by decide +kernel
theorem dX10_primary_29 : decode cX10_primary 29 = .ok (.invokevirtual 98, 3) := by decide +kernel
theorem dX10_primary_32 : decode cX10_primary 32 = .ok (.aload_n 0, 1) := by decide +kernel
theorem dX10_primary_33 : decode cX10_primary 33 = .ok (.getfield 37, 3) := by decide +kernel
theorem dX10_primary_36 : decode cX10_primary 36 = .ok (.getfield 108, 3) := by decide +kernel
theorem dX10_primary_39 : decode cX10_primary 39 = .ok (.invokevirtual 112, 3) := by decide +kernel
theorem dX10_primary_42 : decode cX10_primary 42 = .ok (.iload_n 2, 1) := by decide +kernel
theorem dX10_primary_43 : decode cX10_primary 43 = .ok (.invokestatic 126, 3) := by decide +kernel
theorem dX10_primary_46 : decode cX10_primary 46 = .ok (.ifCond .eq 6, 3) := by decide +kernel
theorem dX10_primary_49 : decode cX10_primary 49 = .ok (.bipush (-3), 2) := by decide +kernel
theorem dX10_primary_51 : decode cX10_primary 51 = .ok (.ireturn, 1) := by decide +kernel
theorem dX10_primary_52 : decode cX10_primary 52 = .ok (.aload_n 0, 1) := by decide +kernel
theorem dX10_primary_53 : decode cX10_primary 53 = .ok (.getfield 30, 3) := by decide +kernel
theorem dX10_primary_56 : decode cX10_primary 56 = .ok (.aload_n 0, 1) := by decide +kernel
theorem dX10_primary_57 : decode cX10_primary 57 = .ok (.getfield 37, 3) := by decide +kernel
theorem dX10_primary_60 : decode cX10_primary 60 = .ok (.getfield 108, 3) := by decide +kernel
theorem dX10_primary_63 : decode cX10_primary 63 = .ok (.iload_n 2, 1) := by decide +kernel
theorem dX10_primary_64 : decode cX10_primary 64 = .ok (.invokevirtual 130, 3) := by decide +kernel
theorem dX10_primary_67 : decode cX10_primary 67 = .ok (.aload_n 0, 1) := by decide +kernel
theorem dX10_primary_68 : decode cX10_primary 68 = .ok (.getfield 30, 3) := by decide +kernel
theorem dX10_primary_71 : decode cX10_primary 71 = .ok (.aload_n 0, 1) := by decide +kernel
theorem dX10_primary_72 : decode cX10_primary 72 = .ok (.getfield 19, 3) := by decide +kernel
theorem dX10_primary_75 : decode cX10_primary 75 = .ok (.getfield 60, 3) := by decide +kernel
theorem dX10_primary_78 : decode cX10_primary 78 = .ok (.iload_n 3, 1) := by decide +kernel
theorem dX10_primary_79 : decode cX10_primary 79 = .ok (.aaload, 1) := by decide +kernel
theorem dX10_primary_80 : decode cX10_primary 80 = .ok (.invokevirtual 64, 3) := by decide +kernel
theorem dX10_primary_83 : decode cX10_primary 83 = .ok (.ireturn, 1) := by decide +kernel
theorem dX10_dual_0 : decode cX10_dual 0 = .ok (.iload_n 1, 1) := by decide +kernel
theorem dX10_dual_1 : decode cX10_dual 1 = .ok (.invokestatic 53, 3) := by decide +kernel
theorem dX10_dual_4 : decode cX10_dual 4 = .ok (.ifCond .eq 10, 3) := by decide +kernel
theorem dX10_dual_7 : decode cX10_dual 7 = .ok (.iload_n 3, 1) := by decide +kernel
theorem dX10_dual_8 : decode cX10_dual 8 = .ok (.invokestatic 53, 3) := by decide +kernel
theorem dX10_dual_11 : decode cX10_dual 11 = .ok (.ifCond .ne 5, 3) := by decide +kernel
theorem dX10_dual_14 : decode cX10_dual 14 = .ok (.iconst (-1), 1) := by decide +kernel
theorem dX10_dual_15 : decode cX10_dual 15 = .ok (.ireturn, 1) := by decide +kernel
theorem dX10_dual_16 : decode cX10_dual 16 = .ok (.iload_n 2, 1) := by decide +kernel
theorem dX10_dual_17 : decode cX10_dual 17 = .ok (.invokestatic 81, 3) := by decide +kernel
theorem dX10_dual_20 : decode cX10_dual 20 = .ok (.ifCond .ne 6, 3) := by decide +kernel
theorem dX10_dual_23 : decode cX10_dual 23 = .ok (.bipush (-2), 2) := by decide +kernel
theorem dX10_dual_25 : decode cX10_dual 25 = .ok (.ireturn, 1) := by decide +kernel
theorem dX10_dual_26 : decode cX10_dual 26 = .ok (.iload_n 2, 1) := by decide +kernel
theorem dX10_dual_27 : decode cX10_dual 27 = .ok (.invokestatic 84, 3) := by decide +kernel
theorem dX10_dual_30 : decode cX10_dual 30 = .ok (.istore 4, 2) := by decide +kernel
theorem dX10_dual_32 : decode cX10_dual 32 = .ok (.aload_n 0, 1) := by decide +kernel
theorem dX10_dual_33 : decode cX10_dual 33 = .ok (.getfield 19, 3) := by decide +kernel
theorem dX10_dual_36 : decode cX10_dual 36 = .ok (.getfield 60, 3) := by decide +kernel
theorem dX10_dual_39 : decode cX10_dual 39 = .ok (.iload_n 1, 1) := by decide +kernel
theorem dX10_dual_40 : decode cX10_dual 40 = .ok (.aaload, 1) := by decide +kernel
theorem dX10_dual_41 : decode cX10_dual 41 = .ok (.iload 4, 2) := by decide +kernel
theorem dX10_dual_43 : decode cX10_dual 43 = .ok (.invokevirtual 134, 3) := by decide +kernel
theorem dX10_dual_46 : decode cX10_dual 46 = .ok (.ifCond .ne 6, 3) := by decide +kernel
theorem dX10_dual_49 : decode cX10_dual 49 = .ok (.bipush (-3), 2) := by decide +kernel
theorem dX10_dual_51 : decode cX10_dual 51 = .ok (.ireturn, 1) := by decide +kernel
theorem dX10_dual_52 : decode cX10_dual 52 = .ok (.aload_n 0, 1) := by decide +kernel
theorem dX10_dual_53 : decode cX10_dual 53 = .ok (.getfield 37, 3) := by decide +kernel
theorem dX10_dual_56 : decode cX10_dual 56 = .ok (.aload_n 0, 1) := by decide +kernel
theorem dX10_dual_57 : decode cX10_dual 57 = .ok (.getfield 19, 3) := by decide +kernel
theorem dX10_dual_60 : decode cX10_dual 60 = .ok (.getfield 60, 3) := by decide +kernel
theorem dX10_dual_63 : decode cX10_dual 63 = .ok (.iload_n 1, 1) := by decide +kernel
theorem dX10_dual_64 : decode cX10_dual 64 = .ok (.aaload, 1) := by decide +kernel
theorem dX10_dual_65 : decode cX10_dual 65 = .ok (.invokevirtual 98, 3) := by decide +kernel
theorem dX10_dual_68 : decode cX10_dual 68 = .ok (.aload_n 0, 1) := by decide +kernel
theorem dX10_dual_69 : decode cX10_dual 69 = .ok (.getfield 30, 3) := by decide +kernel
theorem dX10_dual_72 : decode cX10_dual 72 = .ok (.aload_n 0, 1) := by decide +kernel
theorem dX10_dual_73 : decode cX10_dual 73 = .ok (.getfield 37, 3) := by decide +kernel
theorem dX10_dual_76 : decode cX10_dual 76 = .ok (.getfield 108, 3) := by decide +kernel
theorem dX10_dual_79 : decode cX10_dual 79 = .ok (.iload 4, 2) := by decide +kernel
theorem dX10_dual_81 : decode cX10_dual 81 = .ok (.invokevirtual 137, 3) := by decide +kernel
theorem dX10_dual_84 : decode cX10_dual 84 = .ok (.aload_n 0, 1) := by decide +kernel
theorem dX10_dual_85 : decode cX10_dual 85 = .ok (.getfield 30, 3) := by decide +kernel
theorem dX10_dual_88 : decode cX10_dual 88 = .ok (.aload_n 0, 1) := by decide +kernel
theorem dX10_dual_89 : decode cX10_dual 89 = .ok (.getfield 19, 3) := by decide +kernel
theorem dX10_dual_92 : decode cX10_dual 92 = .ok (.getfield 60, 3) := by decide +kernel
theorem dX10_dual_95 : decode cX10_dual 95 = .ok (.iload_n 3, 1) := by decide +kernel
theorem dX10_dual_96 : decode cX10_dual 96 = .ok (.aaload, 1) := by decide +kernel
theorem dX10_dual_97 : decode cX10_dual 97 = .ok (.invokevirtual 64, 3) := by decide +kernel
theorem dX10_dual_100 : decode cX10_dual 100 = .ok (.ireturn, 1) := by decide +kernel
theorem dX10_count_0 : decode cX10_count 0 = .ok (.iload_n 1, 1) := by decide +kernel
theorem dX10_count_1 : decode cX10_count 1 = .ok (.iload_n 2, 1) := by decide +kernel
theorem dX10_count_2 : decode cX10_count 2 = .ok (.invokestatic 140, 3) := by decide +kernel
theorem dX10_count_5 : decode cX10_count 5 = .ok (.istore_n 3, 1) := by decide +kernel
theorem dX10_count_6 : decode cX10_count 6 = .ok (.iload_n 3, 1) := by decide +kernel
theorem dX10_count_7 : decode cX10_count 7 = .ok (.ifCond .eq 5, 3) := by decide +kernel
theorem dX10_count_10 : decode cX10_count 10 = .ok (.iload_n 3, 1) := by decide +kernel
theorem dX10_count_11 : decode cX10_count 11 = .ok (.ireturn, 1) := by decide +kernel
theorem dX10_count_12 : decode cX10_count 12 = .ok (.aload_n 0, 1) := by decide +kernel
theorem dX10_count_13 : decode cX10_count 13 = .ok (.getfield 37, 3) := by decide +kernel
theorem dX10_count_16 : decode cX10_count 16 = .ok (.aload_n 0, 1) := by decide +kernel
theorem dX10_count_17 : decode cX10_count 17 = .ok (.getfield 19, 3) := by decide +kernel
theorem dX10_count_20 : decode cX10_count 20 = .ok (.getfield 60, 3) := by decide +kernel
theorem dX10_count_23 : decode cX10_count 23 = .ok (.iload_n 1, 1) := by decide +kernel
theorem dX10_count_24 : decode cX10_count 24 = .ok (.aaload, 1) := by decide +kernel
theorem dX10_count_25 : decode cX10_count 25 = .ok (.invokevirtual 98, 3) := by decide +kernel
theorem dX10_count_28 : decode cX10_count 28 = .ok (.aload_n 0, 1) := by decide +kernel
theorem dX10_count_29 : decode cX10_count 29 = .ok (.getfield 37, 3) := by decide +kernel
theorem dX10_count_32 : decode cX10_count 32 = .ok (.iload_n 2, 1) := by decide +kernel
theorem dX10_count_33 : decode cX10_count 33 = .ok (.invokevirtual 143, 3) := by decide +kernel
theorem dX10_count_36 : decode cX10_count 36 = .ok (.ireturn, 1) := by decide +kernel
theorem dX10_series_0 : decode cX10_series 0 = .ok (.iload_n 1, 1) := by decide +kernel
theorem dX10_series_1 : decode cX10_series 1 = .ok (.iload_n 2, 1) := by decide +kernel
theorem dX10_series_2 : decode cX10_series 2 = .ok (.invokestatic 140, 3) := by decide +kernel
theorem dX10_series_5 : decode cX10_series 5 = .ok (.istore_n 3, 1) := by decide +kernel
theorem dX10_series_6 : decode cX10_series 6 = .ok (.iload_n 3, 1) := by decide +kernel
theorem dX10_series_7 : decode cX10_series 7 = .ok (.ifCond .eq 8, 3) := by decide +kernel
theorem dX10_series_10 : decode cX10_series 10 = .ok (.ldc 146, 2) := by decide +kernel
theorem dX10_series_12 : decode cX10_series 12 = .ok (.iload_n 3, 1) := by decide +kernel
theorem dX10_series_13 : decode cX10_series 13 = .ok (.iadd, 1) := by decide +kernel
theorem dX10_series_14 : decode cX10_series 14 = .ok (.ireturn, 1) := by decide +kernel
theorem dX10_series_15 : decode cX10_series 15 = .ok (.aload_n 0, 1) := by decide +kernel
theorem dX10_series_16 : decode cX10_series 16 = .ok (.getfield 37, 3) := by decide +kernel
theorem dX10_series_19 : decode cX10_series 19 = .ok (.aload_n 0, 1) := by decide +kernel
theorem dX10_series_20 : decode cX10_series 20 = .ok (.getfield 19, 3) := by decide +kernel
theorem dX10_series_23 : decode cX10_series 23 = .ok (.getfield 60, 3) := by decide +kernel
theorem dX10_series_26 : decode cX10_series 26 = .ok (.iload_n 1, 1) := by decide +kernel
theorem dX10_series_27 : decode cX10_series 27 = .ok (.aaload, 1) := by decide +kernel
theorem dX10_series_28 : decode cX10_series 28 = .ok (.invokevirtual 98, 3) := by decide +kernel
theorem dX10_series_31 : decode cX10_series 31 = .ok (.aload_n 0, 1) := by decide +kernel
theorem dX10_series_32 : decode cX10_series 32 = .ok (.getfield 37, 3) := by decide +kernel
theorem dX10_series_35 : decode cX10_series 35 = .ok (.iload_n 2, 1) := by decide +kernel
theorem dX10_series_36 : decode cX10_series 36 = .ok (.invokevirtual 147, 3) := by decide +kernel
theorem dX10_series_39 : decode cX10_series 39 = .ok (.ireturn, 1) := by decide +kernel
theorem dX10_facts_0 : decode cX10_facts 0 = .ok (.iload_n 1, 1) := by decide +kernel
theorem dX10_facts_1 : decode cX10_facts 1 = .ok (.invokestatic 53, 3) := by decide +kernel
theorem dX10_facts_4 : decode cX10_facts 4 = .ok (.ifCond .ne 5, 3) := by decide +kernel
theorem dX10_facts_7 : decode cX10_facts 7 = .ok (.iconst (-1), 1) := by decide +kernel
theorem dX10_facts_8 : decode cX10_facts 8 = .ok (.ireturn, 1) := by decide +kernel
theorem dX10_facts_9 : decode cX10_facts 9 = .ok (.aload_n 0, 1) := by decide +kernel
theorem dX10_facts_10 : decode cX10_facts 10 = .ok (.getfield 19, 3) := by decide +kernel
theorem dX10_facts_13 : decode cX10_facts 13 = .ok (.getfield 60, 3) := by decide +kernel
theorem dX10_facts_16 : decode cX10_facts 16 = .ok (.iload_n 1, 1) := by decide +kernel
theorem dX10_facts_17 : decode cX10_facts 17 = .ok (.aaload, 1) := by decide +kernel
theorem dX10_facts_18 : decode cX10_facts 18 = .ok (.astore_n 3, 1) := by decide +kernel
theorem dX10_facts_19 : decode cX10_facts 19 = .ok (.aload_n 0, 1) := by decide +kernel
theorem dX10_facts_20 : decode cX10_facts 20 = .ok (.getfield 37, 3) := by decide +kernel
theorem dX10_facts_23 : decode cX10_facts 23 = .ok (.aload_n 3, 1) := by decide +kernel
theorem dX10_facts_24 : decode cX10_facts 24 = .ok (.invokevirtual 98, 3) := by decide +kernel
theorem dX10_facts_27 : decode cX10_facts 27 = .ok (.iload_n 2, 1) := by decide +kernel
theorem dX10_facts_28 : decode cX10_facts 28 = .ok (.tableswitch 85 0 4 #[36, 47, 58, 67, 76], 36) := by decide +kernel
theorem dX10_facts_64 : decode cX10_facts 64 = .ok (.aload_n 0, 1) := by decide +kernel
theorem dX10_facts_65 : decode cX10_facts 65 = .ok (.getfield 37, 3) := by decide +kernel
theorem dX10_facts_68 : decode cX10_facts 68 = .ok (.getfield 108, 3) := by decide +kernel
theorem dX10_facts_71 : decode cX10_facts 71 = .ok (.invokevirtual 150, 3) := by decide +kernel
theorem dX10_facts_74 : decode cX10_facts 74 = .ok (.ireturn, 1) := by decide +kernel
theorem dX10_facts_75 : decode cX10_facts 75 = .ok (.aload_n 0, 1) := by decide +kernel
theorem dX10_facts_76 : decode cX10_facts 76 = .ok (.getfield 37, 3) := by decide +kernel
theorem dX10_facts_79 : decode cX10_facts 79 = .ok (.getfield 108, 3) := by decide +kernel
theorem dX10_facts_82 : decode cX10_facts 82 = .ok (.invokevirtual 153, 3) := by decide +kernel
theorem dX10_facts_85 : decode cX10_facts 85 = .ok (.ireturn, 1) := by decide +kernel
theorem dX10_facts_86 : decode cX10_facts 86 = .ok (.aload_n 0, 1) := by decide +kernel
theorem dX10_facts_87 : decode cX10_facts 87 = .ok (.getfield 37, 3) := by decide +kernel
theorem dX10_facts_90 : decode cX10_facts 90 = .ok (.aload_n 3, 1) := by decide +kernel
theorem dX10_facts_91 : decode cX10_facts 91 = .ok (.invokevirtual 156, 3) := by decide +kernel
theorem dX10_facts_94 : decode cX10_facts 94 = .ok (.ireturn, 1) := by decide +kernel
theorem dX10_facts_95 : decode cX10_facts 95 = .ok (.aload_n 0, 1) := by decide +kernel
theorem dX10_facts_96 : decode cX10_facts 96 = .ok (.getfield 37, 3) := by decide +kernel
theorem dX10_facts_99 : decode cX10_facts 99 = .ok (.aload_n 3, 1) := by decide +kernel
theorem dX10_facts_100 : decode cX10_facts 100 = .ok (.invokevirtual 159, 3) := by decide +kernel
theorem dX10_facts_103 : decode cX10_facts 103 = .ok (.ireturn, 1) := by decide +kernel
theorem dX10_facts_104 : decode cX10_facts 104 = .ok (.aload_n 0, 1) := by decide +kernel
theorem dX10_facts_105 : decode cX10_facts 105 = .ok (.getfield 37, 3) := by decide +kernel
theorem dX10_facts_108 : decode cX10_facts 108 = .ok (.aload_n 3, 1) := by decide +kernel
theorem dX10_facts_109 : decode cX10_facts 109 = .ok (.invokevirtual 162, 3) := by decide +kernel
theorem dX10_facts_112 : decode cX10_facts 112 = .ok (.ireturn, 1) := by decide +kernel
theorem dX10_facts_113 : decode cX10_facts 113 = .ok (.bipush (-2), 2) := by decide +kernel
theorem dX10_facts_115 : decode cX10_facts 115 = .ok (.ireturn, 1) := by decide +kernel
theorem dX10_betti_0 : decode cX10_betti 0 = .ok (.iload_n 1, 1) := by decide +kernel
theorem dX10_betti_1 : decode cX10_betti 1 = .ok (.invokestatic 53, 3) := by decide +kernel
theorem dX10_betti_4 : decode cX10_betti 4 = .ok (.ifCond .ne 5, 3) := by decide +kernel
theorem dX10_betti_7 : decode cX10_betti 7 = .ok (.iconst (-1), 1) := by decide +kernel
theorem dX10_betti_8 : decode cX10_betti 8 = .ok (.ireturn, 1) := by decide +kernel
theorem dX10_betti_9 : decode cX10_betti 9 = .ok (.iload_n 2, 1) := by decide +kernel
theorem dX10_betti_10 : decode cX10_betti 10 = .ok (.ifCond .lt 8, 3) := by decide +kernel
theorem dX10_betti_13 : decode cX10_betti 13 = .ok (.iload_n 2, 1) := by decide +kernel
theorem dX10_betti_14 : decode cX10_betti 14 = .ok (.iconst 4, 1) := by decide +kernel
theorem dX10_betti_15 : decode cX10_betti 15 = .ok (.if_icmp .lt 6, 3) := by decide +kernel
theorem dX10_betti_18 : decode cX10_betti 18 = .ok (.bipush (-2), 2) := by decide +kernel
theorem dX10_betti_20 : decode cX10_betti 20 = .ok (.ireturn, 1) := by decide +kernel
theorem dX10_betti_21 : decode cX10_betti 21 = .ok (.aload_n 0, 1) := by decide +kernel
theorem dX10_betti_22 : decode cX10_betti 22 = .ok (.getfield 37, 3) := by decide +kernel
theorem dX10_betti_25 : decode cX10_betti 25 = .ok (.aload_n 0, 1) := by decide +kernel
theorem dX10_betti_26 : decode cX10_betti 26 = .ok (.getfield 19, 3) := by decide +kernel
theorem dX10_betti_29 : decode cX10_betti 29 = .ok (.getfield 60, 3) := by decide +kernel
theorem dX10_betti_32 : decode cX10_betti 32 = .ok (.iload_n 1, 1) := by decide +kernel
theorem dX10_betti_33 : decode cX10_betti 33 = .ok (.aaload, 1) := by decide +kernel
theorem dX10_betti_34 : decode cX10_betti 34 = .ok (.invokevirtual 98, 3) := by decide +kernel
theorem dX10_betti_37 : decode cX10_betti 37 = .ok (.aload_n 0, 1) := by decide +kernel
theorem dX10_betti_38 : decode cX10_betti 38 = .ok (.getfield 37, 3) := by decide +kernel
theorem dX10_betti_41 : decode cX10_betti 41 = .ok (.aload_n 0, 1) := by decide +kernel
theorem dX10_betti_42 : decode cX10_betti 42 = .ok (.getfield 19, 3) := by decide +kernel
theorem dX10_betti_45 : decode cX10_betti 45 = .ok (.getfield 60, 3) := by decide +kernel
theorem dX10_betti_48 : decode cX10_betti 48 = .ok (.iload_n 1, 1) := by decide +kernel
theorem dX10_betti_49 : decode cX10_betti 49 = .ok (.aaload, 1) := by decide +kernel
theorem dX10_betti_50 : decode cX10_betti 50 = .ok (.iload_n 2, 1) := by decide +kernel
theorem dX10_betti_51 : decode cX10_betti 51 = .ok (.invokevirtual 165, 3) := by decide +kernel
theorem dX10_betti_54 : decode cX10_betti 54 = .ok (.ireturn, 1) := by decide +kernel
theorem dX10_bettiAt_0 : decode cX10_bettiAt 0 = .ok (.iload_n 1, 1) := by decide +kernel
theorem dX10_bettiAt_1 : decode cX10_bettiAt 1 = .ok (.invokestatic 53, 3) := by decide +kernel
theorem dX10_bettiAt_4 : decode cX10_bettiAt 4 = .ok (.ifCond .ne 5, 3) := by decide +kernel
theorem dX10_bettiAt_7 : decode cX10_bettiAt 7 = .ok (.iconst (-1), 1) := by decide +kernel
theorem dX10_bettiAt_8 : decode cX10_bettiAt 8 = .ok (.ireturn, 1) := by decide +kernel
theorem dX10_bettiAt_9 : decode cX10_bettiAt 9 = .ok (.iload_n 2, 1) := by decide +kernel
theorem dX10_bettiAt_10 : decode cX10_bettiAt 10 = .ok (.ifCond .lt 15, 3) := by decide +kernel
theorem dX10_bettiAt_13 : decode cX10_bettiAt 13 = .ok (.iload_n 2, 1) := by decide +kernel
theorem dX10_bettiAt_14 : decode cX10_bettiAt 14 = .ok (.iconst 4, 1) := by decide +kernel
theorem dX10_bettiAt_15 : decode cX10_bettiAt 15 = .ok (.if_icmp .ge 10, 3) := by decide +kernel
theorem dX10_bettiAt_18 : decode cX10_bettiAt 18 = .ok (.iload_n 3, 1) := by decide +kernel
theorem dX10_bettiAt_19 : decode cX10_bettiAt 19 = .ok (.invokestatic 81, 3) := by decide +kernel
theorem dX10_bettiAt_22 : decode cX10_bettiAt 22 = .ok (.ifCond .ne 6, 3) := by decide +kernel
theorem dX10_bettiAt_25 : decode cX10_bettiAt 25 = .ok (.bipush (-2), 2) := by decide +kernel
theorem dX10_bettiAt_27 : decode cX10_bettiAt 27 = .ok (.ireturn, 1) := by decide +kernel
theorem dX10_bettiAt_28 : decode cX10_bettiAt 28 = .ok (.aload_n 0, 1) := by decide +kernel
theorem dX10_bettiAt_29 : decode cX10_bettiAt 29 = .ok (.getfield 37, 3) := by decide +kernel
theorem dX10_bettiAt_32 : decode cX10_bettiAt 32 = .ok (.aload_n 0, 1) := by decide +kernel
theorem dX10_bettiAt_33 : decode cX10_bettiAt 33 = .ok (.getfield 19, 3) := by decide +kernel
theorem dX10_bettiAt_36 : decode cX10_bettiAt 36 = .ok (.getfield 60, 3) := by decide +kernel
theorem dX10_bettiAt_39 : decode cX10_bettiAt 39 = .ok (.iload_n 1, 1) := by decide +kernel
theorem dX10_bettiAt_40 : decode cX10_bettiAt 40 = .ok (.aaload, 1) := by decide +kernel
theorem dX10_bettiAt_41 : decode cX10_bettiAt 41 = .ok (.invokevirtual 98, 3) := by decide +kernel
theorem dX10_bettiAt_44 : decode cX10_bettiAt 44 = .ok (.aload_n 0, 1) := by decide +kernel
theorem dX10_bettiAt_45 : decode cX10_bettiAt 45 = .ok (.getfield 37, 3) := by decide +kernel
theorem dX10_bettiAt_48 : decode cX10_bettiAt 48 = .ok (.aload_n 0, 1) := by decide +kernel
theorem dX10_bettiAt_49 : decode cX10_bettiAt 49 = .ok (.getfield 19, 3) := by decide +kernel
theorem dX10_bettiAt_52 : decode cX10_bettiAt 52 = .ok (.getfield 60, 3) := by decide +kernel
theorem dX10_bettiAt_55 : decode cX10_bettiAt 55 = .ok (.iload_n 1, 1) := by decide +kernel
theorem dX10_bettiAt_56 : decode cX10_bettiAt 56 = .ok (.aaload, 1) := by decide +kernel
theorem dX10_bettiAt_57 : decode cX10_bettiAt 57 = .ok (.iload_n 2, 1) := by decide +kernel
theorem dX10_bettiAt_58 : decode cX10_bettiAt 58 = .ok (.iload_n 3, 1) := by decide +kernel
theorem dX10_bettiAt_59 : decode cX10_bettiAt 59 = .ok (.invokestatic 84, 3) := by decide +kernel
theorem dX10_bettiAt_62 : decode cX10_bettiAt 62 = .ok (.invokevirtual 169, 3) := by decide +kernel
theorem dX10_bettiAt_65 : decode cX10_bettiAt 65 = .ok (.ireturn, 1) := by decide +kernel
theorem dX10_share_0 : decode cX10_share 0 = .ok (.iload_n 1, 1) := by decide +kernel
theorem dX10_share_1 : decode cX10_share 1 = .ok (.iload_n 2, 1) := by decide +kernel
theorem dX10_share_2 : decode cX10_share 2 = .ok (.invokestatic 140, 3) := by decide +kernel
theorem dX10_share_5 : decode cX10_share 5 = .ok (.istore 4, 2) := by decide +kernel
theorem dX10_share_7 : decode cX10_share 7 = .ok (.iload 4, 2) := by decide +kernel
theorem dX10_share_9 : decode cX10_share 9 = .ok (.ifCond .eq 11, 3) := by decide +kernel
theorem dX10_share_12 : decode cX10_share 12 = .ok (.ldc2_w 173, 3) := by decide +kernel
theorem dX10_share_15 : decode cX10_share 15 = .ok (.iload 4, 2) := by decide +kernel
theorem dX10_share_17 : decode cX10_share 17 = .ok (.i2l, 1) := by decide +kernel
theorem dX10_share_18 : decode cX10_share 18 = .ok (.ladd, 1) := by decide +kernel
theorem dX10_share_19 : decode cX10_share 19 = .ok (.lreturn, 1) := by decide +kernel
theorem dX10_share_20 : decode cX10_share 20 = .ok (.iload_n 3, 1) := by decide +kernel
theorem dX10_share_21 : decode cX10_share 21 = .ok (.ifCond .lt 8, 3) := by decide +kernel
theorem dX10_share_24 : decode cX10_share 24 = .ok (.iload_n 3, 1) := by decide +kernel
theorem dX10_share_25 : decode cX10_share 25 = .ok (.iconst 2, 1) := by decide +kernel
theorem dX10_share_26 : decode cX10_share 26 = .ok (.if_icmp .le 7, 3) := by decide +kernel
theorem dX10_share_29 : decode cX10_share 29 = .ok (.ldc2_w 175, 3) := by decide +kernel
theorem dX10_share_32 : decode cX10_share 32 = .ok (.lreturn, 1) := by decide +kernel
theorem dX10_share_33 : decode cX10_share 33 = .ok (.aload_n 0, 1) := by decide +kernel
theorem dX10_share_34 : decode cX10_share 34 = .ok (.getfield 37, 3) := by decide +kernel
theorem dX10_share_37 : decode cX10_share 37 = .ok (.aload_n 0, 1) := by decide +kernel
theorem dX10_share_38 : decode cX10_share 38 = .ok (.getfield 19, 3) := by decide +kernel
theorem dX10_share_41 : decode cX10_share 41 = .ok (.getfield 60, 3) := by decide +kernel
theorem dX10_share_44 : decode cX10_share 44 = .ok (.iload_n 1, 1) := by decide +kernel
theorem dX10_share_45 : decode cX10_share 45 = .ok (.aaload, 1) := by decide +kernel
theorem dX10_share_46 : decode cX10_share 46 = .ok (.invokevirtual 98, 3) := by decide +kernel
theorem dX10_share_49 : decode cX10_share 49 = .ok (.aload_n 0, 1) := by decide +kernel
theorem dX10_share_50 : decode cX10_share 50 = .ok (.getfield 37, 3) := by decide +kernel
theorem dX10_share_53 : decode cX10_share 53 = .ok (.iload_n 2, 1) := by decide +kernel
theorem dX10_share_54 : decode cX10_share 54 = .ok (.invokevirtual 143, 3) := by decide +kernel
theorem dX10_share_57 : decode cX10_share 57 = .ok (.istore 5, 2) := by decide +kernel
theorem dX10_share_59 : decode cX10_share 59 = .ok (.iload_n 2, 1) := by decide +kernel
theorem dX10_share_60 : decode cX10_share 60 = .ok (.invokestatic 177, 3) := by decide +kernel
theorem dX10_share_63 : decode cX10_share 63 = .ok (.istore 6, 2) := by decide +kernel
theorem dX10_share_65 : decode cX10_share 65 = .ok (.iload_n 3, 1) := by decide +kernel
theorem dX10_share_66 : decode cX10_share 66 = .ok (.ifCond .ne 11, 3) := by decide +kernel
theorem dX10_share_69 : decode cX10_share 69 = .ok (.iload 5, 2) := by decide +kernel
theorem dX10_share_71 : decode cX10_share 71 = .ok (.iload 6, 2) := by decide +kernel
theorem dX10_share_73 : decode cX10_share 73 = .ok (.invokestatic 180, 3) := by decide +kernel
theorem dX10_share_76 : decode cX10_share 76 = .ok (.lreturn, 1) := by decide +kernel
theorem dX10_share_77 : decode cX10_share 77 = .ok (.iload_n 3, 1) := by decide +kernel
theorem dX10_share_78 : decode cX10_share 78 = .ok (.iconst 1, 1) := by decide +kernel
theorem dX10_share_79 : decode cX10_share 79 = .ok (.if_icmp .ne 13, 3) := by decide +kernel
theorem dX10_share_82 : decode cX10_share 82 = .ok (.iload 5, 2) := by decide +kernel
theorem dX10_share_84 : decode cX10_share 84 = .ok (.iload 6, 2) := by decide +kernel
theorem dX10_share_86 : decode cX10_share 86 = .ok (.invokestatic 186, 3) := by decide +kernel
theorem dX10_share_89 : decode cX10_share 89 = .ok (.goto 10, 3) := by decide +kernel
theorem dX10_share_92 : decode cX10_share 92 = .ok (.iload 5, 2) := by decide +kernel
theorem dX10_share_94 : decode cX10_share 94 = .ok (.iload 6, 2) := by decide +kernel
theorem dX10_share_96 : decode cX10_share 96 = .ok (.invokestatic 189, 3) := by decide +kernel
theorem dX10_share_99 : decode cX10_share 99 = .ok (.lreturn, 1) := by decide +kernel
theorem dX10_hold_0 : decode cX10_hold 0 = .ok (.iload_n 1, 1) := by decide +kernel
theorem dX10_hold_1 : decode cX10_hold 1 = .ok (.iload_n 2, 1) := by decide +kernel
theorem dX10_hold_2 : decode cX10_hold 2 = .ok (.invokestatic 192, 3) := by decide +kernel
theorem dX10_hold_5 : decode cX10_hold 5 = .ok (.ifCond .eq 10, 3) := by decide +kernel
theorem dX10_hold_8 : decode cX10_hold 8 = .ok (.iload_n 3, 1) := by decide +kernel
theorem dX10_hold_9 : decode cX10_hold 9 = .ok (.invokestatic 53, 3) := by decide +kernel
theorem dX10_hold_12 : decode cX10_hold 12 = .ok (.ifCond .ne 5, 3) := by decide +kernel
theorem dX10_hold_15 : decode cX10_hold 15 = .ok (.iconst (-1), 1) := by decide +kernel
theorem dX10_hold_16 : decode cX10_hold 16 = .ok (.ireturn, 1) := by decide +kernel
theorem dX10_hold_17 : decode cX10_hold 17 = .ok (.iload 4, 2) := by decide +kernel
theorem dX10_hold_19 : decode cX10_hold 19 = .ok (.ifCond .eq 10, 3) := by decide +kernel
theorem dX10_hold_22 : decode cX10_hold 22 = .ok (.iload_n 1, 1) := by decide +kernel
theorem dX10_hold_23 : decode cX10_hold 23 = .ok (.ifCond .ne 14, 3) := by decide +kernel
theorem dX10_hold_26 : decode cX10_hold 26 = .ok (.goto 8, 3) := by decide +kernel
theorem dX10_hold_29 : decode cX10_hold 29 = .ok (.iload_n 1, 1) := by decide +kernel
theorem dX10_hold_30 : decode cX10_hold 30 = .ok (.iconst 1, 1) := by decide +kernel
theorem dX10_hold_31 : decode cX10_hold 31 = .ok (.if_icmp .ne 6, 3) := by decide +kernel
theorem dX10_hold_34 : decode cX10_hold 34 = .ok (.bipush (-3), 2) := by decide +kernel
theorem dX10_hold_36 : decode cX10_hold 36 = .ok (.ireturn, 1) := by decide +kernel
theorem dX10_hold_37 : decode cX10_hold 37 = .ok (.iload_n 1, 1) := by decide +kernel
theorem dX10_hold_38 : decode cX10_hold 38 = .ok (.iconst 4, 1) := by decide +kernel
theorem dX10_hold_39 : decode cX10_hold 39 = .ok (.imul, 1) := by decide +kernel
theorem dX10_hold_40 : decode cX10_hold 40 = .ok (.iload_n 2, 1) := by decide +kernel
theorem dX10_hold_41 : decode cX10_hold 41 = .ok (.iadd, 1) := by decide +kernel
theorem dX10_hold_42 : decode cX10_hold 42 = .ok (.istore 5, 2) := by decide +kernel
theorem dX10_hold_44 : decode cX10_hold 44 = .ok (.aload_n 0, 1) := by decide +kernel
theorem dX10_hold_45 : decode cX10_hold 45 = .ok (.getfield 19, 3) := by decide +kernel
theorem dX10_hold_48 : decode cX10_hold 48 = .ok (.getfield 195, 3) := by decide +kernel
theorem dX10_hold_51 : decode cX10_hold 51 = .ok (.iload 5, 2) := by decide +kernel
theorem dX10_hold_53 : decode cX10_hold 53 = .ok (.aaload, 1) := by decide +kernel
theorem dX10_hold_54 : decode cX10_hold 54 = .ok (.aload_n 0, 1) := by decide +kernel
theorem dX10_hold_55 : decode cX10_hold 55 = .ok (.getfield 19, 3) := by decide +kernel
theorem dX10_hold_58 : decode cX10_hold 58 = .ok (.getfield 60, 3) := by decide +kernel
theorem dX10_hold_61 : decode cX10_hold 61 = .ok (.iload_n 3, 1) := by decide +kernel
theorem dX10_hold_62 : decode cX10_hold 62 = .ok (.aaload, 1) := by decide +kernel
theorem dX10_hold_63 : decode cX10_hold 63 = .ok (.invokevirtual 198, 3) := by decide +kernel
theorem dX10_hold_66 : decode cX10_hold 66 = .ok (.aload_n 0, 1) := by decide +kernel
theorem dX10_hold_67 : decode cX10_hold 67 = .ok (.getfield 19, 3) := by decide +kernel
theorem dX10_hold_70 : decode cX10_hold 70 = .ok (.getfield 201, 3) := by decide +kernel
theorem dX10_hold_73 : decode cX10_hold 73 = .ok (.iload 5, 2) := by decide +kernel
theorem dX10_hold_75 : decode cX10_hold 75 = .ok (.iload 4, 2) := by decide +kernel
theorem dX10_hold_77 : decode cX10_hold 77 = .ok (.ifCond .eq 7, 3) := by decide +kernel
theorem dX10_hold_80 : decode cX10_hold 80 = .ok (.iconst 2, 1) := by decide +kernel
theorem dX10_hold_81 : decode cX10_hold 81 = .ok (.goto 4, 3) := by decide +kernel
theorem dX10_hold_84 : decode cX10_hold 84 = .ok (.iconst 1, 1) := by decide +kernel
theorem dX10_hold_85 : decode cX10_hold 85 = .ok (.iastore, 1) := by decide +kernel
theorem dX10_hold_86 : decode cX10_hold 86 = .ok (.iconst 1, 1) := by decide +kernel
theorem dX10_hold_87 : decode cX10_hold 87 = .ok (.ireturn, 1) := by decide +kernel
theorem dX10_take_0 : decode cX10_take 0 = .ok (.iload_n 1, 1) := by decide +kernel
theorem dX10_take_1 : decode cX10_take 1 = .ok (.iload_n 2, 1) := by decide +kernel
theorem dX10_take_2 : decode cX10_take 2 = .ok (.invokestatic 192, 3) := by decide +kernel
theorem dX10_take_5 : decode cX10_take 5 = .ok (.ifCond .eq 10, 3) := by decide +kernel
theorem dX10_take_8 : decode cX10_take 8 = .ok (.iload_n 3, 1) := by decide +kernel
theorem dX10_take_9 : decode cX10_take 9 = .ok (.invokestatic 53, 3) := by decide +kernel
theorem dX10_take_12 : decode cX10_take 12 = .ok (.ifCond .ne 5, 3) := by decide +kernel
theorem dX10_take_15 : decode cX10_take 15 = .ok (.iconst (-1), 1) := by decide +kernel
theorem dX10_take_16 : decode cX10_take 16 = .ok (.ireturn, 1) := by decide +kernel
theorem dX10_take_17 : decode cX10_take 17 = .ok (.iload_n 1, 1) := by decide +kernel
theorem dX10_take_18 : decode cX10_take 18 = .ok (.iconst 4, 1) := by decide +kernel
theorem dX10_take_19 : decode cX10_take 19 = .ok (.imul, 1) := by decide +kernel
theorem dX10_take_20 : decode cX10_take 20 = .ok (.iload_n 2, 1) := by decide +kernel
theorem dX10_take_21 : decode cX10_take 21 = .ok (.iadd, 1) := by decide +kernel
theorem dX10_take_22 : decode cX10_take 22 = .ok (.istore 4, 2) := by decide +kernel
theorem dX10_take_24 : decode cX10_take 24 = .ok (.aload_n 0, 1) := by decide +kernel
theorem dX10_take_25 : decode cX10_take 25 = .ok (.getfield 19, 3) := by decide +kernel
theorem dX10_take_28 : decode cX10_take 28 = .ok (.getfield 201, 3) := by decide +kernel
theorem dX10_take_31 : decode cX10_take 31 = .ok (.iload 4, 2) := by decide +kernel
theorem dX10_take_33 : decode cX10_take 33 = .ok (.iaload, 1) := by decide +kernel
theorem dX10_take_34 : decode cX10_take 34 = .ok (.ifCond .ne 6, 3) := by decide +kernel
theorem dX10_take_37 : decode cX10_take 37 = .ok (.bipush (-5), 2) := by decide +kernel
theorem dX10_take_39 : decode cX10_take 39 = .ok (.ireturn, 1) := by decide +kernel
theorem dX10_take_40 : decode cX10_take 40 = .ok (.aload_n 0, 1) := by decide +kernel
theorem dX10_take_41 : decode cX10_take 41 = .ok (.getfield 19, 3) := by decide +kernel
theorem dX10_take_44 : decode cX10_take 44 = .ok (.getfield 201, 3) := by decide +kernel
theorem dX10_take_47 : decode cX10_take 47 = .ok (.iload 4, 2) := by decide +kernel
theorem dX10_take_49 : decode cX10_take 49 = .ok (.iaload, 1) := by decide +kernel
theorem dX10_take_50 : decode cX10_take 50 = .ok (.iconst 2, 1) := by decide +kernel
theorem dX10_take_51 : decode cX10_take 51 = .ok (.if_icmp .ne 6, 3) := by decide +kernel
theorem dX10_take_54 : decode cX10_take 54 = .ok (.bipush (-3), 2) := by decide +kernel
theorem dX10_take_56 : decode cX10_take 56 = .ok (.ireturn, 1) := by decide +kernel
theorem dX10_take_57 : decode cX10_take 57 = .ok (.aload_n 0, 1) := by decide +kernel
theorem dX10_take_58 : decode cX10_take 58 = .ok (.getfield 19, 3) := by decide +kernel
theorem dX10_take_61 : decode cX10_take 61 = .ok (.getfield 60, 3) := by decide +kernel
theorem dX10_take_64 : decode cX10_take 64 = .ok (.iload_n 3, 1) := by decide +kernel
theorem dX10_take_65 : decode cX10_take 65 = .ok (.aaload, 1) := by decide +kernel
theorem dX10_take_66 : decode cX10_take 66 = .ok (.aload_n 0, 1) := by decide +kernel
theorem dX10_take_67 : decode cX10_take 67 = .ok (.getfield 19, 3) := by decide +kernel
theorem dX10_take_70 : decode cX10_take 70 = .ok (.getfield 195, 3) := by decide +kernel
theorem dX10_take_73 : decode cX10_take 73 = .ok (.iload 4, 2) := by decide +kernel
theorem dX10_take_75 : decode cX10_take 75 = .ok (.aaload, 1) := by decide +kernel
theorem dX10_take_76 : decode cX10_take 76 = .ok (.invokevirtual 198, 3) := by decide +kernel
theorem dX10_take_79 : decode cX10_take 79 = .ok (.aload_n 0, 1) := by decide +kernel
theorem dX10_take_80 : decode cX10_take 80 = .ok (.getfield 19, 3) := by decide +kernel
theorem dX10_take_83 : decode cX10_take 83 = .ok (.getfield 60, 3) := by decide +kernel
theorem dX10_take_86 : decode cX10_take 86 = .ok (.iload_n 3, 1) := by decide +kernel
theorem dX10_take_87 : decode cX10_take 87 = .ok (.aaload, 1) := by decide +kernel
theorem dX10_take_88 : decode cX10_take 88 = .ok (.getfield 68, 3) := by decide +kernel
theorem dX10_take_91 : decode cX10_take 91 = .ok (.ireturn, 1) := by decide +kernel
theorem dX10_measure_0 : decode cX10_measure 0 = .ok (.iload_n 1, 1) := by decide +kernel
theorem dX10_measure_1 : decode cX10_measure 1 = .ok (.iload_n 2, 1) := by decide +kernel
theorem dX10_measure_2 : decode cX10_measure 2 = .ok (.invokestatic 192, 3) := by decide +kernel
theorem dX10_measure_5 : decode cX10_measure 5 = .ok (.ifCond .ne 5, 3) := by decide +kernel
theorem dX10_measure_8 : decode cX10_measure 8 = .ok (.iconst (-1), 1) := by decide +kernel
theorem dX10_measure_9 : decode cX10_measure 9 = .ok (.ireturn, 1) := by decide +kernel
theorem dX10_measure_10 : decode cX10_measure 10 = .ok (.iload_n 1, 1) := by decide +kernel
theorem dX10_measure_11 : decode cX10_measure 11 = .ok (.iconst 4, 1) := by decide +kernel
theorem dX10_measure_12 : decode cX10_measure 12 = .ok (.imul, 1) := by decide +kernel
theorem dX10_measure_13 : decode cX10_measure 13 = .ok (.iload_n 2, 1) := by decide +kernel
theorem dX10_measure_14 : decode cX10_measure 14 = .ok (.iadd, 1) := by decide +kernel
theorem dX10_measure_15 : decode cX10_measure 15 = .ok (.istore_n 3, 1) := by decide +kernel
theorem dX10_measure_16 : decode cX10_measure 16 = .ok (.aload_n 0, 1) := by decide +kernel
theorem dX10_measure_17 : decode cX10_measure 17 = .ok (.getfield 19, 3) := by decide +kernel
theorem dX10_measure_20 : decode cX10_measure 20 = .ok (.getfield 201, 3) := by decide +kernel
theorem dX10_measure_23 : decode cX10_measure 23 = .ok (.iload_n 3, 1) := by decide +kernel
theorem dX10_measure_24 : decode cX10_measure 24 = .ok (.iaload, 1) := by decide +kernel
theorem dX10_measure_25 : decode cX10_measure 25 = .ok (.ifCond .ne 6, 3) := by decide +kernel
theorem dX10_measure_28 : decode cX10_measure 28 = .ok (.bipush (-5), 2) := by decide +kernel
theorem dX10_measure_30 : decode cX10_measure 30 = .ok (.ireturn, 1) := by decide +kernel
theorem dX10_measure_31 : decode cX10_measure 31 = .ok (.aload_n 0, 1) := by decide +kernel
theorem dX10_measure_32 : decode cX10_measure 32 = .ok (.getfield 19, 3) := by decide +kernel
theorem dX10_measure_35 : decode cX10_measure 35 = .ok (.getfield 201, 3) := by decide +kernel
theorem dX10_measure_38 : decode cX10_measure 38 = .ok (.iload_n 3, 1) := by decide +kernel
theorem dX10_measure_39 : decode cX10_measure 39 = .ok (.iaload, 1) := by decide +kernel
theorem dX10_measure_40 : decode cX10_measure 40 = .ok (.iconst 1, 1) := by decide +kernel
theorem dX10_measure_41 : decode cX10_measure 41 = .ok (.if_icmp .ne 16, 3) := by decide +kernel
theorem dX10_measure_44 : decode cX10_measure 44 = .ok (.aload_n 0, 1) := by decide +kernel
theorem dX10_measure_45 : decode cX10_measure 45 = .ok (.getfield 19, 3) := by decide +kernel
theorem dX10_measure_48 : decode cX10_measure 48 = .ok (.getfield 195, 3) := by decide +kernel
theorem dX10_measure_51 : decode cX10_measure 51 = .ok (.iload_n 3, 1) := by decide +kernel
theorem dX10_measure_52 : decode cX10_measure 52 = .ok (.aaload, 1) := by decide +kernel
theorem dX10_measure_53 : decode cX10_measure 53 = .ok (.getfield 68, 3) := by decide +kernel
theorem dX10_measure_56 : decode cX10_measure 56 = .ok (.ireturn, 1) := by decide +kernel
theorem dX10_measure_57 : decode cX10_measure 57 = .ok (.aload_n 0, 1) := by decide +kernel
theorem dX10_measure_58 : decode cX10_measure 58 = .ok (.getfield 37, 3) := by decide +kernel
theorem dX10_measure_61 : decode cX10_measure 61 = .ok (.aload_n 0, 1) := by decide +kernel
theorem dX10_measure_62 : decode cX10_measure 62 = .ok (.getfield 19, 3) := by decide +kernel
theorem dX10_measure_65 : decode cX10_measure 65 = .ok (.getfield 195, 3) := by decide +kernel
theorem dX10_measure_68 : decode cX10_measure 68 = .ok (.iload_n 3, 1) := by decide +kernel
theorem dX10_measure_69 : decode cX10_measure 69 = .ok (.aaload, 1) := by decide +kernel
theorem dX10_measure_70 : decode cX10_measure 70 = .ok (.invokevirtual 98, 3) := by decide +kernel
theorem dX10_measure_73 : decode cX10_measure 73 = .ok (.aload_n 0, 1) := by decide +kernel
theorem dX10_measure_74 : decode cX10_measure 74 = .ok (.getfield 37, 3) := by decide +kernel
theorem dX10_measure_77 : decode cX10_measure 77 = .ok (.getfield 108, 3) := by decide +kernel
theorem dX10_measure_80 : decode cX10_measure 80 = .ok (.invokevirtual 153, 3) := by decide +kernel
theorem dX10_measure_83 : decode cX10_measure 83 = .ok (.ireturn, 1) := by decide +kernel
theorem dX10_image_0 : decode cX10_image 0 = .ok (.iload_n 1, 1) := by decide +kernel
theorem dX10_image_1 : decode cX10_image 1 = .ok (.ifCond .lt 8, 3) := by decide +kernel
theorem dX10_image_4 : decode cX10_image 4 = .ok (.iload_n 1, 1) := by decide +kernel
theorem dX10_image_5 : decode cX10_image 5 = .ok (.iconst 2, 1) := by decide +kernel
theorem dX10_image_6 : decode cX10_image 6 = .ok (.if_icmp .lt 6, 3) := by decide +kernel
theorem dX10_image_9 : decode cX10_image 9 = .ok (.bipush (-2), 2) := by decide +kernel
theorem dX10_image_11 : decode cX10_image 11 = .ok (.ireturn, 1) := by decide +kernel
theorem dX10_image_12 : decode cX10_image 12 = .ok (.aload_n 0, 1) := by decide +kernel
theorem dX10_image_13 : decode cX10_image 13 = .ok (.getfield 23, 3) := by decide +kernel
theorem dX10_image_16 : decode cX10_image 16 = .ok (.iload_n 1, 1) := by decide +kernel
theorem dX10_image_17 : decode cX10_image 17 = .ok (.aaload, 1) := by decide +kernel
theorem dX10_image_18 : decode cX10_image 18 = .ok (.ifnonnull 16, 3) := by decide +kernel
theorem dX10_image_21 : decode cX10_image 21 = .ok (.aload_n 0, 1) := by decide +kernel
theorem dX10_image_22 : decode cX10_image 22 = .ok (.getfield 23, 3) := by decide +kernel
theorem dX10_image_25 : decode cX10_image 25 = .ok (.iload_n 1, 1) := by decide +kernel
theorem dX10_image_26 : decode cX10_image 26 = .ok (.new 16, 3) := by decide +kernel
theorem dX10_image_29 : decode cX10_image 29 = .ok (.dup, 1) := by decide +kernel
theorem dX10_image_30 : decode cX10_image 30 = .ok (.invokespecial 18, 3) := by decide +kernel
theorem dX10_image_33 : decode cX10_image 33 = .ok (.aastore, 1) := by decide +kernel
theorem dX10_image_34 : decode cX10_image 34 = .ok (.aload_n 0, 1) := by decide +kernel
theorem dX10_image_35 : decode cX10_image 35 = .ok (.getfield 23, 3) := by decide +kernel
theorem dX10_image_38 : decode cX10_image 38 = .ok (.iload_n 1, 1) := by decide +kernel
theorem dX10_image_39 : decode cX10_image 39 = .ok (.aaload, 1) := by decide +kernel
theorem dX10_image_40 : decode cX10_image 40 = .ok (.aload_n 0, 1) := by decide +kernel
theorem dX10_image_41 : decode cX10_image 41 = .ok (.getfield 19, 3) := by decide +kernel
theorem dX10_image_44 : decode cX10_image 44 = .ok (.invokevirtual 204, 3) := by decide +kernel
theorem dX10_image_47 : decode cX10_image 47 = .ok (.iconst 1, 1) := by decide +kernel
theorem dX10_image_48 : decode cX10_image 48 = .ok (.ireturn, 1) := by decide +kernel
theorem dX10_restore_0 : decode cX10_restore 0 = .ok (.iload_n 1, 1) := by decide +kernel
theorem dX10_restore_1 : decode cX10_restore 1 = .ok (.ifCond .lt 8, 3) := by decide +kernel
theorem dX10_restore_4 : decode cX10_restore 4 = .ok (.iload_n 1, 1) := by decide +kernel
theorem dX10_restore_5 : decode cX10_restore 5 = .ok (.iconst 2, 1) := by decide +kernel
theorem dX10_restore_6 : decode cX10_restore 6 = .ok (.if_icmp .lt 6, 3) := by decide +kernel
theorem dX10_restore_9 : decode cX10_restore 9 = .ok (.bipush (-2), 2) := by decide +kernel
theorem dX10_restore_11 : decode cX10_restore 11 = .ok (.ireturn, 1) := by decide +kernel
theorem dX10_restore_12 : decode cX10_restore 12 = .ok (.aload_n 0, 1) := by decide +kernel
theorem dX10_restore_13 : decode cX10_restore 13 = .ok (.getfield 23, 3) := by decide +kernel
theorem dX10_restore_16 : decode cX10_restore 16 = .ok (.iload_n 1, 1) := by decide +kernel
theorem dX10_restore_17 : decode cX10_restore 17 = .ok (.aaload, 1) := by decide +kernel
theorem dX10_restore_18 : decode cX10_restore 18 = .ok (.ifnonnull 6, 3) := by decide +kernel
theorem dX10_restore_21 : decode cX10_restore 21 = .ok (.bipush (-3), 2) := by decide +kernel
theorem dX10_restore_23 : decode cX10_restore 23 = .ok (.ireturn, 1) := by decide +kernel
theorem dX10_restore_24 : decode cX10_restore 24 = .ok (.aload_n 0, 1) := by decide +kernel
theorem dX10_restore_25 : decode cX10_restore 25 = .ok (.getfield 19, 3) := by decide +kernel
theorem dX10_restore_28 : decode cX10_restore 28 = .ok (.aload_n 0, 1) := by decide +kernel
theorem dX10_restore_29 : decode cX10_restore 29 = .ok (.getfield 23, 3) := by decide +kernel
theorem dX10_restore_32 : decode cX10_restore 32 = .ok (.iload_n 1, 1) := by decide +kernel
theorem dX10_restore_33 : decode cX10_restore 33 = .ok (.aaload, 1) := by decide +kernel
theorem dX10_restore_34 : decode cX10_restore 34 = .ok (.invokevirtual 204, 3) := by decide +kernel
theorem dX10_restore_37 : decode cX10_restore 37 = .ok (.iconst 1, 1) := by decide +kernel
theorem dX10_restore_38 : decode cX10_restore 38 = .ok (.ireturn, 1) := by decide +kernel
theorem dX10_told_0 : decode cX10_told 0 = .ok (.iload_n 1, 1) := by decide +kernel
theorem dX10_told_1 : decode cX10_told 1 = .ok (.ifCond .ne 11, 3) := by decide +kernel
theorem dX10_told_4 : decode cX10_told 4 = .ok (.aload_n 0, 1) := by decide +kernel
theorem dX10_told_5 : decode cX10_told 5 = .ok (.getfield 10, 3) := by decide +kernel
theorem dX10_told_8 : decode cX10_told 8 = .ok (.getfield 45, 3) := by decide +kernel
theorem dX10_told_11 : decode cX10_told 11 = .ok (.ireturn, 1) := by decide +kernel
theorem dX10_told_12 : decode cX10_told 12 = .ok (.iload_n 1, 1) := by decide +kernel
theorem dX10_told_13 : decode cX10_told 13 = .ok (.bipush 10, 2) := by decide +kernel
theorem dX10_told_15 : decode cX10_told 15 = .ok (.if_icmp .lt 25, 3) := by decide +kernel
theorem dX10_told_18 : decode cX10_told 18 = .ok (.iload_n 1, 1) := by decide +kernel
theorem dX10_told_19 : decode cX10_told 19 = .ok (.bipush 14, 2) := by decide +kernel
theorem dX10_told_21 : decode cX10_told 21 = .ok (.if_icmp .ge 19, 3) := by decide +kernel
theorem dX10_told_24 : decode cX10_told 24 = .ok (.aload_n 0, 1) := by decide +kernel
theorem dX10_told_25 : decode cX10_told 25 = .ok (.getfield 19, 3) := by decide +kernel
theorem dX10_told_28 : decode cX10_told 28 = .ok (.getfield 60, 3) := by decide +kernel
theorem dX10_told_31 : decode cX10_told 31 = .ok (.iload_n 1, 1) := by decide +kernel
theorem dX10_told_32 : decode cX10_told 32 = .ok (.bipush 10, 2) := by decide +kernel
theorem dX10_told_34 : decode cX10_told 34 = .ok (.isub, 1) := by decide +kernel
theorem dX10_told_35 : decode cX10_told 35 = .ok (.aaload, 1) := by decide +kernel
theorem dX10_told_36 : decode cX10_told 36 = .ok (.getfield 68, 3) := by decide +kernel
theorem dX10_told_39 : decode cX10_told 39 = .ok (.ireturn, 1) := by decide +kernel
theorem dX10_told_40 : decode cX10_told 40 = .ok (.iconst 0, 1) := by decide +kernel
theorem dX10_told_41 : decode cX10_told 41 = .ok (.istore_n 2, 1) := by decide +kernel
theorem dX10_told_42 : decode cX10_told 42 = .ok (.iload_n 2, 1) := by decide +kernel
theorem dX10_told_43 : decode cX10_told 43 = .ok (.iconst 3, 1) := by decide +kernel
theorem dX10_told_44 : decode cX10_told 44 = .ok (.if_icmp .ge 42, 3) := by decide +kernel
theorem dX10_told_47 : decode cX10_told 47 = .ok (.iload_n 1, 1) := by decide +kernel
theorem dX10_told_48 : decode cX10_told 48 = .ok (.bipush 20, 2) := by decide +kernel
theorem dX10_told_50 : decode cX10_told 50 = .ok (.isub, 1) := by decide +kernel
theorem dX10_told_51 : decode cX10_told 51 = .ok (.bipush 10, 2) := by decide +kernel
theorem dX10_told_53 : decode cX10_told 53 = .ok (.iload_n 2, 1) := by decide +kernel
theorem dX10_told_54 : decode cX10_told 54 = .ok (.imul, 1) := by decide +kernel
theorem dX10_told_55 : decode cX10_told 55 = .ok (.isub, 1) := by decide +kernel
theorem dX10_told_56 : decode cX10_told 56 = .ok (.istore_n 3, 1) := by decide +kernel
theorem dX10_told_57 : decode cX10_told 57 = .ok (.iload_n 3, 1) := by decide +kernel
theorem dX10_told_58 : decode cX10_told 58 = .ok (.ifCond .lt 22, 3) := by decide +kernel
theorem dX10_told_61 : decode cX10_told 61 = .ok (.iload_n 3, 1) := by decide +kernel
theorem dX10_told_62 : decode cX10_told 62 = .ok (.iconst 4, 1) := by decide +kernel
theorem dX10_told_63 : decode cX10_told 63 = .ok (.if_icmp .ge 17, 3) := by decide +kernel
theorem dX10_told_66 : decode cX10_told 66 = .ok (.aload_n 0, 1) := by decide +kernel
theorem dX10_told_67 : decode cX10_told 67 = .ok (.getfield 19, 3) := by decide +kernel
theorem dX10_told_70 : decode cX10_told 70 = .ok (.getfield 201, 3) := by decide +kernel
theorem dX10_told_73 : decode cX10_told 73 = .ok (.iload_n 2, 1) := by decide +kernel
theorem dX10_told_74 : decode cX10_told 74 = .ok (.iconst 4, 1) := by decide +kernel
theorem dX10_told_75 : decode cX10_told 75 = .ok (.imul, 1) := by decide +kernel
theorem dX10_told_76 : decode cX10_told 76 = .ok (.iload_n 3, 1) := by decide +kernel
theorem dX10_told_77 : decode cX10_told 77 = .ok (.iadd, 1) := by decide +kernel
theorem dX10_told_78 : decode cX10_told 78 = .ok (.iaload, 1) := by decide +kernel
theorem dX10_told_79 : decode cX10_told 79 = .ok (.ireturn, 1) := by decide +kernel
theorem dX10_told_80 : decode cX10_told 80 = .ok (.iinc 2 1, 3) := by decide +kernel
theorem dX10_told_83 : decode cX10_told 83 = .ok (.goto (-41), 3) := by decide +kernel
theorem dX10_told_86 : decode cX10_told 86 = .ok (.bipush (-2), 2) := by decide +kernel
theorem dX10_told_88 : decode cX10_told 88 = .ok (.ireturn, 1) := by decide +kernel
theorem dX10_isIdeal_0 : decode cX10_isIdeal 0 = .ok (.iload_n 0, 1) := by decide +kernel
theorem dX10_isIdeal_1 : decode cX10_isIdeal 1 = .ok (.ifCond .lt 12, 3) := by decide +kernel
theorem dX10_isIdeal_4 : decode cX10_isIdeal 4 = .ok (.iload_n 0, 1) := by decide +kernel
theorem dX10_isIdeal_5 : decode cX10_isIdeal 5 = .ok (.iconst 4, 1) := by decide +kernel
theorem dX10_isIdeal_6 : decode cX10_isIdeal 6 = .ok (.if_icmp .ge 7, 3) := by decide +kernel
theorem dX10_isIdeal_9 : decode cX10_isIdeal 9 = .ok (.iconst 1, 1) := by decide +kernel
theorem dX10_isIdeal_10 : decode cX10_isIdeal 10 = .ok (.goto 4, 3) := by decide +kernel
theorem dX10_isIdeal_13 : decode cX10_isIdeal 13 = .ok (.iconst 0, 1) := by decide +kernel
theorem dX10_isIdeal_14 : decode cX10_isIdeal 14 = .ok (.ireturn, 1) := by decide +kernel
theorem dX10_isPlace_0 : decode cX10_isPlace 0 = .ok (.iload_n 0, 1) := by decide +kernel
theorem dX10_isPlace_1 : decode cX10_isPlace 1 = .ok (.ifCond .lt 21, 3) := by decide +kernel
theorem dX10_isPlace_4 : decode cX10_isPlace 4 = .ok (.iload_n 0, 1) := by decide +kernel
theorem dX10_isPlace_5 : decode cX10_isPlace 5 = .ok (.iconst 3, 1) := by decide +kernel
theorem dX10_isPlace_6 : decode cX10_isPlace 6 = .ok (.if_icmp .ge 16, 3) := by decide +kernel
theorem dX10_isPlace_9 : decode cX10_isPlace 9 = .ok (.iload_n 1, 1) := by decide +kernel
theorem dX10_isPlace_10 : decode cX10_isPlace 10 = .ok (.ifCond .lt 12, 3) := by decide +kernel
theorem dX10_isPlace_13 : decode cX10_isPlace 13 = .ok (.iload_n 1, 1) := by decide +kernel
theorem dX10_isPlace_14 : decode cX10_isPlace 14 = .ok (.iconst 4, 1) := by decide +kernel
theorem dX10_isPlace_15 : decode cX10_isPlace 15 = .ok (.if_icmp .ge 7, 3) := by decide +kernel
theorem dX10_isPlace_18 : decode cX10_isPlace 18 = .ok (.iconst 1, 1) := by decide +kernel
theorem dX10_isPlace_19 : decode cX10_isPlace 19 = .ok (.goto 4, 3) := by decide +kernel
theorem dX10_isPlace_22 : decode cX10_isPlace 22 = .ok (.iconst 0, 1) := by decide +kernel
theorem dX10_isPlace_23 : decode cX10_isPlace 23 = .ok (.ireturn, 1) := by decide +kernel
theorem dX10_refuseDegree_0 : decode cX10_refuseDegree 0 = .ok (.iload_n 0, 1) := by decide +kernel
theorem dX10_refuseDegree_1 : decode cX10_refuseDegree 1 = .ok (.invokestatic 53, 3) := by decide +kernel
theorem dX10_refuseDegree_4 : decode cX10_refuseDegree 4 = .ok (.ifCond .ne 5, 3) := by decide +kernel
theorem dX10_refuseDegree_7 : decode cX10_refuseDegree 7 = .ok (.iconst (-1), 1) := by decide +kernel
theorem dX10_refuseDegree_8 : decode cX10_refuseDegree 8 = .ok (.ireturn, 1) := by decide +kernel
theorem dX10_refuseDegree_9 : decode cX10_refuseDegree 9 = .ok (.iload_n 1, 1) := by decide +kernel
theorem dX10_refuseDegree_10 : decode cX10_refuseDegree 10 = .ok (.ifCond .lt 9, 3) := by decide +kernel
theorem dX10_refuseDegree_13 : decode cX10_refuseDegree 13 = .ok (.iload_n 1, 1) := by decide +kernel
theorem dX10_refuseDegree_14 : decode cX10_refuseDegree 14 = .ok (.bipush 60, 2) := by decide +kernel
theorem dX10_refuseDegree_16 : decode cX10_refuseDegree 16 = .ok (.if_icmp .le 8, 3) := by decide +kernel
theorem dX10_refuseDegree_19 : decode cX10_refuseDegree 19 = .ok (.bipush (-2), 2) := by decide +kernel
theorem dX10_refuseDegree_21 : decode cX10_refuseDegree 21 = .ok (.goto 4, 3) := by decide +kernel
theorem dX10_refuseDegree_24 : decode cX10_refuseDegree 24 = .ok (.iconst 0, 1) := by decide +kernel
theorem dX10_refuseDegree_25 : decode cX10_refuseDegree 25 = .ok (.ireturn, 1) := by decide +kernel
theorem dX10_placeOfBit_0 : decode cX10_placeOfBit 0 = .ok (.iload_n 1, 1) := by decide +kernel
theorem dX10_placeOfBit_1 : decode cX10_placeOfBit 1 = .ok (.istore_n 2, 1) := by decide +kernel
theorem dX10_placeOfBit_2 : decode cX10_placeOfBit 2 = .ok (.iconst 0, 1) := by decide +kernel
theorem dX10_placeOfBit_3 : decode cX10_placeOfBit 3 = .ok (.istore_n 3, 1) := by decide +kernel
theorem dX10_placeOfBit_4 : decode cX10_placeOfBit 4 = .ok (.iload_n 3, 1) := by decide +kernel
theorem dX10_placeOfBit_5 : decode cX10_placeOfBit 5 = .ok (.bipush 16, 2) := by decide +kernel
theorem dX10_placeOfBit_7 : decode cX10_placeOfBit 7 = .ok (.if_icmp .ge 27, 3) := by decide +kernel
theorem dX10_placeOfBit_10 : decode cX10_placeOfBit 10 = .ok (.iload_n 0, 1) := by decide +kernel
theorem dX10_placeOfBit_11 : decode cX10_placeOfBit 11 = .ok (.iload_n 3, 1) := by decide +kernel
theorem dX10_placeOfBit_12 : decode cX10_placeOfBit 12 = .ok (.ishr, 1) := by decide +kernel
theorem dX10_placeOfBit_13 : decode cX10_placeOfBit 13 = .ok (.iconst 1, 1) := by decide +kernel
theorem dX10_placeOfBit_14 : decode cX10_placeOfBit 14 = .ok (.iand, 1) := by decide +kernel
theorem dX10_placeOfBit_15 : decode cX10_placeOfBit 15 = .ok (.iconst 1, 1) := by decide +kernel
theorem dX10_placeOfBit_16 : decode cX10_placeOfBit 16 = .ok (.if_icmp .ne 12, 3) := by decide +kernel
theorem dX10_placeOfBit_19 : decode cX10_placeOfBit 19 = .ok (.iload_n 2, 1) := by decide +kernel
theorem dX10_placeOfBit_20 : decode cX10_placeOfBit 20 = .ok (.ifCond .ne 5, 3) := by decide +kernel
theorem dX10_placeOfBit_23 : decode cX10_placeOfBit 23 = .ok (.iload_n 3, 1) := by decide +kernel
theorem dX10_placeOfBit_24 : decode cX10_placeOfBit 24 = .ok (.ireturn, 1) := by decide +kernel
theorem dX10_placeOfBit_25 : decode cX10_placeOfBit 25 = .ok (.iinc 2 (-1), 3) := by decide +kernel
theorem dX10_placeOfBit_28 : decode cX10_placeOfBit 28 = .ok (.iinc 3 1, 3) := by decide +kernel
theorem dX10_placeOfBit_31 : decode cX10_placeOfBit 31 = .ok (.goto (-27), 3) := by decide +kernel
theorem dX10_placeOfBit_34 : decode cX10_placeOfBit 34 = .ok (.bipush (-6), 2) := by decide +kernel
theorem dX10_placeOfBit_36 : decode cX10_placeOfBit 36 = .ok (.ireturn, 1) := by decide +kernel
theorem dX10_placeIsMissing_0 : decode cX10_placeIsMissing 0 = .ok (.iload_n 1, 1) := by decide +kernel
theorem dX10_placeIsMissing_1 : decode cX10_placeIsMissing 1 = .ok (.ifCond .lt 17, 3) := by decide +kernel
theorem dX10_placeIsMissing_4 : decode cX10_placeIsMissing 4 = .ok (.iload_n 1, 1) := by decide +kernel
theorem dX10_placeIsMissing_5 : decode cX10_placeIsMissing 5 = .ok (.bipush 16, 2) := by decide +kernel
theorem dX10_placeIsMissing_7 : decode cX10_placeIsMissing 7 = .ok (.if_icmp .ge 11, 3) := by decide +kernel
theorem dX10_placeIsMissing_10 : decode cX10_placeIsMissing 10 = .ok (.iload_n 0, 1) := by decide +kernel
theorem dX10_placeIsMissing_11 : decode cX10_placeIsMissing 11 = .ok (.iload_n 1, 1) := by decide +kernel
theorem dX10_placeIsMissing_12 : decode cX10_placeIsMissing 12 = .ok (.ishr, 1) := by decide +kernel
theorem dX10_placeIsMissing_13 : decode cX10_placeIsMissing 13 = .ok (.iconst 1, 1) := by decide +kernel
theorem dX10_placeIsMissing_14 : decode cX10_placeIsMissing 14 = .ok (.iand, 1) := by decide +kernel
theorem dX10_placeIsMissing_15 : decode cX10_placeIsMissing 15 = .ok (.ifCond .ne 7, 3) := by decide +kernel
theorem dX10_placeIsMissing_18 : decode cX10_placeIsMissing 18 = .ok (.iconst 1, 1) := by decide +kernel
theorem dX10_placeIsMissing_19 : decode cX10_placeIsMissing 19 = .ok (.goto 4, 3) := by decide +kernel
theorem dX10_placeIsMissing_22 : decode cX10_placeIsMissing 22 = .ok (.iconst 0, 1) := by decide +kernel
theorem dX10_placeIsMissing_23 : decode cX10_placeIsMissing 23 = .ok (.ireturn, 1) := by decide +kernel
theorem dX2_init_0 : decode cX2_init 0 = .ok (.aload_n 0, 1) := by decide +kernel
theorem dX2_init_1 : decode cX2_init 1 = .ok (.invokespecial 3, 3) := by decide +kernel
theorem dX2_init_4 : decode cX2_init 4 = .ok (.aload_n 0, 1) := by decide +kernel
theorem dX2_init_5 : decode cX2_init 5 = .ok (.bipush 40, 2) := by decide +kernel
theorem dX2_init_7 : decode cX2_init 7 = .ok (.newarray .int, 2) := by decide +kernel
theorem dX2_init_9 : decode cX2_init 9 = .ok (.putfield 9, 3) := by decide +kernel
theorem dX2_init_12 : decode cX2_init 12 = .ok (.return_, 1) := by decide +kernel
theorem dX2_copyFrom_0 : decode cX2_copyFrom 0 = .ok (.aload_n 1, 1) := by decide +kernel
theorem dX2_copyFrom_1 : decode cX2_copyFrom 1 = .ok (.getfield 9, 3) := by decide +kernel
theorem dX2_copyFrom_4 : decode cX2_copyFrom 4 = .ok (.iconst 0, 1) := by decide +kernel
theorem dX2_copyFrom_5 : decode cX2_copyFrom 5 = .ok (.aload_n 0, 1) := by decide +kernel
theorem dX2_copyFrom_6 : decode cX2_copyFrom 6 = .ok (.getfield 9, 3) := by decide +kernel
theorem dX2_copyFrom_9 : decode cX2_copyFrom 9 = .ok (.iconst 0, 1) := by decide +kernel
theorem dX2_copyFrom_10 : decode cX2_copyFrom 10 = .ok (.bipush 40, 2) := by decide +kernel
theorem dX2_copyFrom_12 : decode cX2_copyFrom 12 = .ok (.invokestatic 15, 3) := by decide +kernel
theorem dX2_copyFrom_15 : decode cX2_copyFrom 15 = .ok (.aload_n 0, 1) := by decide +kernel
theorem dX2_copyFrom_16 : decode cX2_copyFrom 16 = .ok (.aload_n 1, 1) := by decide +kernel
theorem dX2_copyFrom_17 : decode cX2_copyFrom 17 = .ok (.getfield 21, 3) := by decide +kernel
theorem dX2_copyFrom_20 : decode cX2_copyFrom 20 = .ok (.putfield 21, 3) := by decide +kernel
theorem dX2_copyFrom_23 : decode cX2_copyFrom 23 = .ok (.return_, 1) := by decide +kernel
theorem dX2_contains_0 : decode cX2_contains 0 = .ok (.iconst 0, 1) := by decide +kernel
theorem dX2_contains_1 : decode cX2_contains 1 = .ok (.istore_n 2, 1) := by decide +kernel
theorem dX2_contains_2 : decode cX2_contains 2 = .ok (.iload_n 2, 1) := by decide +kernel
theorem dX2_contains_3 : decode cX2_contains 3 = .ok (.aload_n 0, 1) := by decide +kernel
theorem dX2_contains_4 : decode cX2_contains 4 = .ok (.getfield 21, 3) := by decide +kernel
theorem dX2_contains_7 : decode cX2_contains 7 = .ok (.if_icmp .ge 24, 3) := by decide +kernel
theorem dX2_contains_10 : decode cX2_contains 10 = .ok (.aload_n 0, 1) := by decide +kernel
theorem dX2_contains_11 : decode cX2_contains 11 = .ok (.getfield 9, 3) := by decide +kernel
theorem dX2_contains_14 : decode cX2_contains 14 = .ok (.iload_n 2, 1) := by decide +kernel
theorem dX2_contains_15 : decode cX2_contains 15 = .ok (.iaload, 1) := by decide +kernel
theorem dX2_contains_16 : decode cX2_contains 16 = .ok (.iload_n 1, 1) := by decide +kernel
theorem dX2_contains_17 : decode cX2_contains 17 = .ok (.invokestatic 25, 3) := by decide +kernel
theorem dX2_contains_20 : decode cX2_contains 20 = .ok (.ifCond .eq 5, 3) := by decide +kernel
theorem dX2_contains_23 : decode cX2_contains 23 = .ok (.iconst 1, 1) := by decide +kernel
theorem dX2_contains_24 : decode cX2_contains 24 = .ok (.ireturn, 1) := by decide +kernel
theorem dX2_contains_25 : decode cX2_contains 25 = .ok (.iinc 2 1, 3) := by decide +kernel
theorem dX2_contains_28 : decode cX2_contains 28 = .ok (.goto (-26), 3) := by decide +kernel
theorem dX2_contains_31 : decode cX2_contains 31 = .ok (.iconst 0, 1) := by decide +kernel
theorem dX2_contains_32 : decode cX2_contains 32 = .ok (.ireturn, 1) := by decide +kernel
theorem dX2_isWithin_0 : decode cX2_isWithin 0 = .ok (.iconst 0, 1) := by decide +kernel
theorem dX2_isWithin_1 : decode cX2_isWithin 1 = .ok (.istore_n 2, 1) := by decide +kernel
theorem dX2_isWithin_2 : decode cX2_isWithin 2 = .ok (.iload_n 2, 1) := by decide +kernel
theorem dX2_isWithin_3 : decode cX2_isWithin 3 = .ok (.aload_n 0, 1) := by decide +kernel
theorem dX2_isWithin_4 : decode cX2_isWithin 4 = .ok (.getfield 21, 3) := by decide +kernel
theorem dX2_isWithin_7 : decode cX2_isWithin 7 = .ok (.if_icmp .ge 24, 3) := by decide +kernel
theorem dX2_isWithin_10 : decode cX2_isWithin 10 = .ok (.aload_n 1, 1) := by decide +kernel
theorem dX2_isWithin_11 : decode cX2_isWithin 11 = .ok (.aload_n 0, 1) := by decide +kernel
theorem dX2_isWithin_12 : decode cX2_isWithin 12 = .ok (.getfield 9, 3) := by decide +kernel
theorem dX2_isWithin_15 : decode cX2_isWithin 15 = .ok (.iload_n 2, 1) := by decide +kernel
theorem dX2_isWithin_16 : decode cX2_isWithin 16 = .ok (.iaload, 1) := by decide +kernel
theorem dX2_isWithin_17 : decode cX2_isWithin 17 = .ok (.invokevirtual 31, 3) := by decide +kernel
theorem dX2_isWithin_20 : decode cX2_isWithin 20 = .ok (.ifCond .ne 5, 3) := by decide +kernel
theorem dX2_isWithin_23 : decode cX2_isWithin 23 = .ok (.iconst 0, 1) := by decide +kernel
theorem dX2_isWithin_24 : decode cX2_isWithin 24 = .ok (.ireturn, 1) := by decide +kernel
theorem dX2_isWithin_25 : decode cX2_isWithin 25 = .ok (.iinc 2 1, 3) := by decide +kernel
theorem dX2_isWithin_28 : decode cX2_isWithin 28 = .ok (.goto (-26), 3) := by decide +kernel
theorem dX2_isWithin_31 : decode cX2_isWithin 31 = .ok (.iconst 1, 1) := by decide +kernel
theorem dX2_isWithin_32 : decode cX2_isWithin 32 = .ok (.ireturn, 1) := by decide +kernel
theorem dX2_isCommonMultiple_0 : decode cX2_isCommonMultiple 0 = .ok (.iconst 0, 1) := by decide +kernel
theorem dX2_isCommonMultiple_1 : decode cX2_isCommonMultiple 1 = .ok (.istore_n 2, 1) := by decide +kernel
theorem dX2_isCommonMultiple_2 : decode cX2_isCommonMultiple 2 = .ok (.iconst 0, 1) := by decide +kernel
theorem dX2_isCommonMultiple_3 : decode cX2_isCommonMultiple 3 = .ok (.istore_n 3, 1) := by decide +kernel
theorem dX2_isCommonMultiple_4 : decode cX2_isCommonMultiple 4 = .ok (.iload_n 3, 1) := by decide +kernel
theorem dX2_isCommonMultiple_5 : decode cX2_isCommonMultiple 5 = .ok (.aload_n 0, 1) := by decide +kernel
theorem dX2_isCommonMultiple_6 : decode cX2_isCommonMultiple 6 = .ok (.getfield 21, 3) := by decide +kernel
theorem dX2_isCommonMultiple_9 : decode cX2_isCommonMultiple 9 = .ok (.if_icmp .ge 47, 3) := by decide +kernel
theorem dX2_isCommonMultiple_12 : decode cX2_isCommonMultiple 12 = .ok (.iload_n 2, 1) := by decide +kernel
theorem dX2_isCommonMultiple_13 : decode cX2_isCommonMultiple 13 = .ok (.bipush 15, 2) := by decide +kernel
theorem dX2_isCommonMultiple_15 : decode cX2_isCommonMultiple 15 = .ok (.if_icmp .eq 41, 3) := by decide +kernel
theorem dX2_isCommonMultiple_18 : decode cX2_isCommonMultiple 18 = .ok (.aload_n 0, 1) := by decide +kernel
theorem dX2_isCommonMultiple_19 : decode cX2_isCommonMultiple 19 = .ok (.getfield 9, 3) := by decide +kernel
theorem dX2_isCommonMultiple_22 : decode cX2_isCommonMultiple 22 = .ok (.iload_n 3, 1) := by decide +kernel
theorem dX2_isCommonMultiple_23 : decode cX2_isCommonMultiple 23 = .ok (.iaload, 1) := by decide +kernel
theorem dX2_isCommonMultiple_24 : decode cX2_isCommonMultiple 24 = .ok (.iload_n 1, 1) := by decide +kernel
theorem dX2_isCommonMultiple_25 : decode cX2_isCommonMultiple 25 = .ok (.invokestatic 25, 3) := by decide +kernel
theorem dX2_isCommonMultiple_28 : decode cX2_isCommonMultiple 28 = .ok (.ifCond .eq 22, 3) := by decide +kernel
theorem dX2_isCommonMultiple_31 : decode cX2_isCommonMultiple 31 = .ok (.iload_n 2, 1) := by decide +kernel
theorem dX2_isCommonMultiple_32 : decode cX2_isCommonMultiple 32 = .ok (.bipush 15, 2) := by decide +kernel
theorem dX2_isCommonMultiple_34 : decode cX2_isCommonMultiple 34 = .ok (.iload_n 1, 1) := by decide +kernel
theorem dX2_isCommonMultiple_35 : decode cX2_isCommonMultiple 35 = .ok (.aload_n 0, 1) := by decide +kernel
theorem dX2_isCommonMultiple_36 : decode cX2_isCommonMultiple 36 = .ok (.getfield 9, 3) := by decide +kernel
theorem dX2_isCommonMultiple_39 : decode cX2_isCommonMultiple 39 = .ok (.iload_n 3, 1) := by decide +kernel
theorem dX2_isCommonMultiple_40 : decode cX2_isCommonMultiple 40 = .ok (.iaload, 1) := by decide +kernel
theorem dX2_isCommonMultiple_41 : decode cX2_isCommonMultiple 41 = .ok (.isub, 1) := by decide +kernel
theorem dX2_isCommonMultiple_42 : decode cX2_isCommonMultiple 42 = .ok (.invokestatic 35, 3) := by decide +kernel
theorem dX2_isCommonMultiple_45 : decode cX2_isCommonMultiple 45 = .ok (.iconst (-1), 1) := by decide +kernel
theorem dX2_isCommonMultiple_46 : decode cX2_isCommonMultiple 46 = .ok (.ixor, 1) := by decide +kernel
theorem dX2_isCommonMultiple_47 : decode cX2_isCommonMultiple 47 = .ok (.iand, 1) := by decide +kernel
theorem dX2_isCommonMultiple_48 : decode cX2_isCommonMultiple 48 = .ok (.ior, 1) := by decide +kernel
theorem dX2_isCommonMultiple_49 : decode cX2_isCommonMultiple 49 = .ok (.istore_n 2, 1) := by decide +kernel
theorem dX2_isCommonMultiple_50 : decode cX2_isCommonMultiple 50 = .ok (.iinc 3 1, 3) := by decide +kernel
theorem dX2_isCommonMultiple_53 : decode cX2_isCommonMultiple 53 = .ok (.goto (-49), 3) := by decide +kernel
theorem dX2_isCommonMultiple_56 : decode cX2_isCommonMultiple 56 = .ok (.iload_n 2, 1) := by decide +kernel
theorem dX2_isCommonMultiple_57 : decode cX2_isCommonMultiple 57 = .ok (.bipush 15, 2) := by decide +kernel
theorem dX2_isCommonMultiple_59 : decode cX2_isCommonMultiple 59 = .ok (.if_icmp .ne 7, 3) := by decide +kernel
theorem dX2_isCommonMultiple_62 : decode cX2_isCommonMultiple 62 = .ok (.iconst 1, 1) := by decide +kernel
theorem dX2_isCommonMultiple_63 : decode cX2_isCommonMultiple 63 = .ok (.goto 4, 3) := by decide +kernel
theorem dX2_isCommonMultiple_66 : decode cX2_isCommonMultiple 66 = .ok (.iconst 0, 1) := by decide +kernel
theorem dX2_isCommonMultiple_67 : decode cX2_isCommonMultiple 67 = .ok (.ireturn, 1) := by decide +kernel
theorem dX2_allDivide_0 : decode cX2_allDivide 0 = .ok (.iconst 0, 1) := by decide +kernel
theorem dX2_allDivide_1 : decode cX2_allDivide 1 = .ok (.istore_n 2, 1) := by decide +kernel
theorem dX2_allDivide_2 : decode cX2_allDivide 2 = .ok (.iload_n 2, 1) := by decide +kernel
theorem dX2_allDivide_3 : decode cX2_allDivide 3 = .ok (.aload_n 0, 1) := by decide +kernel
theorem dX2_allDivide_4 : decode cX2_allDivide 4 = .ok (.getfield 21, 3) := by decide +kernel
theorem dX2_allDivide_7 : decode cX2_allDivide 7 = .ok (.if_icmp .ge 24, 3) := by decide +kernel
theorem dX2_allDivide_10 : decode cX2_allDivide 10 = .ok (.aload_n 0, 1) := by decide +kernel
theorem dX2_allDivide_11 : decode cX2_allDivide 11 = .ok (.getfield 9, 3) := by decide +kernel
theorem dX2_allDivide_14 : decode cX2_allDivide 14 = .ok (.iload_n 2, 1) := by decide +kernel
theorem dX2_allDivide_15 : decode cX2_allDivide 15 = .ok (.iaload, 1) := by decide +kernel
theorem dX2_allDivide_16 : decode cX2_allDivide 16 = .ok (.iload_n 1, 1) := by decide +kernel
theorem dX2_allDivide_17 : decode cX2_allDivide 17 = .ok (.invokestatic 25, 3) := by decide +kernel
theorem dX2_allDivide_20 : decode cX2_allDivide 20 = .ok (.ifCond .ne 5, 3) := by decide +kernel
theorem dX2_allDivide_23 : decode cX2_allDivide 23 = .ok (.iconst 0, 1) := by decide +kernel
theorem dX2_allDivide_24 : decode cX2_allDivide 24 = .ok (.ireturn, 1) := by decide +kernel
theorem dX2_allDivide_25 : decode cX2_allDivide 25 = .ok (.iinc 2 1, 3) := by decide +kernel
theorem dX2_allDivide_28 : decode cX2_allDivide 28 = .ok (.goto (-26), 3) := by decide +kernel
theorem dX2_allDivide_31 : decode cX2_allDivide 31 = .ok (.iconst 1, 1) := by decide +kernel
theorem dX2_allDivide_32 : decode cX2_allDivide 32 = .ok (.ireturn, 1) := by decide +kernel
theorem dX3_isCode_0 : decode cX3_isCode 0 = .ok (.iload_n 0, 1) := by decide +kernel
theorem dX3_isCode_1 : decode cX3_isCode 1 = .ok (.ifCond .lt 47, 3) := by decide +kernel
theorem dX3_isCode_4 : decode cX3_isCode 4 = .ok (.iload_n 0, 1) := by decide +kernel
theorem dX3_isCode_5 : decode cX3_isCode 5 = .ok (.sipush 6666, 3) := by decide +kernel
theorem dX3_isCode_8 : decode cX3_isCode 8 = .ok (.if_icmp .gt 40, 3) := by decide +kernel
theorem dX3_isCode_11 : decode cX3_isCode 11 = .ok (.iload_n 0, 1) := by decide +kernel
theorem dX3_isCode_12 : decode cX3_isCode 12 = .ok (.bipush 100, 2) := by decide +kernel
theorem dX3_isCode_14 : decode cX3_isCode 14 = .ok (.idiv, 1) := by decide +kernel
theorem dX3_isCode_15 : decode cX3_isCode 15 = .ok (.bipush 10, 2) := by decide +kernel
theorem dX3_isCode_17 : decode cX3_isCode 17 = .ok (.irem, 1) := by decide +kernel
theorem dX3_isCode_18 : decode cX3_isCode 18 = .ok (.bipush 6, 2) := by decide +kernel
theorem dX3_isCode_20 : decode cX3_isCode 20 = .ok (.if_icmp .gt 28, 3) := by decide +kernel
theorem dX3_isCode_23 : decode cX3_isCode 23 = .ok (.iload_n 0, 1) := by decide +kernel
theorem dX3_isCode_24 : decode cX3_isCode 24 = .ok (.bipush 10, 2) := by decide +kernel
theorem dX3_isCode_26 : decode cX3_isCode 26 = .ok (.idiv, 1) := by decide +kernel
theorem dX3_isCode_27 : decode cX3_isCode 27 = .ok (.bipush 10, 2) := by decide +kernel
theorem dX3_isCode_29 : decode cX3_isCode 29 = .ok (.irem, 1) := by decide +kernel
theorem dX3_isCode_30 : decode cX3_isCode 30 = .ok (.bipush 6, 2) := by decide +kernel
theorem dX3_isCode_32 : decode cX3_isCode 32 = .ok (.if_icmp .gt 16, 3) := by decide +kernel
theorem dX3_isCode_35 : decode cX3_isCode 35 = .ok (.iload_n 0, 1) := by decide +kernel
theorem dX3_isCode_36 : decode cX3_isCode 36 = .ok (.bipush 10, 2) := by decide +kernel
theorem dX3_isCode_38 : decode cX3_isCode 38 = .ok (.irem, 1) := by decide +kernel
theorem dX3_isCode_39 : decode cX3_isCode 39 = .ok (.bipush 6, 2) := by decide +kernel
theorem dX3_isCode_41 : decode cX3_isCode 41 = .ok (.if_icmp .gt 7, 3) := by decide +kernel
theorem dX3_isCode_44 : decode cX3_isCode 44 = .ok (.iconst 1, 1) := by decide +kernel
theorem dX3_isCode_45 : decode cX3_isCode 45 = .ok (.goto 4, 3) := by decide +kernel
theorem dX3_isCode_48 : decode cX3_isCode 48 = .ok (.iconst 0, 1) := by decide +kernel
theorem dX3_isCode_49 : decode cX3_isCode 49 = .ok (.ireturn, 1) := by decide +kernel
theorem dX3_ofCode_0 : decode cX3_ofCode 0 = .ok (.iload_n 0, 1) := by decide +kernel
theorem dX3_ofCode_1 : decode cX3_ofCode 1 = .ok (.sipush 1000, 3) := by decide +kernel
theorem dX3_ofCode_4 : decode cX3_ofCode 4 = .ok (.idiv, 1) := by decide +kernel
theorem dX3_ofCode_5 : decode cX3_ofCode 5 = .ok (.bipush 10, 2) := by decide +kernel
theorem dX3_ofCode_7 : decode cX3_ofCode 7 = .ok (.irem, 1) := by decide +kernel
theorem dX3_ofCode_8 : decode cX3_ofCode 8 = .ok (.bipush 12, 2) := by decide +kernel
theorem dX3_ofCode_10 : decode cX3_ofCode 10 = .ok (.ishl, 1) := by decide +kernel
theorem dX3_ofCode_11 : decode cX3_ofCode 11 = .ok (.iload_n 0, 1) := by decide +kernel
theorem dX3_ofCode_12 : decode cX3_ofCode 12 = .ok (.bipush 100, 2) := by decide +kernel
theorem dX3_ofCode_14 : decode cX3_ofCode 14 = .ok (.idiv, 1) := by decide +kernel
theorem dX3_ofCode_15 : decode cX3_ofCode 15 = .ok (.bipush 10, 2) := by decide +kernel
theorem dX3_ofCode_17 : decode cX3_ofCode 17 = .ok (.irem, 1) := by decide +kernel
theorem dX3_ofCode_18 : decode cX3_ofCode 18 = .ok (.bipush 8, 2) := by decide +kernel
theorem dX3_ofCode_20 : decode cX3_ofCode 20 = .ok (.ishl, 1) := by decide +kernel
theorem dX3_ofCode_21 : decode cX3_ofCode 21 = .ok (.ior, 1) := by decide +kernel
theorem dX3_ofCode_22 : decode cX3_ofCode 22 = .ok (.iload_n 0, 1) := by decide +kernel
theorem dX3_ofCode_23 : decode cX3_ofCode 23 = .ok (.bipush 10, 2) := by decide +kernel
theorem dX3_ofCode_25 : decode cX3_ofCode 25 = .ok (.idiv, 1) := by decide +kernel
theorem dX3_ofCode_26 : decode cX3_ofCode 26 = .ok (.bipush 10, 2) := by decide +kernel
theorem dX3_ofCode_28 : decode cX3_ofCode 28 = .ok (.irem, 1) := by decide +kernel
theorem dX3_ofCode_29 : decode cX3_ofCode 29 = .ok (.iconst 4, 1) := by decide +kernel
theorem dX3_ofCode_30 : decode cX3_ofCode 30 = .ok (.ishl, 1) := by decide +kernel
theorem dX3_ofCode_31 : decode cX3_ofCode 31 = .ok (.ior, 1) := by decide +kernel
theorem dX3_ofCode_32 : decode cX3_ofCode 32 = .ok (.iload_n 0, 1) := by decide +kernel
theorem dX3_ofCode_33 : decode cX3_ofCode 33 = .ok (.bipush 10, 2) := by decide +kernel
theorem dX3_ofCode_35 : decode cX3_ofCode 35 = .ok (.irem, 1) := by decide +kernel
theorem dX3_ofCode_36 : decode cX3_ofCode 36 = .ok (.ior, 1) := by decide +kernel
theorem dX3_ofCode_37 : decode cX3_ofCode 37 = .ok (.ireturn, 1) := by decide +kernel
theorem dX3_toCode_0 : decode cX3_toCode 0 = .ok (.sipush 1000, 3) := by decide +kernel
theorem dX3_toCode_3 : decode cX3_toCode 3 = .ok (.iload_n 0, 1) := by decide +kernel
theorem dX3_toCode_4 : decode cX3_toCode 4 = .ok (.iconst 0, 1) := by decide +kernel
theorem dX3_toCode_5 : decode cX3_toCode 5 = .ok (.invokestatic 9, 3) := by decide +kernel
theorem dX3_toCode_8 : decode cX3_toCode 8 = .ok (.imul, 1) := by decide +kernel
theorem dX3_toCode_9 : decode cX3_toCode 9 = .ok (.bipush 100, 2) := by decide +kernel
theorem dX3_toCode_11 : decode cX3_toCode 11 = .ok (.iload_n 0, 1) := by decide +kernel
theorem dX3_toCode_12 : decode cX3_toCode 12 = .ok (.iconst 1, 1) := by decide +kernel
theorem dX3_toCode_13 : decode cX3_toCode 13 = .ok (.invokestatic 9, 3) := by decide +kernel
theorem dX3_toCode_16 : decode cX3_toCode 16 = .ok (.imul, 1) := by decide +kernel
theorem dX3_toCode_17 : decode cX3_toCode 17 = .ok (.iadd, 1) := by decide +kernel
theorem dX3_toCode_18 : decode cX3_toCode 18 = .ok (.bipush 10, 2) := by decide +kernel
theorem dX3_toCode_20 : decode cX3_toCode 20 = .ok (.iload_n 0, 1) := by decide +kernel
theorem dX3_toCode_21 : decode cX3_toCode 21 = .ok (.iconst 2, 1) := by decide +kernel
theorem dX3_toCode_22 : decode cX3_toCode 22 = .ok (.invokestatic 9, 3) := by decide +kernel
theorem dX3_toCode_25 : decode cX3_toCode 25 = .ok (.imul, 1) := by decide +kernel
theorem dX3_toCode_26 : decode cX3_toCode 26 = .ok (.iadd, 1) := by decide +kernel
theorem dX3_toCode_27 : decode cX3_toCode 27 = .ok (.iload_n 0, 1) := by decide +kernel
theorem dX3_toCode_28 : decode cX3_toCode 28 = .ok (.iconst 3, 1) := by decide +kernel
theorem dX3_toCode_29 : decode cX3_toCode 29 = .ok (.invokestatic 9, 3) := by decide +kernel
theorem dX3_toCode_32 : decode cX3_toCode 32 = .ok (.iadd, 1) := by decide +kernel
theorem dX3_toCode_33 : decode cX3_toCode 33 = .ok (.ireturn, 1) := by decide +kernel
theorem dX3_exponent_0 : decode cX3_exponent 0 = .ok (.iload_n 0, 1) := by decide +kernel
theorem dX3_exponent_1 : decode cX3_exponent 1 = .ok (.bipush 12, 2) := by decide +kernel
theorem dX3_exponent_3 : decode cX3_exponent 3 = .ok (.iconst 4, 1) := by decide +kernel
theorem dX3_exponent_4 : decode cX3_exponent 4 = .ok (.iload_n 1, 1) := by decide +kernel
theorem dX3_exponent_5 : decode cX3_exponent 5 = .ok (.imul, 1) := by decide +kernel
theorem dX3_exponent_6 : decode cX3_exponent 6 = .ok (.isub, 1) := by decide +kernel
theorem dX3_exponent_7 : decode cX3_exponent 7 = .ok (.ishr, 1) := by decide +kernel
theorem dX3_exponent_8 : decode cX3_exponent 8 = .ok (.bipush 15, 2) := by decide +kernel
theorem dX3_exponent_10 : decode cX3_exponent 10 = .ok (.iand, 1) := by decide +kernel
theorem dX3_exponent_11 : decode cX3_exponent 11 = .ok (.ireturn, 1) := by decide +kernel
theorem dX3_power_0 : decode cX3_power 0 = .ok (.iload_n 1, 1) := by decide +kernel
theorem dX3_power_1 : decode cX3_power 1 = .ok (.bipush 12, 2) := by decide +kernel
theorem dX3_power_3 : decode cX3_power 3 = .ok (.iconst 4, 1) := by decide +kernel
theorem dX3_power_4 : decode cX3_power 4 = .ok (.iload_n 0, 1) := by decide +kernel
theorem dX3_power_5 : decode cX3_power 5 = .ok (.imul, 1) := by decide +kernel
theorem dX3_power_6 : decode cX3_power 6 = .ok (.isub, 1) := by decide +kernel
theorem dX3_power_7 : decode cX3_power 7 = .ok (.ishl, 1) := by decide +kernel
theorem dX3_power_8 : decode cX3_power 8 = .ok (.ireturn, 1) := by decide +kernel
theorem dX3_divides_0 : decode cX3_divides 0 = .ok (.iload_n 1, 1) := by decide +kernel
theorem dX3_divides_1 : decode cX3_divides 1 = .ok (.ldc 15, 2) := by decide +kernel
theorem dX3_divides_3 : decode cX3_divides 3 = .ok (.ior, 1) := by decide +kernel
theorem dX3_divides_4 : decode cX3_divides 4 = .ok (.iload_n 0, 1) := by decide +kernel
theorem dX3_divides_5 : decode cX3_divides 5 = .ok (.isub, 1) := by decide +kernel
theorem dX3_divides_6 : decode cX3_divides 6 = .ok (.ldc 15, 2) := by decide +kernel
theorem dX3_divides_8 : decode cX3_divides 8 = .ok (.iand, 1) := by decide +kernel
theorem dX3_divides_9 : decode cX3_divides 9 = .ok (.ldc 15, 2) := by decide +kernel
theorem dX3_divides_11 : decode cX3_divides 11 = .ok (.if_icmp .ne 7, 3) := by decide +kernel
theorem dX3_divides_14 : decode cX3_divides 14 = .ok (.iconst 1, 1) := by decide +kernel
theorem dX3_divides_15 : decode cX3_divides 15 = .ok (.goto 4, 3) := by decide +kernel
theorem dX3_divides_18 : decode cX3_divides 18 = .ok (.iconst 0, 1) := by decide +kernel
theorem dX3_divides_19 : decode cX3_divides 19 = .ok (.ireturn, 1) := by decide +kernel
theorem dX3_isTooHigh_0 : decode cX3_isTooHigh 0 = .ok (.iload_n 0, 1) := by decide +kernel
theorem dX3_isTooHigh_1 : decode cX3_isTooHigh 1 = .ok (.sipush 4369, 3) := by decide +kernel
theorem dX3_isTooHigh_4 : decode cX3_isTooHigh 4 = .ok (.iadd, 1) := by decide +kernel
theorem dX3_isTooHigh_5 : decode cX3_isTooHigh 5 = .ok (.ldc 15, 2) := by decide +kernel
theorem dX3_isTooHigh_7 : decode cX3_isTooHigh 7 = .ok (.iand, 1) := by decide +kernel
theorem dX3_isTooHigh_8 : decode cX3_isTooHigh 8 = .ok (.ifCond .eq 7, 3) := by decide +kernel
theorem dX3_isTooHigh_11 : decode cX3_isTooHigh 11 = .ok (.iconst 1, 1) := by decide +kernel
theorem dX3_isTooHigh_12 : decode cX3_isTooHigh 12 = .ok (.goto 4, 3) := by decide +kernel
theorem dX3_isTooHigh_15 : decode cX3_isTooHigh 15 = .ok (.iconst 0, 1) := by decide +kernel
theorem dX3_isTooHigh_16 : decode cX3_isTooHigh 16 = .ok (.ireturn, 1) := by decide +kernel
theorem dX3_support_0 : decode cX3_support 0 = .ok (.iconst 0, 1) := by decide +kernel
theorem dX3_support_1 : decode cX3_support 1 = .ok (.istore_n 1, 1) := by decide +kernel
theorem dX3_support_2 : decode cX3_support 2 = .ok (.iconst 0, 1) := by decide +kernel
theorem dX3_support_3 : decode cX3_support 3 = .ok (.istore_n 2, 1) := by decide +kernel
theorem dX3_support_4 : decode cX3_support 4 = .ok (.iload_n 2, 1) := by decide +kernel
theorem dX3_support_5 : decode cX3_support 5 = .ok (.iconst 4, 1) := by decide +kernel
theorem dX3_support_6 : decode cX3_support 6 = .ok (.if_icmp .ge 23, 3) := by decide +kernel
theorem dX3_support_9 : decode cX3_support 9 = .ok (.iload_n 0, 1) := by decide +kernel
theorem dX3_support_10 : decode cX3_support 10 = .ok (.iload_n 2, 1) := by decide +kernel
theorem dX3_support_11 : decode cX3_support 11 = .ok (.invokestatic 9, 3) := by decide +kernel
theorem dX3_support_14 : decode cX3_support 14 = .ok (.ifCond .le 9, 3) := by decide +kernel
theorem dX3_support_17 : decode cX3_support 17 = .ok (.iload_n 1, 1) := by decide +kernel
theorem dX3_support_18 : decode cX3_support 18 = .ok (.iconst 1, 1) := by decide +kernel
theorem dX3_support_19 : decode cX3_support 19 = .ok (.iload_n 2, 1) := by decide +kernel
theorem dX3_support_20 : decode cX3_support 20 = .ok (.ishl, 1) := by decide +kernel
theorem dX3_support_21 : decode cX3_support 21 = .ok (.ior, 1) := by decide +kernel
theorem dX3_support_22 : decode cX3_support 22 = .ok (.istore_n 1, 1) := by decide +kernel
theorem dX3_support_23 : decode cX3_support 23 = .ok (.iinc 2 1, 3) := by decide +kernel
theorem dX3_support_26 : decode cX3_support 26 = .ok (.goto (-22), 3) := by decide +kernel
theorem dX3_support_29 : decode cX3_support 29 = .ok (.iload_n 1, 1) := by decide +kernel
theorem dX3_support_30 : decode cX3_support 30 = .ok (.ireturn, 1) := by decide +kernel
theorem dX3_ofSet_0 : decode cX3_ofSet 0 = .ok (.getstatic 16, 3) := by decide +kernel
theorem dX3_ofSet_3 : decode cX3_ofSet 3 = .ok (.iload_n 0, 1) := by decide +kernel
theorem dX3_ofSet_4 : decode cX3_ofSet 4 = .ok (.bipush 15, 2) := by decide +kernel
theorem dX3_ofSet_6 : decode cX3_ofSet 6 = .ok (.iand, 1) := by decide +kernel
theorem dX3_ofSet_7 : decode cX3_ofSet 7 = .ok (.iaload, 1) := by decide +kernel
theorem dX3_ofSet_8 : decode cX3_ofSet 8 = .ok (.ireturn, 1) := by decide +kernel
theorem dX3_ofDegree_0 : decode cX3_ofDegree 0 = .ok (.iload_n 0, 1) := by decide +kernel
theorem dX3_ofDegree_1 : decode cX3_ofDegree 1 = .ok (.iconst 1, 1) := by decide +kernel
theorem dX3_ofDegree_2 : decode cX3_ofDegree 2 = .ok (.iadd, 1) := by decide +kernel
theorem dX3_ofDegree_3 : decode cX3_ofDegree 3 = .ok (.iload_n 0, 1) := by decide +kernel
theorem dX3_ofDegree_4 : decode cX3_ofDegree 4 = .ok (.iconst 2, 1) := by decide +kernel
theorem dX3_ofDegree_5 : decode cX3_ofDegree 5 = .ok (.iadd, 1) := by decide +kernel
theorem dX3_ofDegree_6 : decode cX3_ofDegree 6 = .ok (.imul, 1) := by decide +kernel
theorem dX3_ofDegree_7 : decode cX3_ofDegree 7 = .ok (.iload_n 0, 1) := by decide +kernel
theorem dX3_ofDegree_8 : decode cX3_ofDegree 8 = .ok (.iconst 3, 1) := by decide +kernel
theorem dX3_ofDegree_9 : decode cX3_ofDegree 9 = .ok (.iadd, 1) := by decide +kernel
theorem dX3_ofDegree_10 : decode cX3_ofDegree 10 = .ok (.imul, 1) := by decide +kernel
theorem dX3_ofDegree_11 : decode cX3_ofDegree 11 = .ok (.bipush 6, 2) := by decide +kernel
theorem dX3_ofDegree_13 : decode cX3_ofDegree 13 = .ok (.idiv, 1) := by decide +kernel
theorem dX3_ofDegree_14 : decode cX3_ofDegree 14 = .ok (.ireturn, 1) := by decide +kernel
theorem dX4_init_0 : decode cX4_init 0 = .ok (.aload_n 0, 1) := by decide +kernel
theorem dX4_init_1 : decode cX4_init 1 = .ok (.invokespecial 3, 3) := by decide +kernel
theorem dX4_init_4 : decode cX4_init 4 = .ok (.aload_n 0, 1) := by decide +kernel
theorem dX4_init_5 : decode cX4_init 5 = .ok (.bipush 60, 2) := by decide +kernel
theorem dX4_init_7 : decode cX4_init 7 = .ok (.newarray .int, 2) := by decide +kernel
theorem dX4_init_9 : decode cX4_init 9 = .ok (.putfield 9, 3) := by decide +kernel
theorem dX4_init_12 : decode cX4_init 12 = .ok (.aload_n 0, 1) := by decide +kernel
theorem dX4_init_13 : decode cX4_init 13 = .ok (.bipush 60, 2) := by decide +kernel
theorem dX4_init_15 : decode cX4_init 15 = .ok (.newarray .int, 2) := by decide +kernel
theorem dX4_init_17 : decode cX4_init 17 = .ok (.putfield 15, 3) := by decide +kernel
theorem dX4_init_20 : decode cX4_init 20 = .ok (.return_, 1) := by decide +kernel
theorem dX4_append_0 : decode cX4_append 0 = .ok (.aload_n 0, 1) := by decide +kernel
theorem dX4_append_1 : decode cX4_append 1 = .ok (.getfield 18, 3) := by decide +kernel
theorem dX4_append_4 : decode cX4_append 4 = .ok (.aload_n 0, 1) := by decide +kernel
theorem dX4_append_5 : decode cX4_append 5 = .ok (.getfield 15, 3) := by decide +kernel
theorem dX4_append_8 : decode cX4_append 8 = .ok (.arraylength, 1) := by decide +kernel
theorem dX4_append_9 : decode cX4_append 9 = .ok (.if_icmp .lt 5, 3) := by decide +kernel
theorem dX4_append_12 : decode cX4_append 12 = .ok (.iconst 0, 1) := by decide +kernel
theorem dX4_append_13 : decode cX4_append 13 = .ok (.ireturn, 1) := by decide +kernel
theorem dX4_append_14 : decode cX4_append 14 = .ok (.aload_n 0, 1) := by decide +kernel
theorem dX4_append_15 : decode cX4_append 15 = .ok (.getfield 15, 3) := by decide +kernel
theorem dX4_append_18 : decode cX4_append 18 = .ok (.aload_n 0, 1) := by decide +kernel
theorem dX4_append_19 : decode cX4_append 19 = .ok (.getfield 18, 3) := by decide +kernel
theorem dX4_append_22 : decode cX4_append 22 = .ok (.iload_n 1, 1) := by decide +kernel
theorem dX4_append_23 : decode cX4_append 23 = .ok (.iastore, 1) := by decide +kernel
theorem dX4_append_24 : decode cX4_append 24 = .ok (.aload_n 0, 1) := by decide +kernel
theorem dX4_append_25 : decode cX4_append 25 = .ok (.dup, 1) := by decide +kernel
theorem dX4_append_26 : decode cX4_append 26 = .ok (.getfield 18, 3) := by decide +kernel
theorem dX4_append_29 : decode cX4_append 29 = .ok (.iconst 1, 1) := by decide +kernel
theorem dX4_append_30 : decode cX4_append 30 = .ok (.iadd, 1) := by decide +kernel
theorem dX4_append_31 : decode cX4_append 31 = .ok (.putfield 18, 3) := by decide +kernel
theorem dX4_append_34 : decode cX4_append 34 = .ok (.iconst 1, 1) := by decide +kernel
theorem dX4_append_35 : decode cX4_append 35 = .ok (.ireturn, 1) := by decide +kernel
theorem dX4_read_0 : decode cX4_read 0 = .ok (.aload_n 0, 1) := by decide +kernel
theorem dX4_read_1 : decode cX4_read 1 = .ok (.iconst 0, 1) := by decide +kernel
theorem dX4_read_2 : decode cX4_read 2 = .ok (.putfield 22, 3) := by decide +kernel
theorem dX4_read_5 : decode cX4_read 5 = .ok (.aload_n 0, 1) := by decide +kernel
theorem dX4_read_6 : decode cX4_read 6 = .ok (.invokevirtual 25, 3) := by decide +kernel
theorem dX4_read_9 : decode cX4_read 9 = .ok (.iconst 0, 1) := by decide +kernel
theorem dX4_read_10 : decode cX4_read 10 = .ok (.istore_n 1, 1) := by decide +kernel
theorem dX4_read_11 : decode cX4_read 11 = .ok (.iload_n 1, 1) := by decide +kernel
theorem dX4_read_12 : decode cX4_read 12 = .ok (.aload_n 0, 1) := by decide +kernel
theorem dX4_read_13 : decode cX4_read 13 = .ok (.getfield 18, 3) := by decide +kernel
theorem dX4_read_16 : decode cX4_read 16 = .ok (.if_icmp .ge 24, 3) := by decide +kernel
theorem dX4_read_19 : decode cX4_read 19 = .ok (.aload_n 0, 1) := by decide +kernel
theorem dX4_read_20 : decode cX4_read 20 = .ok (.aload_n 0, 1) := by decide +kernel
theorem dX4_read_21 : decode cX4_read 21 = .ok (.getfield 15, 3) := by decide +kernel
theorem dX4_read_24 : decode cX4_read 24 = .ok (.iload_n 1, 1) := by decide +kernel
theorem dX4_read_25 : decode cX4_read 25 = .ok (.iaload, 1) := by decide +kernel
theorem dX4_read_26 : decode cX4_read 26 = .ok (.invokevirtual 28, 3) := by decide +kernel
theorem dX4_read_29 : decode cX4_read 29 = .ok (.ifCond .ne 5, 3) := by decide +kernel
theorem dX4_read_32 : decode cX4_read 32 = .ok (.iload_n 1, 1) := by decide +kernel
theorem dX4_read_33 : decode cX4_read 33 = .ok (.ireturn, 1) := by decide +kernel
theorem dX4_read_34 : decode cX4_read 34 = .ok (.iinc 1 1, 3) := by decide +kernel
theorem dX4_read_37 : decode cX4_read 37 = .ok (.goto (-26), 3) := by decide +kernel
theorem dX4_read_40 : decode cX4_read 40 = .ok (.aload_n 0, 1) := by decide +kernel
theorem dX4_read_41 : decode cX4_read 41 = .ok (.getfield 18, 3) := by decide +kernel
theorem dX4_read_44 : decode cX4_read 44 = .ok (.ifCond .ne 6, 3) := by decide +kernel
theorem dX4_read_47 : decode cX4_read 47 = .ok (.bipush (-6), 2) := by decide +kernel
theorem dX4_read_49 : decode cX4_read 49 = .ok (.ireturn, 1) := by decide +kernel
theorem dX4_read_50 : decode cX4_read 50 = .ok (.aload_n 0, 1) := by decide +kernel
theorem dX4_read_51 : decode cX4_read 51 = .ok (.invokevirtual 32, 3) := by decide +kernel
theorem dX4_read_54 : decode cX4_read 54 = .ok (.ifCond .eq 8, 3) := by decide +kernel
theorem dX4_read_57 : decode cX4_read 57 = .ok (.bipush (-6), 2) := by decide +kernel
theorem dX4_read_59 : decode cX4_read 59 = .ok (.goto 7, 3) := by decide +kernel
theorem dX4_read_62 : decode cX4_read 62 = .ok (.aload_n 0, 1) := by decide +kernel
theorem dX4_read_63 : decode cX4_read 63 = .ok (.getfield 18, 3) := by decide +kernel
theorem dX4_read_66 : decode cX4_read 66 = .ok (.ireturn, 1) := by decide +kernel
theorem dX4_begin_0 : decode cX4_begin 0 = .ok (.aload_n 0, 1) := by decide +kernel
theorem dX4_begin_1 : decode cX4_begin 1 = .ok (.iconst 0, 1) := by decide +kernel
theorem dX4_begin_2 : decode cX4_begin 2 = .ok (.putfield 36, 3) := by decide +kernel
theorem dX4_begin_5 : decode cX4_begin 5 = .ok (.aload_n 0, 1) := by decide +kernel
theorem dX4_begin_6 : decode cX4_begin 6 = .ok (.iconst 0, 1) := by decide +kernel
theorem dX4_begin_7 : decode cX4_begin 7 = .ok (.putfield 39, 3) := by decide +kernel
theorem dX4_begin_10 : decode cX4_begin 10 = .ok (.return_, 1) := by decide +kernel
theorem dX4_accept_0 : decode cX4_accept 0 = .ok (.iload_n 1, 1) := by decide +kernel
theorem dX4_accept_1 : decode cX4_accept 1 = .ok (.bipush 44, 2) := by decide +kernel
theorem dX4_accept_3 : decode cX4_accept 3 = .ok (.if_icmp .ne 8, 3) := by decide +kernel
theorem dX4_accept_6 : decode cX4_accept 6 = .ok (.aload_n 0, 1) := by decide +kernel
theorem dX4_accept_7 : decode cX4_accept 7 = .ok (.invokevirtual 32, 3) := by decide +kernel
theorem dX4_accept_10 : decode cX4_accept 10 = .ok (.ireturn, 1) := by decide +kernel
theorem dX4_accept_11 : decode cX4_accept 11 = .ok (.iload_n 1, 1) := by decide +kernel
theorem dX4_accept_12 : decode cX4_accept 12 = .ok (.bipush 97, 2) := by decide +kernel
theorem dX4_accept_14 : decode cX4_accept 14 = .ok (.if_icmp .lt 18, 3) := by decide +kernel
theorem dX4_accept_17 : decode cX4_accept 17 = .ok (.iload_n 1, 1) := by decide +kernel
theorem dX4_accept_18 : decode cX4_accept 18 = .ok (.bipush 101, 2) := by decide +kernel
theorem dX4_accept_20 : decode cX4_accept 20 = .ok (.if_icmp .ge 12, 3) := by decide +kernel
theorem dX4_accept_23 : decode cX4_accept 23 = .ok (.aload_n 0, 1) := by decide +kernel
theorem dX4_accept_24 : decode cX4_accept 24 = .ok (.iload_n 1, 1) := by decide +kernel
theorem dX4_accept_25 : decode cX4_accept 25 = .ok (.bipush 97, 2) := by decide +kernel
theorem dX4_accept_27 : decode cX4_accept 27 = .ok (.isub, 1) := by decide +kernel
theorem dX4_accept_28 : decode cX4_accept 28 = .ok (.invokevirtual 42, 3) := by decide +kernel
theorem dX4_accept_31 : decode cX4_accept 31 = .ok (.ireturn, 1) := by decide +kernel
theorem dX4_accept_32 : decode cX4_accept 32 = .ok (.iload_n 1, 1) := by decide +kernel
theorem dX4_accept_33 : decode cX4_accept 33 = .ok (.bipush 49, 2) := by decide +kernel
theorem dX4_accept_35 : decode cX4_accept 35 = .ok (.if_icmp .lt 18, 3) := by decide +kernel
theorem dX4_accept_38 : decode cX4_accept 38 = .ok (.iload_n 1, 1) := by decide +kernel
theorem dX4_accept_39 : decode cX4_accept 39 = .ok (.bipush 54, 2) := by decide +kernel
theorem dX4_accept_41 : decode cX4_accept 41 = .ok (.if_icmp .gt 12, 3) := by decide +kernel
theorem dX4_accept_44 : decode cX4_accept 44 = .ok (.aload_n 0, 1) := by decide +kernel
theorem dX4_accept_45 : decode cX4_accept 45 = .ok (.iload_n 1, 1) := by decide +kernel
theorem dX4_accept_46 : decode cX4_accept 46 = .ok (.bipush 48, 2) := by decide +kernel
theorem dX4_accept_48 : decode cX4_accept 48 = .ok (.isub, 1) := by decide +kernel
theorem dX4_accept_49 : decode cX4_accept 49 = .ok (.invokevirtual 45, 3) := by decide +kernel
theorem dX4_accept_52 : decode cX4_accept 52 = .ok (.ireturn, 1) := by decide +kernel
theorem dX4_accept_53 : decode cX4_accept 53 = .ok (.iconst 0, 1) := by decide +kernel
theorem dX4_accept_54 : decode cX4_accept 54 = .ok (.ireturn, 1) := by decide +kernel
theorem dX4_endMonomial_0 : decode cX4_endMonomial 0 = .ok (.aload_n 0, 1) := by decide +kernel
theorem dX4_endMonomial_1 : decode cX4_endMonomial 1 = .ok (.getfield 36, 3) := by decide +kernel
theorem dX4_endMonomial_4 : decode cX4_endMonomial 4 = .ok (.ifCond .eq 15, 3) := by decide +kernel
theorem dX4_endMonomial_7 : decode cX4_endMonomial 7 = .ok (.aload_n 0, 1) := by decide +kernel
theorem dX4_endMonomial_8 : decode cX4_endMonomial 8 = .ok (.getfield 22, 3) := by decide +kernel
theorem dX4_endMonomial_11 : decode cX4_endMonomial 11 = .ok (.aload_n 0, 1) := by decide +kernel
theorem dX4_endMonomial_12 : decode cX4_endMonomial 12 = .ok (.getfield 9, 3) := by decide +kernel
theorem dX4_endMonomial_15 : decode cX4_endMonomial 15 = .ok (.arraylength, 1) := by decide +kernel
theorem dX4_endMonomial_16 : decode cX4_endMonomial 16 = .ok (.if_icmp .lt 5, 3) := by decide +kernel
theorem dX4_endMonomial_19 : decode cX4_endMonomial 19 = .ok (.iconst 0, 1) := by decide +kernel
theorem dX4_endMonomial_20 : decode cX4_endMonomial 20 = .ok (.ireturn, 1) := by decide +kernel
theorem dX4_endMonomial_21 : decode cX4_endMonomial 21 = .ok (.aload_n 0, 1) := by decide +kernel
theorem dX4_endMonomial_22 : decode cX4_endMonomial 22 = .ok (.getfield 9, 3) := by decide +kernel
theorem dX4_endMonomial_25 : decode cX4_endMonomial 25 = .ok (.aload_n 0, 1) := by decide +kernel
theorem dX4_endMonomial_26 : decode cX4_endMonomial 26 = .ok (.getfield 22, 3) := by decide +kernel
theorem dX4_endMonomial_29 : decode cX4_endMonomial 29 = .ok (.aload_n 0, 1) := by decide +kernel
theorem dX4_endMonomial_30 : decode cX4_endMonomial 30 = .ok (.getfield 39, 3) := by decide +kernel
theorem dX4_endMonomial_33 : decode cX4_endMonomial 33 = .ok (.iastore, 1) := by decide +kernel
theorem dX4_endMonomial_34 : decode cX4_endMonomial 34 = .ok (.aload_n 0, 1) := by decide +kernel
theorem dX4_endMonomial_35 : decode cX4_endMonomial 35 = .ok (.dup, 1) := by decide +kernel
theorem dX4_endMonomial_36 : decode cX4_endMonomial 36 = .ok (.getfield 22, 3) := by decide +kernel
theorem dX4_endMonomial_39 : decode cX4_endMonomial 39 = .ok (.iconst 1, 1) := by decide +kernel
theorem dX4_endMonomial_40 : decode cX4_endMonomial 40 = .ok (.iadd, 1) := by decide +kernel
theorem dX4_endMonomial_41 : decode cX4_endMonomial 41 = .ok (.putfield 22, 3) := by decide +kernel
theorem dX4_endMonomial_44 : decode cX4_endMonomial 44 = .ok (.aload_n 0, 1) := by decide +kernel
theorem dX4_endMonomial_45 : decode cX4_endMonomial 45 = .ok (.invokevirtual 25, 3) := by decide +kernel
theorem dX4_endMonomial_48 : decode cX4_endMonomial 48 = .ok (.iconst 1, 1) := by decide +kernel
theorem dX4_endMonomial_49 : decode cX4_endMonomial 49 = .ok (.ireturn, 1) := by decide +kernel
theorem dX4_acceptLetter_0 : decode cX4_acceptLetter 0 = .ok (.aload_n 0, 1) := by decide +kernel
theorem dX4_acceptLetter_1 : decode cX4_acceptLetter 1 = .ok (.getfield 36, 3) := by decide +kernel
theorem dX4_acceptLetter_4 : decode cX4_acceptLetter 4 = .ok (.iconst 1, 1) := by decide +kernel
theorem dX4_acceptLetter_5 : decode cX4_acceptLetter 5 = .ok (.if_icmp .eq 16, 3) := by decide +kernel
theorem dX4_acceptLetter_8 : decode cX4_acceptLetter 8 = .ok (.aload_n 0, 1) := by decide +kernel
theorem dX4_acceptLetter_9 : decode cX4_acceptLetter 9 = .ok (.getfield 39, 3) := by decide +kernel
theorem dX4_acceptLetter_12 : decode cX4_acceptLetter 12 = .ok (.iload_n 1, 1) := by decide +kernel
theorem dX4_acceptLetter_13 : decode cX4_acceptLetter 13 = .ok (.invokestatic 48, 3) := by decide +kernel
theorem dX4_acceptLetter_16 : decode cX4_acceptLetter 16 = .ok (.bipush 6, 2) := by decide +kernel
theorem dX4_acceptLetter_18 : decode cX4_acceptLetter 18 = .ok (.if_icmp .lt 5, 3) := by decide +kernel
theorem dX4_acceptLetter_21 : decode cX4_acceptLetter 21 = .ok (.iconst 0, 1) := by decide +kernel
theorem dX4_acceptLetter_22 : decode cX4_acceptLetter 22 = .ok (.ireturn, 1) := by decide +kernel
theorem dX4_acceptLetter_23 : decode cX4_acceptLetter 23 = .ok (.aload_n 0, 1) := by decide +kernel
theorem dX4_acceptLetter_24 : decode cX4_acceptLetter 24 = .ok (.iload_n 1, 1) := by decide +kernel
theorem dX4_acceptLetter_25 : decode cX4_acceptLetter 25 = .ok (.putfield 54, 3) := by decide +kernel
theorem dX4_acceptLetter_28 : decode cX4_acceptLetter 28 = .ok (.aload_n 0, 1) := by decide +kernel
theorem dX4_acceptLetter_29 : decode cX4_acceptLetter 29 = .ok (.dup, 1) := by decide +kernel
theorem dX4_acceptLetter_30 : decode cX4_acceptLetter 30 = .ok (.getfield 39, 3) := by decide +kernel
theorem dX4_acceptLetter_33 : decode cX4_acceptLetter 33 = .ok (.iload_n 1, 1) := by decide +kernel
theorem dX4_acceptLetter_34 : decode cX4_acceptLetter 34 = .ok (.iconst 1, 1) := by decide +kernel
theorem dX4_acceptLetter_35 : decode cX4_acceptLetter 35 = .ok (.invokestatic 57, 3) := by decide +kernel
theorem dX4_acceptLetter_38 : decode cX4_acceptLetter 38 = .ok (.iadd, 1) := by decide +kernel
theorem dX4_acceptLetter_39 : decode cX4_acceptLetter 39 = .ok (.putfield 39, 3) := by decide +kernel
theorem dX4_acceptLetter_42 : decode cX4_acceptLetter 42 = .ok (.aload_n 0, 1) := by decide +kernel
theorem dX4_acceptLetter_43 : decode cX4_acceptLetter 43 = .ok (.iconst 2, 1) := by decide +kernel
theorem dX4_acceptLetter_44 : decode cX4_acceptLetter 44 = .ok (.putfield 36, 3) := by decide +kernel
theorem dX4_acceptLetter_47 : decode cX4_acceptLetter 47 = .ok (.iconst 1, 1) := by decide +kernel
theorem dX4_acceptLetter_48 : decode cX4_acceptLetter 48 = .ok (.ireturn, 1) := by decide +kernel
theorem dX4_acceptFigure_0 : decode cX4_acceptFigure 0 = .ok (.aload_n 0, 1) := by decide +kernel
theorem dX4_acceptFigure_1 : decode cX4_acceptFigure 1 = .ok (.getfield 36, 3) := by decide +kernel
theorem dX4_acceptFigure_4 : decode cX4_acceptFigure 4 = .ok (.ifCond .ne 15, 3) := by decide +kernel
theorem dX4_acceptFigure_7 : decode cX4_acceptFigure 7 = .ok (.iload_n 1, 1) := by decide +kernel
theorem dX4_acceptFigure_8 : decode cX4_acceptFigure 8 = .ok (.iconst 1, 1) := by decide +kernel
theorem dX4_acceptFigure_9 : decode cX4_acceptFigure 9 = .ok (.if_icmp .ne 10, 3) := by decide +kernel
theorem dX4_acceptFigure_12 : decode cX4_acceptFigure 12 = .ok (.aload_n 0, 1) := by decide +kernel
theorem dX4_acceptFigure_13 : decode cX4_acceptFigure 13 = .ok (.iconst 1, 1) := by decide +kernel
theorem dX4_acceptFigure_14 : decode cX4_acceptFigure 14 = .ok (.putfield 36, 3) := by decide +kernel
theorem dX4_acceptFigure_17 : decode cX4_acceptFigure 17 = .ok (.iconst 1, 1) := by decide +kernel
theorem dX4_acceptFigure_18 : decode cX4_acceptFigure 18 = .ok (.ireturn, 1) := by decide +kernel
theorem dX4_acceptFigure_19 : decode cX4_acceptFigure 19 = .ok (.iload_n 1, 1) := by decide +kernel
theorem dX4_acceptFigure_20 : decode cX4_acceptFigure 20 = .ok (.iconst 1, 1) := by decide +kernel
theorem dX4_acceptFigure_21 : decode cX4_acceptFigure 21 = .ok (.isub, 1) := by decide +kernel
theorem dX4_acceptFigure_22 : decode cX4_acceptFigure 22 = .ok (.istore_n 2, 1) := by decide +kernel
theorem dX4_acceptFigure_23 : decode cX4_acceptFigure 23 = .ok (.aload_n 0, 1) := by decide +kernel
theorem dX4_acceptFigure_24 : decode cX4_acceptFigure 24 = .ok (.getfield 36, 3) := by decide +kernel
theorem dX4_acceptFigure_27 : decode cX4_acceptFigure 27 = .ok (.iconst 2, 1) := by decide +kernel
theorem dX4_acceptFigure_28 : decode cX4_acceptFigure 28 = .ok (.if_icmp .ne 21, 3) := by decide +kernel
theorem dX4_acceptFigure_31 : decode cX4_acceptFigure 31 = .ok (.aload_n 0, 1) := by decide +kernel
theorem dX4_acceptFigure_32 : decode cX4_acceptFigure 32 = .ok (.getfield 39, 3) := by decide +kernel
theorem dX4_acceptFigure_35 : decode cX4_acceptFigure 35 = .ok (.aload_n 0, 1) := by decide +kernel
theorem dX4_acceptFigure_36 : decode cX4_acceptFigure 36 = .ok (.getfield 54, 3) := by decide +kernel
theorem dX4_acceptFigure_39 : decode cX4_acceptFigure 39 = .ok (.invokestatic 48, 3) := by decide +kernel
theorem dX4_acceptFigure_42 : decode cX4_acceptFigure 42 = .ok (.iload_n 2, 1) := by decide +kernel
theorem dX4_acceptFigure_43 : decode cX4_acceptFigure 43 = .ok (.iadd, 1) := by decide +kernel
theorem dX4_acceptFigure_44 : decode cX4_acceptFigure 44 = .ok (.bipush 6, 2) := by decide +kernel
theorem dX4_acceptFigure_46 : decode cX4_acceptFigure 46 = .ok (.if_icmp .le 5, 3) := by decide +kernel
theorem dX4_acceptFigure_49 : decode cX4_acceptFigure 49 = .ok (.iconst 0, 1) := by decide +kernel
theorem dX4_acceptFigure_50 : decode cX4_acceptFigure 50 = .ok (.ireturn, 1) := by decide +kernel
theorem dX4_acceptFigure_51 : decode cX4_acceptFigure 51 = .ok (.aload_n 0, 1) := by decide +kernel
theorem dX4_acceptFigure_52 : decode cX4_acceptFigure 52 = .ok (.dup, 1) := by decide +kernel
theorem dX4_acceptFigure_53 : decode cX4_acceptFigure 53 = .ok (.getfield 39, 3) := by decide +kernel
theorem dX4_acceptFigure_56 : decode cX4_acceptFigure 56 = .ok (.aload_n 0, 1) := by decide +kernel
theorem dX4_acceptFigure_57 : decode cX4_acceptFigure 57 = .ok (.getfield 54, 3) := by decide +kernel
theorem dX4_acceptFigure_60 : decode cX4_acceptFigure 60 = .ok (.iload_n 2, 1) := by decide +kernel
theorem dX4_acceptFigure_61 : decode cX4_acceptFigure 61 = .ok (.invokestatic 57, 3) := by decide +kernel
theorem dX4_acceptFigure_64 : decode cX4_acceptFigure 64 = .ok (.iadd, 1) := by decide +kernel
theorem dX4_acceptFigure_65 : decode cX4_acceptFigure 65 = .ok (.putfield 39, 3) := by decide +kernel
theorem dX4_acceptFigure_68 : decode cX4_acceptFigure 68 = .ok (.aload_n 0, 1) := by decide +kernel
theorem dX4_acceptFigure_69 : decode cX4_acceptFigure 69 = .ok (.iconst 3, 1) := by decide +kernel
theorem dX4_acceptFigure_70 : decode cX4_acceptFigure 70 = .ok (.putfield 36, 3) := by decide +kernel
theorem dX4_acceptFigure_73 : decode cX4_acceptFigure 73 = .ok (.iconst 1, 1) := by decide +kernel
theorem dX4_acceptFigure_74 : decode cX4_acceptFigure 74 = .ok (.ireturn, 1) := by decide +kernel
theorem dX5_single_0 : decode cX5_single 0 = .ok (.iload_n 1, 1) := by decide +kernel
theorem dX5_single_1 : decode cX5_single 1 = .ok (.ifCond .ne 7, 3) := by decide +kernel
theorem dX5_single_4 : decode cX5_single 4 = .ok (.fconst 0, 1) := by decide +kernel
theorem dX5_single_5 : decode cX5_single 5 = .ok (.goto 8, 3) := by decide +kernel
theorem dX5_single_8 : decode cX5_single 8 = .ok (.iload_n 0, 1) := by decide +kernel
theorem dX5_single_9 : decode cX5_single 9 = .ok (.i2f, 1) := by decide +kernel
theorem dX5_single_10 : decode cX5_single 10 = .ok (.iload_n 1, 1) := by decide +kernel
theorem dX5_single_11 : decode cX5_single 11 = .ok (.i2f, 1) := by decide +kernel
theorem dX5_single_12 : decode cX5_single 12 = .ok (.fdiv, 1) := by decide +kernel
theorem dX5_single_13 : decode cX5_single 13 = .ok (.freturn, 1) := by decide +kernel
theorem dX5_singleBits_0 : decode cX5_singleBits 0 = .ok (.iload_n 0, 1) := by decide +kernel
theorem dX5_singleBits_1 : decode cX5_singleBits 1 = .ok (.iload_n 1, 1) := by decide +kernel
theorem dX5_singleBits_2 : decode cX5_singleBits 2 = .ok (.invokestatic 7, 3) := by decide +kernel
theorem dX5_singleBits_5 : decode cX5_singleBits 5 = .ok (.fstore_n 2, 1) := by decide +kernel
theorem dX5_singleBits_6 : decode cX5_singleBits 6 = .ok (.fload_n 2, 1) := by decide +kernel
theorem dX5_singleBits_7 : decode cX5_singleBits 7 = .ok (.fconst 0, 1) := by decide +kernel
theorem dX5_singleBits_8 : decode cX5_singleBits 8 = .ok (.fcmp .g, 1) := by decide +kernel
theorem dX5_singleBits_9 : decode cX5_singleBits 9 = .ok (.ifCond .gt 5, 3) := by decide +kernel
theorem dX5_singleBits_12 : decode cX5_singleBits 12 = .ok (.lconst 0, 1) := by decide +kernel
theorem dX5_singleBits_13 : decode cX5_singleBits 13 = .ok (.lreturn, 1) := by decide +kernel
theorem dX5_singleBits_14 : decode cX5_singleBits 14 = .ok (.iconst 0, 1) := by decide +kernel
theorem dX5_singleBits_15 : decode cX5_singleBits 15 = .ok (.istore_n 3, 1) := by decide +kernel
theorem dX5_singleBits_16 : decode cX5_singleBits 16 = .ok (.fload_n 2, 1) := by decide +kernel
theorem dX5_singleBits_17 : decode cX5_singleBits 17 = .ok (.ldc 13, 2) := by decide +kernel
theorem dX5_singleBits_19 : decode cX5_singleBits 19 = .ok (.fcmp .g, 1) := by decide +kernel
theorem dX5_singleBits_20 : decode cX5_singleBits 20 = .ok (.ifCond .ge 19, 3) := by decide +kernel
theorem dX5_singleBits_23 : decode cX5_singleBits 23 = .ok (.iload_n 3, 1) := by decide +kernel
theorem dX5_singleBits_24 : decode cX5_singleBits 24 = .ok (.bipush 100, 2) := by decide +kernel
theorem dX5_singleBits_26 : decode cX5_singleBits 26 = .ok (.if_icmp .ge 13, 3) := by decide +kernel
theorem dX5_singleBits_29 : decode cX5_singleBits 29 = .ok (.fload_n 2, 1) := by decide +kernel
theorem dX5_singleBits_30 : decode cX5_singleBits 30 = .ok (.fconst 2, 1) := by decide +kernel
theorem dX5_singleBits_31 : decode cX5_singleBits 31 = .ok (.fmul, 1) := by decide +kernel
theorem dX5_singleBits_32 : decode cX5_singleBits 32 = .ok (.fstore_n 2, 1) := by decide +kernel
theorem dX5_singleBits_33 : decode cX5_singleBits 33 = .ok (.iinc 3 1, 3) := by decide +kernel
theorem dX5_singleBits_36 : decode cX5_singleBits 36 = .ok (.goto (-20), 3) := by decide +kernel
theorem dX5_singleBits_39 : decode cX5_singleBits 39 = .ok (.ldc2_w 14, 3) := by decide +kernel
theorem dX5_singleBits_42 : decode cX5_singleBits 42 = .ok (.iload_n 3, 1) := by decide +kernel
theorem dX5_singleBits_43 : decode cX5_singleBits 43 = .ok (.i2l, 1) := by decide +kernel
theorem dX5_singleBits_44 : decode cX5_singleBits 44 = .ok (.lsub, 1) := by decide +kernel
theorem dX5_singleBits_45 : decode cX5_singleBits 45 = .ok (.ldc2_w 16, 3) := by decide +kernel
theorem dX5_singleBits_48 : decode cX5_singleBits 48 = .ok (.lmul, 1) := by decide +kernel
theorem dX5_singleBits_49 : decode cX5_singleBits 49 = .ok (.fload_n 2, 1) := by decide +kernel
theorem dX5_singleBits_50 : decode cX5_singleBits 50 = .ok (.f2l, 1) := by decide +kernel
theorem dX5_singleBits_51 : decode cX5_singleBits 51 = .ok (.ldc2_w 16, 3) := by decide +kernel
theorem dX5_singleBits_54 : decode cX5_singleBits 54 = .ok (.lsub, 1) := by decide +kernel
theorem dX5_singleBits_55 : decode cX5_singleBits 55 = .ok (.ladd, 1) := by decide +kernel
theorem dX5_singleBits_56 : decode cX5_singleBits 56 = .ok (.lreturn, 1) := by decide +kernel
theorem dX5_doubleBits_0 : decode cX5_doubleBits 0 = .ok (.iload_n 1, 1) := by decide +kernel
theorem dX5_doubleBits_1 : decode cX5_doubleBits 1 = .ok (.ifCond .ne 7, 3) := by decide +kernel
theorem dX5_doubleBits_4 : decode cX5_doubleBits 4 = .ok (.dconst 0, 1) := by decide +kernel
theorem dX5_doubleBits_5 : decode cX5_doubleBits 5 = .ok (.goto 8, 3) := by decide +kernel
theorem dX5_doubleBits_8 : decode cX5_doubleBits 8 = .ok (.iload_n 0, 1) := by decide +kernel
theorem dX5_doubleBits_9 : decode cX5_doubleBits 9 = .ok (.i2d, 1) := by decide +kernel
theorem dX5_doubleBits_10 : decode cX5_doubleBits 10 = .ok (.iload_n 1, 1) := by decide +kernel
theorem dX5_doubleBits_11 : decode cX5_doubleBits 11 = .ok (.i2d, 1) := by decide +kernel
theorem dX5_doubleBits_12 : decode cX5_doubleBits 12 = .ok (.ddiv, 1) := by decide +kernel
theorem dX5_doubleBits_13 : decode cX5_doubleBits 13 = .ok (.dstore_n 2, 1) := by decide +kernel
theorem dX5_doubleBits_14 : decode cX5_doubleBits 14 = .ok (.dload_n 2, 1) := by decide +kernel
theorem dX5_doubleBits_15 : decode cX5_doubleBits 15 = .ok (.dconst 0, 1) := by decide +kernel
theorem dX5_doubleBits_16 : decode cX5_doubleBits 16 = .ok (.dcmp .g, 1) := by decide +kernel
theorem dX5_doubleBits_17 : decode cX5_doubleBits 17 = .ok (.ifCond .gt 5, 3) := by decide +kernel
theorem dX5_doubleBits_20 : decode cX5_doubleBits 20 = .ok (.lconst 0, 1) := by decide +kernel
theorem dX5_doubleBits_21 : decode cX5_doubleBits 21 = .ok (.lreturn, 1) := by decide +kernel
theorem dX5_doubleBits_22 : decode cX5_doubleBits 22 = .ok (.iconst 0, 1) := by decide +kernel
theorem dX5_doubleBits_23 : decode cX5_doubleBits 23 = .ok (.istore 4, 2) := by decide +kernel
theorem dX5_doubleBits_25 : decode cX5_doubleBits 25 = .ok (.dload_n 2, 1) := by decide +kernel
theorem dX5_doubleBits_26 : decode cX5_doubleBits 26 = .ok (.ldc2_w 18, 3) := by decide +kernel
theorem dX5_doubleBits_29 : decode cX5_doubleBits 29 = .ok (.dcmp .g, 1) := by decide +kernel
theorem dX5_doubleBits_30 : decode cX5_doubleBits 30 = .ok (.ifCond .ge 22, 3) := by decide +kernel
theorem dX5_doubleBits_33 : decode cX5_doubleBits 33 = .ok (.iload 4, 2) := by decide +kernel
theorem dX5_doubleBits_35 : decode cX5_doubleBits 35 = .ok (.bipush 100, 2) := by decide +kernel
theorem dX5_doubleBits_37 : decode cX5_doubleBits 37 = .ok (.if_icmp .ge 15, 3) := by decide +kernel
theorem dX5_doubleBits_40 : decode cX5_doubleBits 40 = .ok (.dload_n 2, 1) := by decide +kernel
theorem dX5_doubleBits_41 : decode cX5_doubleBits 41 = .ok (.ldc2_w 20, 3) := by decide +kernel
theorem dX5_doubleBits_44 : decode cX5_doubleBits 44 = .ok (.dmul, 1) := by decide +kernel
theorem dX5_doubleBits_45 : decode cX5_doubleBits 45 = .ok (.dstore_n 2, 1) := by decide +kernel
theorem dX5_doubleBits_46 : decode cX5_doubleBits 46 = .ok (.iinc 4 1, 3) := by decide +kernel
theorem dX5_doubleBits_49 : decode cX5_doubleBits 49 = .ok (.goto (-24), 3) := by decide +kernel
theorem dX5_doubleBits_52 : decode cX5_doubleBits 52 = .ok (.ldc2_w 22, 3) := by decide +kernel
theorem dX5_doubleBits_55 : decode cX5_doubleBits 55 = .ok (.iload 4, 2) := by decide +kernel
theorem dX5_doubleBits_57 : decode cX5_doubleBits 57 = .ok (.i2l, 1) := by decide +kernel
theorem dX5_doubleBits_58 : decode cX5_doubleBits 58 = .ok (.lsub, 1) := by decide +kernel
theorem dX5_doubleBits_59 : decode cX5_doubleBits 59 = .ok (.ldc2_w 24, 3) := by decide +kernel
theorem dX5_doubleBits_62 : decode cX5_doubleBits 62 = .ok (.lmul, 1) := by decide +kernel
theorem dX5_doubleBits_63 : decode cX5_doubleBits 63 = .ok (.dload_n 2, 1) := by decide +kernel
theorem dX5_doubleBits_64 : decode cX5_doubleBits 64 = .ok (.d2l, 1) := by decide +kernel
theorem dX5_doubleBits_65 : decode cX5_doubleBits 65 = .ok (.ldc2_w 24, 3) := by decide +kernel
theorem dX5_doubleBits_68 : decode cX5_doubleBits 68 = .ok (.lsub, 1) := by decide +kernel
theorem dX5_doubleBits_69 : decode cX5_doubleBits 69 = .ok (.ladd, 1) := by decide +kernel
theorem dX5_doubleBits_70 : decode cX5_doubleBits 70 = .ok (.lreturn, 1) := by decide +kernel
theorem dX5_thousandths_0 : decode cX5_thousandths 0 = .ok (.iload_n 0, 1) := by decide +kernel
theorem dX5_thousandths_1 : decode cX5_thousandths 1 = .ok (.iload_n 1, 1) := by decide +kernel
theorem dX5_thousandths_2 : decode cX5_thousandths 2 = .ok (.invokestatic 7, 3) := by decide +kernel
theorem dX5_thousandths_5 : decode cX5_thousandths 5 = .ok (.ldc 26, 2) := by decide +kernel
theorem dX5_thousandths_7 : decode cX5_thousandths 7 = .ok (.fmul, 1) := by decide +kernel
theorem dX5_thousandths_8 : decode cX5_thousandths 8 = .ok (.f2l, 1) := by decide +kernel
theorem dX5_thousandths_9 : decode cX5_thousandths 9 = .ok (.lreturn, 1) := by decide +kernel
theorem dX6_init_0 : decode cX6_init 0 = .ok (.aload_n 0, 1) := by decide +kernel
theorem dX6_init_1 : decode cX6_init 1 = .ok (.invokespecial 5, 3) := by decide +kernel
theorem dX6_init_4 : decode cX6_init 4 = .ok (.aload_n 0, 1) := by decide +kernel
theorem dX6_init_5 : decode cX6_init 5 = .ok (.sipush 343, 3) := by decide +kernel
theorem dX6_init_8 : decode cX6_init 8 = .ok (.newarray .int, 2) := by decide +kernel
theorem dX6_init_10 : decode cX6_init 10 = .ok (.putfield 11, 3) := by decide +kernel
theorem dX6_init_13 : decode cX6_init 13 = .ok (.return_, 1) := by decide +kernel
theorem dX6_becomeNothing_0 : decode cX6_becomeNothing 0 = .ok (.aload_n 0, 1) := by decide +kernel
theorem dX6_becomeNothing_1 : decode cX6_becomeNothing 1 = .ok (.getfield 11, 3) := by decide +kernel
theorem dX6_becomeNothing_4 : decode cX6_becomeNothing 4 = .ok (.bipush 7, 2) := by decide +kernel
theorem dX6_becomeNothing_6 : decode cX6_becomeNothing 6 = .ok (.invokestatic 15, 3) := by decide +kernel
theorem dX6_becomeNothing_9 : decode cX6_becomeNothing 9 = .ok (.return_, 1) := by decide +kernel
theorem dX6_becomeAll_0 : decode cX6_becomeAll 0 = .ok (.aload_n 0, 1) := by decide +kernel
theorem dX6_becomeAll_1 : decode cX6_becomeAll 1 = .ok (.getfield 11, 3) := by decide +kernel
theorem dX6_becomeAll_4 : decode cX6_becomeAll 4 = .ok (.iconst 0, 1) := by decide +kernel
theorem dX6_becomeAll_5 : decode cX6_becomeAll 5 = .ok (.invokestatic 15, 3) := by decide +kernel
theorem dX6_becomeAll_8 : decode cX6_becomeAll 8 = .ok (.return_, 1) := by decide +kernel
theorem dX6_become_0 : decode cX6_become 0 = .ok (.aload_n 0, 1) := by decide +kernel
theorem dX6_become_1 : decode cX6_become 1 = .ok (.invokevirtual 21, 3) := by decide +kernel
theorem dX6_become_4 : decode cX6_become 4 = .ok (.aload_n 0, 1) := by decide +kernel
theorem dX6_become_5 : decode cX6_become 5 = .ok (.aload_n 1, 1) := by decide +kernel
theorem dX6_become_6 : decode cX6_become 6 = .ok (.invokevirtual 24, 3) := by decide +kernel
theorem dX6_become_9 : decode cX6_become 9 = .ok (.aload_n 0, 1) := by decide +kernel
theorem dX6_become_10 : decode cX6_become 10 = .ok (.invokevirtual 28, 3) := by decide +kernel
theorem dX6_become_13 : decode cX6_become 13 = .ok (.return_, 1) := by decide +kernel
theorem dX6_lowerBy_0 : decode cX6_lowerBy 0 = .ok (.iconst 0, 1) := by decide +kernel
theorem dX6_lowerBy_1 : decode cX6_lowerBy 1 = .ok (.istore_n 2, 1) := by decide +kernel
theorem dX6_lowerBy_2 : decode cX6_lowerBy 2 = .ok (.iload_n 2, 1) := by decide +kernel
theorem dX6_lowerBy_3 : decode cX6_lowerBy 3 = .ok (.aload_n 1, 1) := by decide +kernel
theorem dX6_lowerBy_4 : decode cX6_lowerBy 4 = .ok (.getfield 31, 3) := by decide +kernel
theorem dX6_lowerBy_7 : decode cX6_lowerBy 7 = .ok (.if_icmp .ge 19, 3) := by decide +kernel
theorem dX6_lowerBy_10 : decode cX6_lowerBy 10 = .ok (.aload_n 0, 1) := by decide +kernel
theorem dX6_lowerBy_11 : decode cX6_lowerBy 11 = .ok (.aload_n 1, 1) := by decide +kernel
theorem dX6_lowerBy_12 : decode cX6_lowerBy 12 = .ok (.getfield 37, 3) := by decide +kernel
theorem dX6_lowerBy_15 : decode cX6_lowerBy 15 = .ok (.iload_n 2, 1) := by decide +kernel
theorem dX6_lowerBy_16 : decode cX6_lowerBy 16 = .ok (.iaload, 1) := by decide +kernel
theorem dX6_lowerBy_17 : decode cX6_lowerBy 17 = .ok (.invokevirtual 40, 3) := by decide +kernel
theorem dX6_lowerBy_20 : decode cX6_lowerBy 20 = .ok (.iinc 2 1, 3) := by decide +kernel
theorem dX6_lowerBy_23 : decode cX6_lowerBy 23 = .ok (.goto (-21), 3) := by decide +kernel
theorem dX6_lowerBy_26 : decode cX6_lowerBy 26 = .ok (.return_, 1) := by decide +kernel
theorem dX6_lower_0 : decode cX6_lower 0 = .ok (.iload_n 1, 1) := by decide +kernel
theorem dX6_lower_1 : decode cX6_lower 1 = .ok (.invokestatic 44, 3) := by decide +kernel
theorem dX6_lower_4 : decode cX6_lower 4 = .ok (.istore_n 2, 1) := by decide +kernel
theorem dX6_lower_5 : decode cX6_lower 5 = .ok (.aload_n 0, 1) := by decide +kernel
theorem dX6_lower_6 : decode cX6_lower 6 = .ok (.getfield 11, 3) := by decide +kernel
theorem dX6_lower_9 : decode cX6_lower 9 = .ok (.iload_n 2, 1) := by decide +kernel
theorem dX6_lower_10 : decode cX6_lower 10 = .ok (.aload_n 0, 1) := by decide +kernel
theorem dX6_lower_11 : decode cX6_lower 11 = .ok (.getfield 11, 3) := by decide +kernel
theorem dX6_lower_14 : decode cX6_lower 14 = .ok (.iload_n 2, 1) := by decide +kernel
theorem dX6_lower_15 : decode cX6_lower 15 = .ok (.iaload, 1) := by decide +kernel
theorem dX6_lower_16 : decode cX6_lower 16 = .ok (.iload_n 1, 1) := by decide +kernel
theorem dX6_lower_17 : decode cX6_lower 17 = .ok (.iconst 3, 1) := by decide +kernel
theorem dX6_lower_18 : decode cX6_lower 18 = .ok (.invokestatic 48, 3) := by decide +kernel
theorem dX6_lower_21 : decode cX6_lower 21 = .ok (.invokestatic 54, 3) := by decide +kernel
theorem dX6_lower_24 : decode cX6_lower 24 = .ok (.iastore, 1) := by decide +kernel
theorem dX6_lower_25 : decode cX6_lower 25 = .ok (.return_, 1) := by decide +kernel
theorem dX6_raiseBy_0 : decode cX6_raiseBy 0 = .ok (.iconst 0, 1) := by decide +kernel
theorem dX6_raiseBy_1 : decode cX6_raiseBy 1 = .ok (.istore_n 2, 1) := by decide +kernel
theorem dX6_raiseBy_2 : decode cX6_raiseBy 2 = .ok (.iload_n 2, 1) := by decide +kernel
theorem dX6_raiseBy_3 : decode cX6_raiseBy 3 = .ok (.sipush 343, 3) := by decide +kernel
theorem dX6_raiseBy_6 : decode cX6_raiseBy 6 = .ok (.if_icmp .ge 30, 3) := by decide +kernel
theorem dX6_raiseBy_9 : decode cX6_raiseBy 9 = .ok (.aload_n 0, 1) := by decide +kernel
theorem dX6_raiseBy_10 : decode cX6_raiseBy 10 = .ok (.getfield 11, 3) := by decide +kernel
theorem dX6_raiseBy_13 : decode cX6_raiseBy 13 = .ok (.iload_n 2, 1) := by decide +kernel
theorem dX6_raiseBy_14 : decode cX6_raiseBy 14 = .ok (.aload_n 0, 1) := by decide +kernel
theorem dX6_raiseBy_15 : decode cX6_raiseBy 15 = .ok (.getfield 11, 3) := by decide +kernel
theorem dX6_raiseBy_18 : decode cX6_raiseBy 18 = .ok (.iload_n 2, 1) := by decide +kernel
theorem dX6_raiseBy_19 : decode cX6_raiseBy 19 = .ok (.iaload, 1) := by decide +kernel
theorem dX6_raiseBy_20 : decode cX6_raiseBy 20 = .ok (.aload_n 1, 1) := by decide +kernel
theorem dX6_raiseBy_21 : decode cX6_raiseBy 21 = .ok (.getfield 11, 3) := by decide +kernel
theorem dX6_raiseBy_24 : decode cX6_raiseBy 24 = .ok (.iload_n 2, 1) := by decide +kernel
theorem dX6_raiseBy_25 : decode cX6_raiseBy 25 = .ok (.iaload, 1) := by decide +kernel
theorem dX6_raiseBy_26 : decode cX6_raiseBy 26 = .ok (.invokestatic 59, 3) := by decide +kernel
theorem dX6_raiseBy_29 : decode cX6_raiseBy 29 = .ok (.iastore, 1) := by decide +kernel
theorem dX6_raiseBy_30 : decode cX6_raiseBy 30 = .ok (.iinc 2 1, 3) := by decide +kernel
theorem dX6_raiseBy_33 : decode cX6_raiseBy 33 = .ok (.goto (-31), 3) := by decide +kernel
theorem dX6_raiseBy_36 : decode cX6_raiseBy 36 = .ok (.return_, 1) := by decide +kernel
theorem dX6_contains_0 : decode cX6_contains 0 = .ok (.aload_n 0, 1) := by decide +kernel
theorem dX6_contains_1 : decode cX6_contains 1 = .ok (.getfield 11, 3) := by decide +kernel
theorem dX6_contains_4 : decode cX6_contains 4 = .ok (.iload_n 1, 1) := by decide +kernel
theorem dX6_contains_5 : decode cX6_contains 5 = .ok (.invokestatic 44, 3) := by decide +kernel
theorem dX6_contains_8 : decode cX6_contains 8 = .ok (.iaload, 1) := by decide +kernel
theorem dX6_contains_9 : decode cX6_contains 9 = .ok (.bipush 6, 2) := by decide +kernel
theorem dX6_contains_11 : decode cX6_contains 11 = .ok (.iload_n 1, 1) := by decide +kernel
theorem dX6_contains_12 : decode cX6_contains 12 = .ok (.iconst 3, 1) := by decide +kernel
theorem dX6_contains_13 : decode cX6_contains 13 = .ok (.invokestatic 48, 3) := by decide +kernel
theorem dX6_contains_16 : decode cX6_contains 16 = .ok (.invokestatic 54, 3) := by decide +kernel
theorem dX6_contains_19 : decode cX6_contains 19 = .ok (.if_icmp .gt 7, 3) := by decide +kernel
theorem dX6_contains_22 : decode cX6_contains 22 = .ok (.iconst 1, 1) := by decide +kernel
theorem dX6_contains_23 : decode cX6_contains 23 = .ok (.goto 4, 3) := by decide +kernel
theorem dX6_contains_26 : decode cX6_contains 26 = .ok (.iconst 0, 1) := by decide +kernel
theorem dX6_contains_27 : decode cX6_contains 27 = .ok (.ireturn, 1) := by decide +kernel
theorem dX6_cellOf_0 : decode cX6_cellOf 0 = .ok (.bipush 49, 2) := by decide +kernel
theorem dX6_cellOf_2 : decode cX6_cellOf 2 = .ok (.bipush 6, 2) := by decide +kernel
theorem dX6_cellOf_4 : decode cX6_cellOf 4 = .ok (.iload_n 0, 1) := by decide +kernel
theorem dX6_cellOf_5 : decode cX6_cellOf 5 = .ok (.iconst 0, 1) := by decide +kernel
theorem dX6_cellOf_6 : decode cX6_cellOf 6 = .ok (.invokestatic 48, 3) := by decide +kernel
theorem dX6_cellOf_9 : decode cX6_cellOf 9 = .ok (.invokestatic 54, 3) := by decide +kernel
theorem dX6_cellOf_12 : decode cX6_cellOf 12 = .ok (.imul, 1) := by decide +kernel
theorem dX6_cellOf_13 : decode cX6_cellOf 13 = .ok (.bipush 7, 2) := by decide +kernel
theorem dX6_cellOf_15 : decode cX6_cellOf 15 = .ok (.bipush 6, 2) := by decide +kernel
theorem dX6_cellOf_17 : decode cX6_cellOf 17 = .ok (.iload_n 0, 1) := by decide +kernel
theorem dX6_cellOf_18 : decode cX6_cellOf 18 = .ok (.iconst 1, 1) := by decide +kernel
theorem dX6_cellOf_19 : decode cX6_cellOf 19 = .ok (.invokestatic 48, 3) := by decide +kernel
theorem dX6_cellOf_22 : decode cX6_cellOf 22 = .ok (.invokestatic 54, 3) := by decide +kernel
theorem dX6_cellOf_25 : decode cX6_cellOf 25 = .ok (.imul, 1) := by decide +kernel
theorem dX6_cellOf_26 : decode cX6_cellOf 26 = .ok (.iadd, 1) := by decide +kernel
theorem dX6_cellOf_27 : decode cX6_cellOf 27 = .ok (.iconst 1, 1) := by decide +kernel
theorem dX6_cellOf_28 : decode cX6_cellOf 28 = .ok (.bipush 6, 2) := by decide +kernel
theorem dX6_cellOf_30 : decode cX6_cellOf 30 = .ok (.iload_n 0, 1) := by decide +kernel
theorem dX6_cellOf_31 : decode cX6_cellOf 31 = .ok (.iconst 2, 1) := by decide +kernel
theorem dX6_cellOf_32 : decode cX6_cellOf 32 = .ok (.invokestatic 48, 3) := by decide +kernel
theorem dX6_cellOf_35 : decode cX6_cellOf 35 = .ok (.invokestatic 54, 3) := by decide +kernel
theorem dX6_cellOf_38 : decode cX6_cellOf 38 = .ok (.imul, 1) := by decide +kernel
theorem dX6_cellOf_39 : decode cX6_cellOf 39 = .ok (.iadd, 1) := by decide +kernel
theorem dX6_cellOf_40 : decode cX6_cellOf 40 = .ok (.ireturn, 1) := by decide +kernel
theorem dX6_monomialOf_0 : decode cX6_monomialOf 0 = .ok (.iload_n 0, 1) := by decide +kernel
theorem dX6_monomialOf_1 : decode cX6_monomialOf 1 = .ok (.bipush 49, 2) := by decide +kernel
theorem dX6_monomialOf_3 : decode cX6_monomialOf 3 = .ok (.idiv, 1) := by decide +kernel
theorem dX6_monomialOf_4 : decode cX6_monomialOf 4 = .ok (.bipush 12, 2) := by decide +kernel
theorem dX6_monomialOf_6 : decode cX6_monomialOf 6 = .ok (.ishl, 1) := by decide +kernel
theorem dX6_monomialOf_7 : decode cX6_monomialOf 7 = .ok (.iload_n 0, 1) := by decide +kernel
theorem dX6_monomialOf_8 : decode cX6_monomialOf 8 = .ok (.bipush 7, 2) := by decide +kernel
theorem dX6_monomialOf_10 : decode cX6_monomialOf 10 = .ok (.idiv, 1) := by decide +kernel
theorem dX6_monomialOf_11 : decode cX6_monomialOf 11 = .ok (.bipush 7, 2) := by decide +kernel
theorem dX6_monomialOf_13 : decode cX6_monomialOf 13 = .ok (.irem, 1) := by decide +kernel
theorem dX6_monomialOf_14 : decode cX6_monomialOf 14 = .ok (.bipush 8, 2) := by decide +kernel
theorem dX6_monomialOf_16 : decode cX6_monomialOf 16 = .ok (.ishl, 1) := by decide +kernel
theorem dX6_monomialOf_17 : decode cX6_monomialOf 17 = .ok (.ior, 1) := by decide +kernel
theorem dX6_monomialOf_18 : decode cX6_monomialOf 18 = .ok (.iload_n 0, 1) := by decide +kernel
theorem dX6_monomialOf_19 : decode cX6_monomialOf 19 = .ok (.bipush 7, 2) := by decide +kernel
theorem dX6_monomialOf_21 : decode cX6_monomialOf 21 = .ok (.irem, 1) := by decide +kernel
theorem dX6_monomialOf_22 : decode cX6_monomialOf 22 = .ok (.iconst 4, 1) := by decide +kernel
theorem dX6_monomialOf_23 : decode cX6_monomialOf 23 = .ok (.ishl, 1) := by decide +kernel
theorem dX6_monomialOf_24 : decode cX6_monomialOf 24 = .ok (.ior, 1) := by decide +kernel
theorem dX6_monomialOf_25 : decode cX6_monomialOf 25 = .ok (.ireturn, 1) := by decide +kernel
theorem dX6_spreadUp_0 : decode cX6_spreadUp 0 = .ok (.iconst 0, 1) := by decide +kernel
theorem dX6_spreadUp_1 : decode cX6_spreadUp 1 = .ok (.istore_n 1, 1) := by decide +kernel
theorem dX6_spreadUp_2 : decode cX6_spreadUp 2 = .ok (.iload_n 1, 1) := by decide +kernel
theorem dX6_spreadUp_3 : decode cX6_spreadUp 3 = .ok (.sipush 343, 3) := by decide +kernel
theorem dX6_spreadUp_6 : decode cX6_spreadUp 6 = .ok (.if_icmp .ge 29, 3) := by decide +kernel
theorem dX6_spreadUp_9 : decode cX6_spreadUp 9 = .ok (.aload_n 0, 1) := by decide +kernel
theorem dX6_spreadUp_10 : decode cX6_spreadUp 10 = .ok (.getfield 11, 3) := by decide +kernel
theorem dX6_spreadUp_13 : decode cX6_spreadUp 13 = .ok (.iload_n 1, 1) := by decide +kernel
theorem dX6_spreadUp_14 : decode cX6_spreadUp 14 = .ok (.aload_n 0, 1) := by decide +kernel
theorem dX6_spreadUp_15 : decode cX6_spreadUp 15 = .ok (.getfield 11, 3) := by decide +kernel
theorem dX6_spreadUp_18 : decode cX6_spreadUp 18 = .ok (.iload_n 1, 1) := by decide +kernel
theorem dX6_spreadUp_19 : decode cX6_spreadUp 19 = .ok (.iaload, 1) := by decide +kernel
theorem dX6_spreadUp_20 : decode cX6_spreadUp 20 = .ok (.aload_n 0, 1) := by decide +kernel
theorem dX6_spreadUp_21 : decode cX6_spreadUp 21 = .ok (.iload_n 1, 1) := by decide +kernel
theorem dX6_spreadUp_22 : decode cX6_spreadUp 22 = .ok (.invokevirtual 62, 3) := by decide +kernel
theorem dX6_spreadUp_25 : decode cX6_spreadUp 25 = .ok (.invokestatic 54, 3) := by decide +kernel
theorem dX6_spreadUp_28 : decode cX6_spreadUp 28 = .ok (.iastore, 1) := by decide +kernel
theorem dX6_spreadUp_29 : decode cX6_spreadUp 29 = .ok (.iinc 1 1, 3) := by decide +kernel
theorem dX6_spreadUp_32 : decode cX6_spreadUp 32 = .ok (.goto (-30), 3) := by decide +kernel
theorem dX6_spreadUp_35 : decode cX6_spreadUp 35 = .ok (.return_, 1) := by decide +kernel
theorem dX6_spreadDown_0 : decode cX6_spreadDown 0 = .ok (.sipush 342, 3) := by decide +kernel
theorem dX6_spreadDown_3 : decode cX6_spreadDown 3 = .ok (.istore_n 1, 1) := by decide +kernel
theorem dX6_spreadDown_4 : decode cX6_spreadDown 4 = .ok (.iload_n 1, 1) := by decide +kernel
theorem dX6_spreadDown_5 : decode cX6_spreadDown 5 = .ok (.ifCond .lt 29, 3) := by decide +kernel
theorem dX6_spreadDown_8 : decode cX6_spreadDown 8 = .ok (.aload_n 0, 1) := by decide +kernel
theorem dX6_spreadDown_9 : decode cX6_spreadDown 9 = .ok (.getfield 11, 3) := by decide +kernel
theorem dX6_spreadDown_12 : decode cX6_spreadDown 12 = .ok (.iload_n 1, 1) := by decide +kernel
theorem dX6_spreadDown_13 : decode cX6_spreadDown 13 = .ok (.aload_n 0, 1) := by decide +kernel
theorem dX6_spreadDown_14 : decode cX6_spreadDown 14 = .ok (.getfield 11, 3) := by decide +kernel
theorem dX6_spreadDown_17 : decode cX6_spreadDown 17 = .ok (.iload_n 1, 1) := by decide +kernel
theorem dX6_spreadDown_18 : decode cX6_spreadDown 18 = .ok (.iaload, 1) := by decide +kernel
theorem dX6_spreadDown_19 : decode cX6_spreadDown 19 = .ok (.aload_n 0, 1) := by decide +kernel
theorem dX6_spreadDown_20 : decode cX6_spreadDown 20 = .ok (.iload_n 1, 1) := by decide +kernel
theorem dX6_spreadDown_21 : decode cX6_spreadDown 21 = .ok (.invokevirtual 65, 3) := by decide +kernel
theorem dX6_spreadDown_24 : decode cX6_spreadDown 24 = .ok (.invokestatic 59, 3) := by decide +kernel
theorem dX6_spreadDown_27 : decode cX6_spreadDown 27 = .ok (.iastore, 1) := by decide +kernel
theorem dX6_spreadDown_28 : decode cX6_spreadDown 28 = .ok (.iinc 1 (-1), 3) := by decide +kernel
theorem dX6_spreadDown_31 : decode cX6_spreadDown 31 = .ok (.goto (-27), 3) := by decide +kernel
theorem dX6_spreadDown_34 : decode cX6_spreadDown 34 = .ok (.return_, 1) := by decide +kernel
theorem dX6_leastBefore_0 : decode cX6_leastBefore 0 = .ok (.bipush 7, 2) := by decide +kernel
theorem dX6_leastBefore_2 : decode cX6_leastBefore 2 = .ok (.istore_n 2, 1) := by decide +kernel
theorem dX6_leastBefore_3 : decode cX6_leastBefore 3 = .ok (.iload_n 1, 1) := by decide +kernel
theorem dX6_leastBefore_4 : decode cX6_leastBefore 4 = .ok (.bipush 49, 2) := by decide +kernel
theorem dX6_leastBefore_6 : decode cX6_leastBefore 6 = .ok (.if_icmp .lt 13, 3) := by decide +kernel
theorem dX6_leastBefore_9 : decode cX6_leastBefore 9 = .ok (.aload_n 0, 1) := by decide +kernel
theorem dX6_leastBefore_10 : decode cX6_leastBefore 10 = .ok (.getfield 11, 3) := by decide +kernel
theorem dX6_leastBefore_13 : decode cX6_leastBefore 13 = .ok (.iload_n 1, 1) := by decide +kernel
theorem dX6_leastBefore_14 : decode cX6_leastBefore 14 = .ok (.bipush 49, 2) := by decide +kernel
theorem dX6_leastBefore_16 : decode cX6_leastBefore 16 = .ok (.isub, 1) := by decide +kernel
theorem dX6_leastBefore_17 : decode cX6_leastBefore 17 = .ok (.iaload, 1) := by decide +kernel
theorem dX6_leastBefore_18 : decode cX6_leastBefore 18 = .ok (.istore_n 2, 1) := by decide +kernel
theorem dX6_leastBefore_19 : decode cX6_leastBefore 19 = .ok (.iload_n 1, 1) := by decide +kernel
theorem dX6_leastBefore_20 : decode cX6_leastBefore 20 = .ok (.bipush 49, 2) := by decide +kernel
theorem dX6_leastBefore_22 : decode cX6_leastBefore 22 = .ok (.irem, 1) := by decide +kernel
theorem dX6_leastBefore_23 : decode cX6_leastBefore 23 = .ok (.bipush 7, 2) := by decide +kernel
theorem dX6_leastBefore_25 : decode cX6_leastBefore 25 = .ok (.if_icmp .lt 17, 3) := by decide +kernel
theorem dX6_leastBefore_28 : decode cX6_leastBefore 28 = .ok (.iload_n 2, 1) := by decide +kernel
theorem dX6_leastBefore_29 : decode cX6_leastBefore 29 = .ok (.aload_n 0, 1) := by decide +kernel
theorem dX6_leastBefore_30 : decode cX6_leastBefore 30 = .ok (.getfield 11, 3) := by decide +kernel
theorem dX6_leastBefore_33 : decode cX6_leastBefore 33 = .ok (.iload_n 1, 1) := by decide +kernel
theorem dX6_leastBefore_34 : decode cX6_leastBefore 34 = .ok (.bipush 7, 2) := by decide +kernel
theorem dX6_leastBefore_36 : decode cX6_leastBefore 36 = .ok (.isub, 1) := by decide +kernel
theorem dX6_leastBefore_37 : decode cX6_leastBefore 37 = .ok (.iaload, 1) := by decide +kernel
theorem dX6_leastBefore_38 : decode cX6_leastBefore 38 = .ok (.invokestatic 54, 3) := by decide +kernel
theorem dX6_leastBefore_41 : decode cX6_leastBefore 41 = .ok (.istore_n 2, 1) := by decide +kernel
theorem dX6_leastBefore_42 : decode cX6_leastBefore 42 = .ok (.iload_n 1, 1) := by decide +kernel
theorem dX6_leastBefore_43 : decode cX6_leastBefore 43 = .ok (.bipush 7, 2) := by decide +kernel
theorem dX6_leastBefore_45 : decode cX6_leastBefore 45 = .ok (.irem, 1) := by decide +kernel
theorem dX6_leastBefore_46 : decode cX6_leastBefore 46 = .ok (.iconst 1, 1) := by decide +kernel
theorem dX6_leastBefore_47 : decode cX6_leastBefore 47 = .ok (.if_icmp .lt 16, 3) := by decide +kernel
theorem dX6_leastBefore_50 : decode cX6_leastBefore 50 = .ok (.iload_n 2, 1) := by decide +kernel
theorem dX6_leastBefore_51 : decode cX6_leastBefore 51 = .ok (.aload_n 0, 1) := by decide +kernel
theorem dX6_leastBefore_52 : decode cX6_leastBefore 52 = .ok (.getfield 11, 3) := by decide +kernel
theorem dX6_leastBefore_55 : decode cX6_leastBefore 55 = .ok (.iload_n 1, 1) := by decide +kernel
theorem dX6_leastBefore_56 : decode cX6_leastBefore 56 = .ok (.iconst 1, 1) := by decide +kernel
theorem dX6_leastBefore_57 : decode cX6_leastBefore 57 = .ok (.isub, 1) := by decide +kernel
theorem dX6_leastBefore_58 : decode cX6_leastBefore 58 = .ok (.iaload, 1) := by decide +kernel
theorem dX6_leastBefore_59 : decode cX6_leastBefore 59 = .ok (.invokestatic 54, 3) := by decide +kernel
theorem dX6_leastBefore_62 : decode cX6_leastBefore 62 = .ok (.istore_n 2, 1) := by decide +kernel
theorem dX6_leastBefore_63 : decode cX6_leastBefore 63 = .ok (.iload_n 2, 1) := by decide +kernel
theorem dX6_leastBefore_64 : decode cX6_leastBefore 64 = .ok (.ireturn, 1) := by decide +kernel
theorem dX6_mostBehind_0 : decode cX6_mostBehind 0 = .ok (.iconst 0, 1) := by decide +kernel
theorem dX6_mostBehind_1 : decode cX6_mostBehind 1 = .ok (.istore_n 2, 1) := by decide +kernel
theorem dX6_mostBehind_2 : decode cX6_mostBehind 2 = .ok (.iload_n 1, 1) := by decide +kernel
theorem dX6_mostBehind_3 : decode cX6_mostBehind 3 = .ok (.sipush 294, 3) := by decide +kernel
theorem dX6_mostBehind_6 : decode cX6_mostBehind 6 = .ok (.if_icmp .ge 13, 3) := by decide +kernel
theorem dX6_mostBehind_9 : decode cX6_mostBehind 9 = .ok (.aload_n 0, 1) := by decide +kernel
theorem dX6_mostBehind_10 : decode cX6_mostBehind 10 = .ok (.getfield 11, 3) := by decide +kernel
theorem dX6_mostBehind_13 : decode cX6_mostBehind 13 = .ok (.iload_n 1, 1) := by decide +kernel
theorem dX6_mostBehind_14 : decode cX6_mostBehind 14 = .ok (.bipush 49, 2) := by decide +kernel
theorem dX6_mostBehind_16 : decode cX6_mostBehind 16 = .ok (.iadd, 1) := by decide +kernel
theorem dX6_mostBehind_17 : decode cX6_mostBehind 17 = .ok (.iaload, 1) := by decide +kernel
theorem dX6_mostBehind_18 : decode cX6_mostBehind 18 = .ok (.istore_n 2, 1) := by decide +kernel
theorem dX6_mostBehind_19 : decode cX6_mostBehind 19 = .ok (.iload_n 1, 1) := by decide +kernel
theorem dX6_mostBehind_20 : decode cX6_mostBehind 20 = .ok (.bipush 49, 2) := by decide +kernel
theorem dX6_mostBehind_22 : decode cX6_mostBehind 22 = .ok (.irem, 1) := by decide +kernel
theorem dX6_mostBehind_23 : decode cX6_mostBehind 23 = .ok (.bipush 42, 2) := by decide +kernel
theorem dX6_mostBehind_25 : decode cX6_mostBehind 25 = .ok (.if_icmp .ge 17, 3) := by decide +kernel
theorem dX6_mostBehind_28 : decode cX6_mostBehind 28 = .ok (.iload_n 2, 1) := by decide +kernel
theorem dX6_mostBehind_29 : decode cX6_mostBehind 29 = .ok (.aload_n 0, 1) := by decide +kernel
theorem dX6_mostBehind_30 : decode cX6_mostBehind 30 = .ok (.getfield 11, 3) := by decide +kernel
theorem dX6_mostBehind_33 : decode cX6_mostBehind 33 = .ok (.iload_n 1, 1) := by decide +kernel
theorem dX6_mostBehind_34 : decode cX6_mostBehind 34 = .ok (.bipush 7, 2) := by decide +kernel
theorem dX6_mostBehind_36 : decode cX6_mostBehind 36 = .ok (.iadd, 1) := by decide +kernel
theorem dX6_mostBehind_37 : decode cX6_mostBehind 37 = .ok (.iaload, 1) := by decide +kernel
theorem dX6_mostBehind_38 : decode cX6_mostBehind 38 = .ok (.invokestatic 59, 3) := by decide +kernel
theorem dX6_mostBehind_41 : decode cX6_mostBehind 41 = .ok (.istore_n 2, 1) := by decide +kernel
theorem dX6_mostBehind_42 : decode cX6_mostBehind 42 = .ok (.iload_n 1, 1) := by decide +kernel
theorem dX6_mostBehind_43 : decode cX6_mostBehind 43 = .ok (.bipush 7, 2) := by decide +kernel
theorem dX6_mostBehind_45 : decode cX6_mostBehind 45 = .ok (.irem, 1) := by decide +kernel
theorem dX6_mostBehind_46 : decode cX6_mostBehind 46 = .ok (.bipush 6, 2) := by decide +kernel
theorem dX6_mostBehind_48 : decode cX6_mostBehind 48 = .ok (.if_icmp .ge 16, 3) := by decide +kernel
theorem dX6_mostBehind_51 : decode cX6_mostBehind 51 = .ok (.iload_n 2, 1) := by decide +kernel
theorem dX6_mostBehind_52 : decode cX6_mostBehind 52 = .ok (.aload_n 0, 1) := by decide +kernel
theorem dX6_mostBehind_53 : decode cX6_mostBehind 53 = .ok (.getfield 11, 3) := by decide +kernel
theorem dX6_mostBehind_56 : decode cX6_mostBehind 56 = .ok (.iload_n 1, 1) := by decide +kernel
theorem dX6_mostBehind_57 : decode cX6_mostBehind 57 = .ok (.iconst 1, 1) := by decide +kernel
theorem dX6_mostBehind_58 : decode cX6_mostBehind 58 = .ok (.iadd, 1) := by decide +kernel
theorem dX6_mostBehind_59 : decode cX6_mostBehind 59 = .ok (.iaload, 1) := by decide +kernel
theorem dX6_mostBehind_60 : decode cX6_mostBehind 60 = .ok (.invokestatic 59, 3) := by decide +kernel
theorem dX6_mostBehind_63 : decode cX6_mostBehind 63 = .ok (.istore_n 2, 1) := by decide +kernel
theorem dX6_mostBehind_64 : decode cX6_mostBehind 64 = .ok (.iload_n 2, 1) := by decide +kernel
theorem dX6_mostBehind_65 : decode cX6_mostBehind 65 = .ok (.ireturn, 1) := by decide +kernel
theorem dX6_generatorAt_0 : decode cX6_generatorAt 0 = .ok (.aload_n 0, 1) := by decide +kernel
theorem dX6_generatorAt_1 : decode cX6_generatorAt 1 = .ok (.getfield 11, 3) := by decide +kernel
theorem dX6_generatorAt_4 : decode cX6_generatorAt 4 = .ok (.iload_n 1, 1) := by decide +kernel
theorem dX6_generatorAt_5 : decode cX6_generatorAt 5 = .ok (.iaload, 1) := by decide +kernel
theorem dX6_generatorAt_6 : decode cX6_generatorAt 6 = .ok (.aload_n 0, 1) := by decide +kernel
theorem dX6_generatorAt_7 : decode cX6_generatorAt 7 = .ok (.iload_n 1, 1) := by decide +kernel
theorem dX6_generatorAt_8 : decode cX6_generatorAt 8 = .ok (.invokevirtual 62, 3) := by decide +kernel
theorem dX6_generatorAt_11 : decode cX6_generatorAt 11 = .ok (.if_icmp .ge 17, 3) := by decide +kernel
theorem dX6_generatorAt_14 : decode cX6_generatorAt 14 = .ok (.iload_n 1, 1) := by decide +kernel
theorem dX6_generatorAt_15 : decode cX6_generatorAt 15 = .ok (.invokestatic 68, 3) := by decide +kernel
theorem dX6_generatorAt_18 : decode cX6_generatorAt 18 = .ok (.aload_n 0, 1) := by decide +kernel
theorem dX6_generatorAt_19 : decode cX6_generatorAt 19 = .ok (.getfield 11, 3) := by decide +kernel
theorem dX6_generatorAt_22 : decode cX6_generatorAt 22 = .ok (.iload_n 1, 1) := by decide +kernel
theorem dX6_generatorAt_23 : decode cX6_generatorAt 23 = .ok (.iaload, 1) := by decide +kernel
theorem dX6_generatorAt_24 : decode cX6_generatorAt 24 = .ok (.ior, 1) := by decide +kernel
theorem dX6_generatorAt_25 : decode cX6_generatorAt 25 = .ok (.goto 4, 3) := by decide +kernel
theorem dX6_generatorAt_28 : decode cX6_generatorAt 28 = .ok (.iconst (-1), 1) := by decide +kernel
theorem dX6_generatorAt_29 : decode cX6_generatorAt 29 = .ok (.ireturn, 1) := by decide +kernel
theorem dX6_cellInPartOrder_0 : decode cX6_cellInPartOrder 0 = .ok (.bipush 49, 2) := by decide +kernel
theorem dX6_cellInPartOrder_2 : decode cX6_cellInPartOrder 2 = .ok (.iload_n 0, 1) := by decide +kernel
theorem dX6_cellInPartOrder_3 : decode cX6_cellInPartOrder 3 = .ok (.bipush 49, 2) := by decide +kernel
theorem dX6_cellInPartOrder_5 : decode cX6_cellInPartOrder 5 = .ok (.idiv, 1) := by decide +kernel
theorem dX6_cellInPartOrder_6 : decode cX6_cellInPartOrder 6 = .ok (.bipush 6, 2) := by decide +kernel
theorem dX6_cellInPartOrder_8 : decode cX6_cellInPartOrder 8 = .ok (.iadd, 1) := by decide +kernel
theorem dX6_cellInPartOrder_9 : decode cX6_cellInPartOrder 9 = .ok (.bipush 7, 2) := by decide +kernel
theorem dX6_cellInPartOrder_11 : decode cX6_cellInPartOrder 11 = .ok (.irem, 1) := by decide +kernel
theorem dX6_cellInPartOrder_12 : decode cX6_cellInPartOrder 12 = .ok (.imul, 1) := by decide +kernel
theorem dX6_cellInPartOrder_13 : decode cX6_cellInPartOrder 13 = .ok (.bipush 7, 2) := by decide +kernel
theorem dX6_cellInPartOrder_15 : decode cX6_cellInPartOrder 15 = .ok (.iload_n 0, 1) := by decide +kernel
theorem dX6_cellInPartOrder_16 : decode cX6_cellInPartOrder 16 = .ok (.bipush 7, 2) := by decide +kernel
theorem dX6_cellInPartOrder_18 : decode cX6_cellInPartOrder 18 = .ok (.idiv, 1) := by decide +kernel
theorem dX6_cellInPartOrder_19 : decode cX6_cellInPartOrder 19 = .ok (.bipush 6, 2) := by decide +kernel
theorem dX6_cellInPartOrder_21 : decode cX6_cellInPartOrder 21 = .ok (.iadd, 1) := by decide +kernel
theorem dX6_cellInPartOrder_22 : decode cX6_cellInPartOrder 22 = .ok (.bipush 7, 2) := by decide +kernel
theorem dX6_cellInPartOrder_24 : decode cX6_cellInPartOrder 24 = .ok (.irem, 1) := by decide +kernel
theorem dX6_cellInPartOrder_25 : decode cX6_cellInPartOrder 25 = .ok (.imul, 1) := by decide +kernel
theorem dX6_cellInPartOrder_26 : decode cX6_cellInPartOrder 26 = .ok (.iadd, 1) := by decide +kernel
theorem dX6_cellInPartOrder_27 : decode cX6_cellInPartOrder 27 = .ok (.iconst 1, 1) := by decide +kernel
theorem dX6_cellInPartOrder_28 : decode cX6_cellInPartOrder 28 = .ok (.iload_n 0, 1) := by decide +kernel
theorem dX6_cellInPartOrder_29 : decode cX6_cellInPartOrder 29 = .ok (.bipush 6, 2) := by decide +kernel
theorem dX6_cellInPartOrder_31 : decode cX6_cellInPartOrder 31 = .ok (.iadd, 1) := by decide +kernel
theorem dX6_cellInPartOrder_32 : decode cX6_cellInPartOrder 32 = .ok (.bipush 7, 2) := by decide +kernel
theorem dX6_cellInPartOrder_34 : decode cX6_cellInPartOrder 34 = .ok (.irem, 1) := by decide +kernel
theorem dX6_cellInPartOrder_35 : decode cX6_cellInPartOrder 35 = .ok (.imul, 1) := by decide +kernel
theorem dX6_cellInPartOrder_36 : decode cX6_cellInPartOrder 36 = .ok (.iadd, 1) := by decide +kernel
theorem dX6_cellInPartOrder_37 : decode cX6_cellInPartOrder 37 = .ok (.ireturn, 1) := by decide +kernel
theorem dX6_partAt_0 : decode cX6_partAt 0 = .ok (.iload_n 1, 1) := by decide +kernel
theorem dX6_partAt_1 : decode cX6_partAt 1 = .ok (.invokestatic 71, 3) := by decide +kernel
theorem dX6_partAt_4 : decode cX6_partAt 4 = .ok (.istore_n 2, 1) := by decide +kernel
theorem dX6_partAt_5 : decode cX6_partAt 5 = .ok (.aload_n 0, 1) := by decide +kernel
theorem dX6_partAt_6 : decode cX6_partAt 6 = .ok (.getfield 11, 3) := by decide +kernel
theorem dX6_partAt_9 : decode cX6_partAt 9 = .ok (.iload_n 2, 1) := by decide +kernel
theorem dX6_partAt_10 : decode cX6_partAt 10 = .ok (.iaload, 1) := by decide +kernel
theorem dX6_partAt_11 : decode cX6_partAt 11 = .ok (.aload_n 0, 1) := by decide +kernel
theorem dX6_partAt_12 : decode cX6_partAt 12 = .ok (.iload_n 2, 1) := by decide +kernel
theorem dX6_partAt_13 : decode cX6_partAt 13 = .ok (.invokevirtual 65, 3) := by decide +kernel
theorem dX6_partAt_16 : decode cX6_partAt 16 = .ok (.if_icmp .le 20, 3) := by decide +kernel
theorem dX6_partAt_19 : decode cX6_partAt 19 = .ok (.iload_n 1, 1) := by decide +kernel
theorem dX6_partAt_20 : decode cX6_partAt 20 = .ok (.invokestatic 68, 3) := by decide +kernel
theorem dX6_partAt_23 : decode cX6_partAt 23 = .ok (.aload_n 0, 1) := by decide +kernel
theorem dX6_partAt_24 : decode cX6_partAt 24 = .ok (.getfield 11, 3) := by decide +kernel
theorem dX6_partAt_27 : decode cX6_partAt 27 = .ok (.iload_n 2, 1) := by decide +kernel
theorem dX6_partAt_28 : decode cX6_partAt 28 = .ok (.iaload, 1) := by decide +kernel
theorem dX6_partAt_29 : decode cX6_partAt 29 = .ok (.bipush 7, 2) := by decide +kernel
theorem dX6_partAt_31 : decode cX6_partAt 31 = .ok (.irem, 1) := by decide +kernel
theorem dX6_partAt_32 : decode cX6_partAt 32 = .ok (.ior, 1) := by decide +kernel
theorem dX6_partAt_33 : decode cX6_partAt 33 = .ok (.goto 4, 3) := by decide +kernel
theorem dX6_partAt_36 : decode cX6_partAt 36 = .ok (.iconst (-1), 1) := by decide +kernel
theorem dX6_partAt_37 : decode cX6_partAt 37 = .ok (.ireturn, 1) := by decide +kernel
theorem dX6_primes_0 : decode cX6_primes 0 = .ok (.iconst 0, 1) := by decide +kernel
theorem dX6_primes_1 : decode cX6_primes 1 = .ok (.istore_n 1, 1) := by decide +kernel
theorem dX6_primes_2 : decode cX6_primes 2 = .ok (.iconst 0, 1) := by decide +kernel
theorem dX6_primes_3 : decode cX6_primes 3 = .ok (.istore_n 2, 1) := by decide +kernel
theorem dX6_primes_4 : decode cX6_primes 4 = .ok (.iload_n 2, 1) := by decide +kernel
theorem dX6_primes_5 : decode cX6_primes 5 = .ok (.sipush 343, 3) := by decide +kernel
theorem dX6_primes_8 : decode cX6_primes 8 = .ok (.if_icmp .ge 29, 3) := by decide +kernel
theorem dX6_primes_11 : decode cX6_primes 11 = .ok (.aload_n 0, 1) := by decide +kernel
theorem dX6_primes_12 : decode cX6_primes 12 = .ok (.iload_n 2, 1) := by decide +kernel
theorem dX6_primes_13 : decode cX6_primes 13 = .ok (.invokevirtual 74, 3) := by decide +kernel
theorem dX6_primes_16 : decode cX6_primes 16 = .ok (.istore_n 3, 1) := by decide +kernel
theorem dX6_primes_17 : decode cX6_primes 17 = .ok (.iload_n 3, 1) := by decide +kernel
theorem dX6_primes_18 : decode cX6_primes 18 = .ok (.iconst (-1), 1) := by decide +kernel
theorem dX6_primes_19 : decode cX6_primes 19 = .ok (.if_icmp .eq 12, 3) := by decide +kernel
theorem dX6_primes_22 : decode cX6_primes 22 = .ok (.iload_n 1, 1) := by decide +kernel
theorem dX6_primes_23 : decode cX6_primes 23 = .ok (.iconst 1, 1) := by decide +kernel
theorem dX6_primes_24 : decode cX6_primes 24 = .ok (.iload_n 3, 1) := by decide +kernel
theorem dX6_primes_25 : decode cX6_primes 25 = .ok (.invokestatic 77, 3) := by decide +kernel
theorem dX6_primes_28 : decode cX6_primes 28 = .ok (.ishl, 1) := by decide +kernel
theorem dX6_primes_29 : decode cX6_primes 29 = .ok (.ior, 1) := by decide +kernel
theorem dX6_primes_30 : decode cX6_primes 30 = .ok (.istore_n 1, 1) := by decide +kernel
theorem dX6_primes_31 : decode cX6_primes 31 = .ok (.iinc 2 1, 3) := by decide +kernel
theorem dX6_primes_34 : decode cX6_primes 34 = .ok (.goto (-30), 3) := by decide +kernel
theorem dX6_primes_37 : decode cX6_primes 37 = .ok (.iload_n 1, 1) := by decide +kernel
theorem dX6_primes_38 : decode cX6_primes 38 = .ok (.ireturn, 1) := by decide +kernel
theorem dX6_dimension_0 : decode cX6_dimension 0 = .ok (.bipush (-6), 2) := by decide +kernel
theorem dX6_dimension_2 : decode cX6_dimension 2 = .ok (.istore_n 1, 1) := by decide +kernel
theorem dX6_dimension_3 : decode cX6_dimension 3 = .ok (.iconst 0, 1) := by decide +kernel
theorem dX6_dimension_4 : decode cX6_dimension 4 = .ok (.istore_n 2, 1) := by decide +kernel
theorem dX6_dimension_5 : decode cX6_dimension 5 = .ok (.iload_n 2, 1) := by decide +kernel
theorem dX6_dimension_6 : decode cX6_dimension 6 = .ok (.sipush 343, 3) := by decide +kernel
theorem dX6_dimension_9 : decode cX6_dimension 9 = .ok (.if_icmp .ge 34, 3) := by decide +kernel
theorem dX6_dimension_12 : decode cX6_dimension 12 = .ok (.aload_n 0, 1) := by decide +kernel
theorem dX6_dimension_13 : decode cX6_dimension 13 = .ok (.iload_n 2, 1) := by decide +kernel
theorem dX6_dimension_14 : decode cX6_dimension 14 = .ok (.invokevirtual 74, 3) := by decide +kernel
theorem dX6_dimension_17 : decode cX6_dimension 17 = .ok (.istore_n 3, 1) := by decide +kernel
theorem dX6_dimension_18 : decode cX6_dimension 18 = .ok (.iload_n 3, 1) := by decide +kernel
theorem dX6_dimension_19 : decode cX6_dimension 19 = .ok (.iconst (-1), 1) := by decide +kernel
theorem dX6_dimension_20 : decode cX6_dimension 20 = .ok (.if_icmp .eq 17, 3) := by decide +kernel
theorem dX6_dimension_23 : decode cX6_dimension 23 = .ok (.iload_n 1, 1) := by decide +kernel
theorem dX6_dimension_24 : decode cX6_dimension 24 = .ok (.iconst 4, 1) := by decide +kernel
theorem dX6_dimension_25 : decode cX6_dimension 25 = .ok (.iload_n 3, 1) := by decide +kernel
theorem dX6_dimension_26 : decode cX6_dimension 26 = .ok (.invokestatic 77, 3) := by decide +kernel
theorem dX6_dimension_29 : decode cX6_dimension 29 = .ok (.invokestatic 80, 3) := by decide +kernel
theorem dX6_dimension_32 : decode cX6_dimension 32 = .ok (.isub, 1) := by decide +kernel
theorem dX6_dimension_33 : decode cX6_dimension 33 = .ok (.invokestatic 59, 3) := by decide +kernel
theorem dX6_dimension_36 : decode cX6_dimension 36 = .ok (.istore_n 1, 1) := by decide +kernel
theorem dX6_dimension_37 : decode cX6_dimension 37 = .ok (.iinc 2 1, 3) := by decide +kernel
theorem dX6_dimension_40 : decode cX6_dimension 40 = .ok (.goto (-35), 3) := by decide +kernel
theorem dX6_dimension_43 : decode cX6_dimension 43 = .ok (.iload_n 1, 1) := by decide +kernel
theorem dX6_dimension_44 : decode cX6_dimension 44 = .ok (.ireturn, 1) := by decide +kernel
theorem dX6_standardInAll_0 : decode cX6_standardInAll 0 = .ok (.aload_n 0, 1) := by decide +kernel
theorem dX6_standardInAll_1 : decode cX6_standardInAll 1 = .ok (.invokevirtual 85, 3) := by decide +kernel
theorem dX6_standardInAll_4 : decode cX6_standardInAll 4 = .ok (.ifCond .le 6, 3) := by decide +kernel
theorem dX6_standardInAll_7 : decode cX6_standardInAll 7 = .ok (.bipush (-6), 2) := by decide +kernel
theorem dX6_standardInAll_9 : decode cX6_standardInAll 9 = .ok (.ireturn, 1) := by decide +kernel
theorem dX6_standardInAll_10 : decode cX6_standardInAll 10 = .ok (.iconst 0, 1) := by decide +kernel
theorem dX6_standardInAll_11 : decode cX6_standardInAll 11 = .ok (.istore_n 1, 1) := by decide +kernel
theorem dX6_standardInAll_12 : decode cX6_standardInAll 12 = .ok (.iconst 0, 1) := by decide +kernel
theorem dX6_standardInAll_13 : decode cX6_standardInAll 13 = .ok (.istore_n 2, 1) := by decide +kernel
theorem dX6_standardInAll_14 : decode cX6_standardInAll 14 = .ok (.iload_n 2, 1) := by decide +kernel
theorem dX6_standardInAll_15 : decode cX6_standardInAll 15 = .ok (.sipush 343, 3) := by decide +kernel
theorem dX6_standardInAll_18 : decode cX6_standardInAll 18 = .ok (.if_icmp .ge 18, 3) := by decide +kernel
theorem dX6_standardInAll_21 : decode cX6_standardInAll 21 = .ok (.iload_n 1, 1) := by decide +kernel
theorem dX6_standardInAll_22 : decode cX6_standardInAll 22 = .ok (.aload_n 0, 1) := by decide +kernel
theorem dX6_standardInAll_23 : decode cX6_standardInAll 23 = .ok (.getfield 11, 3) := by decide +kernel
theorem dX6_standardInAll_26 : decode cX6_standardInAll 26 = .ok (.iload_n 2, 1) := by decide +kernel
theorem dX6_standardInAll_27 : decode cX6_standardInAll 27 = .ok (.iaload, 1) := by decide +kernel
theorem dX6_standardInAll_28 : decode cX6_standardInAll 28 = .ok (.iadd, 1) := by decide +kernel
theorem dX6_standardInAll_29 : decode cX6_standardInAll 29 = .ok (.istore_n 1, 1) := by decide +kernel
theorem dX6_standardInAll_30 : decode cX6_standardInAll 30 = .ok (.iinc 2 1, 3) := by decide +kernel
theorem dX6_standardInAll_33 : decode cX6_standardInAll 33 = .ok (.goto (-19), 3) := by decide +kernel
theorem dX6_standardInAll_36 : decode cX6_standardInAll 36 = .ok (.iload_n 1, 1) := by decide +kernel
theorem dX6_standardInAll_37 : decode cX6_standardInAll 37 = .ok (.ireturn, 1) := by decide +kernel
theorem dX7_init_0 : decode cX7_init 0 = .ok (.aload_n 0, 1) := by decide +kernel
theorem dX7_init_1 : decode cX7_init 1 = .ok (.invokespecial 3, 3) := by decide +kernel
theorem dX7_init_4 : decode cX7_init 4 = .ok (.aload_n 0, 1) := by decide +kernel
theorem dX7_init_5 : decode cX7_init 5 = .ok (.new 9, 3) := by decide +kernel
theorem dX7_init_8 : decode cX7_init 8 = .ok (.dup, 1) := by decide +kernel
theorem dX7_init_9 : decode cX7_init 9 = .ok (.invokespecial 11, 3) := by decide +kernel
theorem dX7_init_12 : decode cX7_init 12 = .ok (.putfield 12, 3) := by decide +kernel
theorem dX7_init_15 : decode cX7_init 15 = .ok (.aload_n 0, 1) := by decide +kernel
theorem dX7_init_16 : decode cX7_init 16 = .ok (.bipush 25, 2) := by decide +kernel
theorem dX7_init_18 : decode cX7_init 18 = .ok (.newarray .int, 2) := by decide +kernel
theorem dX7_init_20 : decode cX7_init 20 = .ok (.putfield 18, 3) := by decide +kernel
theorem dX7_init_23 : decode cX7_init 23 = .ok (.aload_n 0, 1) := by decide +kernel
theorem dX7_init_24 : decode cX7_init 24 = .ok (.new 22, 3) := by decide +kernel
theorem dX7_init_27 : decode cX7_init 27 = .ok (.dup, 1) := by decide +kernel
theorem dX7_init_28 : decode cX7_init 28 = .ok (.invokespecial 24, 3) := by decide +kernel
theorem dX7_init_31 : decode cX7_init 31 = .ok (.putfield 25, 3) := by decide +kernel
theorem dX7_init_34 : decode cX7_init 34 = .ok (.aload_n 0, 1) := by decide +kernel
theorem dX7_init_35 : decode cX7_init 35 = .ok (.new 29, 3) := by decide +kernel
theorem dX7_init_38 : decode cX7_init 38 = .ok (.dup, 1) := by decide +kernel
theorem dX7_init_39 : decode cX7_init 39 = .ok (.invokespecial 31, 3) := by decide +kernel
theorem dX7_init_42 : decode cX7_init 42 = .ok (.putfield 32, 3) := by decide +kernel
theorem dX7_init_45 : decode cX7_init 45 = .ok (.return_, 1) := by decide +kernel
theorem dX7_look_0 : decode cX7_look 0 = .ok (.aload_n 0, 1) := by decide +kernel
theorem dX7_look_1 : decode cX7_look 1 = .ok (.getfield 12, 3) := by decide +kernel
theorem dX7_look_4 : decode cX7_look 4 = .ok (.aload_n 1, 1) := by decide +kernel
theorem dX7_look_5 : decode cX7_look 5 = .ok (.invokevirtual 36, 3) := by decide +kernel
theorem dX7_look_8 : decode cX7_look 8 = .ok (.return_, 1) := by decide +kernel
theorem dX7_partCount_0 : decode cX7_partCount 0 = .ok (.iconst 0, 1) := by decide +kernel
theorem dX7_partCount_1 : decode cX7_partCount 1 = .ok (.istore_n 1, 1) := by decide +kernel
theorem dX7_partCount_2 : decode cX7_partCount 2 = .ok (.iconst 0, 1) := by decide +kernel
theorem dX7_partCount_3 : decode cX7_partCount 3 = .ok (.istore_n 2, 1) := by decide +kernel
theorem dX7_partCount_4 : decode cX7_partCount 4 = .ok (.iload_n 2, 1) := by decide +kernel
theorem dX7_partCount_5 : decode cX7_partCount 5 = .ok (.sipush 343, 3) := by decide +kernel
theorem dX7_partCount_8 : decode cX7_partCount 8 = .ok (.if_icmp .ge 24, 3) := by decide +kernel
theorem dX7_partCount_11 : decode cX7_partCount 11 = .ok (.aload_n 0, 1) := by decide +kernel
theorem dX7_partCount_12 : decode cX7_partCount 12 = .ok (.getfield 12, 3) := by decide +kernel
theorem dX7_partCount_15 : decode cX7_partCount 15 = .ok (.iload_n 2, 1) := by decide +kernel
theorem dX7_partCount_16 : decode cX7_partCount 16 = .ok (.invokevirtual 40, 3) := by decide +kernel
theorem dX7_partCount_19 : decode cX7_partCount 19 = .ok (.iconst (-1), 1) := by decide +kernel
theorem dX7_partCount_20 : decode cX7_partCount 20 = .ok (.if_icmp .eq 6, 3) := by decide +kernel
theorem dX7_partCount_23 : decode cX7_partCount 23 = .ok (.iinc 1 1, 3) := by decide +kernel
theorem dX7_partCount_26 : decode cX7_partCount 26 = .ok (.iinc 2 1, 3) := by decide +kernel
theorem dX7_partCount_29 : decode cX7_partCount 29 = .ok (.goto (-25), 3) := by decide +kernel
theorem dX7_partCount_32 : decode cX7_partCount 32 = .ok (.iload_n 1, 1) := by decide +kernel
theorem dX7_partCount_33 : decode cX7_partCount 33 = .ok (.ireturn, 1) := by decide +kernel
theorem dX7_partCode_0 : decode cX7_partCode 0 = .ok (.iload_n 1, 1) := by decide +kernel
theorem dX7_partCode_1 : decode cX7_partCode 1 = .ok (.istore_n 2, 1) := by decide +kernel
theorem dX7_partCode_2 : decode cX7_partCode 2 = .ok (.iconst 0, 1) := by decide +kernel
theorem dX7_partCode_3 : decode cX7_partCode 3 = .ok (.istore_n 3, 1) := by decide +kernel
theorem dX7_partCode_4 : decode cX7_partCode 4 = .ok (.iload_n 3, 1) := by decide +kernel
theorem dX7_partCode_5 : decode cX7_partCode 5 = .ok (.sipush 343, 3) := by decide +kernel
theorem dX7_partCode_8 : decode cX7_partCode 8 = .ok (.if_icmp .ge 38, 3) := by decide +kernel
theorem dX7_partCode_11 : decode cX7_partCode 11 = .ok (.aload_n 0, 1) := by decide +kernel
theorem dX7_partCode_12 : decode cX7_partCode 12 = .ok (.getfield 12, 3) := by decide +kernel
theorem dX7_partCode_15 : decode cX7_partCode 15 = .ok (.iload_n 3, 1) := by decide +kernel
theorem dX7_partCode_16 : decode cX7_partCode 16 = .ok (.invokevirtual 40, 3) := by decide +kernel
theorem dX7_partCode_19 : decode cX7_partCode 19 = .ok (.istore 4, 2) := by decide +kernel
theorem dX7_partCode_21 : decode cX7_partCode 21 = .ok (.iload 4, 2) := by decide +kernel
theorem dX7_partCode_23 : decode cX7_partCode 23 = .ok (.iconst (-1), 1) := by decide +kernel
theorem dX7_partCode_24 : decode cX7_partCode 24 = .ok (.if_icmp .eq 16, 3) := by decide +kernel
theorem dX7_partCode_27 : decode cX7_partCode 27 = .ok (.iload_n 2, 1) := by decide +kernel
theorem dX7_partCode_28 : decode cX7_partCode 28 = .ok (.ifCond .ne 9, 3) := by decide +kernel
theorem dX7_partCode_31 : decode cX7_partCode 31 = .ok (.iload 4, 2) := by decide +kernel
theorem dX7_partCode_33 : decode cX7_partCode 33 = .ok (.invokestatic 44, 3) := by decide +kernel
theorem dX7_partCode_36 : decode cX7_partCode 36 = .ok (.ireturn, 1) := by decide +kernel
theorem dX7_partCode_37 : decode cX7_partCode 37 = .ok (.iinc 2 (-1), 3) := by decide +kernel
theorem dX7_partCode_40 : decode cX7_partCode 40 = .ok (.iinc 3 1, 3) := by decide +kernel
theorem dX7_partCode_43 : decode cX7_partCode 43 = .ok (.goto (-39), 3) := by decide +kernel
theorem dX7_partCode_46 : decode cX7_partCode 46 = .ok (.bipush (-6), 2) := by decide +kernel
theorem dX7_partCode_48 : decode cX7_partCode 48 = .ok (.ireturn, 1) := by decide +kernel
theorem dX7_seriesFactor_0 : decode cX7_seriesFactor 0 = .ok (.aload_n 0, 1) := by decide +kernel
theorem dX7_seriesFactor_1 : decode cX7_seriesFactor 1 = .ok (.invokevirtual 49, 3) := by decide +kernel
theorem dX7_seriesFactor_4 : decode cX7_seriesFactor 4 = .ok (.iload_n 1, 1) := by decide +kernel
theorem dX7_seriesFactor_5 : decode cX7_seriesFactor 5 = .ok (.ifCond .lt 18, 3) := by decide +kernel
theorem dX7_seriesFactor_8 : decode cX7_seriesFactor 8 = .ok (.iload_n 1, 1) := by decide +kernel
theorem dX7_seriesFactor_9 : decode cX7_seriesFactor 9 = .ok (.bipush 24, 2) := by decide +kernel
theorem dX7_seriesFactor_11 : decode cX7_seriesFactor 11 = .ok (.if_icmp .gt 12, 3) := by decide +kernel
theorem dX7_seriesFactor_14 : decode cX7_seriesFactor 14 = .ok (.aload_n 0, 1) := by decide +kernel
theorem dX7_seriesFactor_15 : decode cX7_seriesFactor 15 = .ok (.getfield 18, 3) := by decide +kernel
theorem dX7_seriesFactor_18 : decode cX7_seriesFactor 18 = .ok (.iload_n 1, 1) := by decide +kernel
theorem dX7_seriesFactor_19 : decode cX7_seriesFactor 19 = .ok (.iaload, 1) := by decide +kernel
theorem dX7_seriesFactor_20 : decode cX7_seriesFactor 20 = .ok (.goto 4, 3) := by decide +kernel
theorem dX7_seriesFactor_23 : decode cX7_seriesFactor 23 = .ok (.iconst 0, 1) := by decide +kernel
theorem dX7_seriesFactor_24 : decode cX7_seriesFactor 24 = .ok (.ireturn, 1) := by decide +kernel
theorem dX7_standardOfDegree_0 : decode cX7_standardOfDegree 0 = .ok (.aload_n 0, 1) := by decide +kernel
theorem dX7_standardOfDegree_1 : decode cX7_standardOfDegree 1 = .ok (.invokevirtual 49, 3) := by decide +kernel
theorem dX7_standardOfDegree_4 : decode cX7_standardOfDegree 4 = .ok (.iconst 0, 1) := by decide +kernel
theorem dX7_standardOfDegree_5 : decode cX7_standardOfDegree 5 = .ok (.istore_n 2, 1) := by decide +kernel
theorem dX7_standardOfDegree_6 : decode cX7_standardOfDegree 6 = .ok (.iconst 0, 1) := by decide +kernel
theorem dX7_standardOfDegree_7 : decode cX7_standardOfDegree 7 = .ok (.istore_n 3, 1) := by decide +kernel
theorem dX7_standardOfDegree_8 : decode cX7_standardOfDegree 8 = .ok (.iload_n 3, 1) := by decide +kernel
theorem dX7_standardOfDegree_9 : decode cX7_standardOfDegree 9 = .ok (.bipush 24, 2) := by decide +kernel
theorem dX7_standardOfDegree_11 : decode cX7_standardOfDegree 11 = .ok (.if_icmp .gt 30, 3) := by decide +kernel
theorem dX7_standardOfDegree_14 : decode cX7_standardOfDegree 14 = .ok (.iload_n 3, 1) := by decide +kernel
theorem dX7_standardOfDegree_15 : decode cX7_standardOfDegree 15 = .ok (.iload_n 1, 1) := by decide +kernel
theorem dX7_standardOfDegree_16 : decode cX7_standardOfDegree 16 = .ok (.if_icmp .gt 25, 3) := by decide +kernel
theorem dX7_standardOfDegree_19 : decode cX7_standardOfDegree 19 = .ok (.iload_n 2, 1) := by decide +kernel
theorem dX7_standardOfDegree_20 : decode cX7_standardOfDegree 20 = .ok (.aload_n 0, 1) := by decide +kernel
theorem dX7_standardOfDegree_21 : decode cX7_standardOfDegree 21 = .ok (.getfield 18, 3) := by decide +kernel
theorem dX7_standardOfDegree_24 : decode cX7_standardOfDegree 24 = .ok (.iload_n 3, 1) := by decide +kernel
theorem dX7_standardOfDegree_25 : decode cX7_standardOfDegree 25 = .ok (.iaload, 1) := by decide +kernel
theorem dX7_standardOfDegree_26 : decode cX7_standardOfDegree 26 = .ok (.iload_n 1, 1) := by decide +kernel
theorem dX7_standardOfDegree_27 : decode cX7_standardOfDegree 27 = .ok (.iload_n 3, 1) := by decide +kernel
theorem dX7_standardOfDegree_28 : decode cX7_standardOfDegree 28 = .ok (.isub, 1) := by decide +kernel
theorem dX7_standardOfDegree_29 : decode cX7_standardOfDegree 29 = .ok (.invokestatic 52, 3) := by decide +kernel
theorem dX7_standardOfDegree_32 : decode cX7_standardOfDegree 32 = .ok (.imul, 1) := by decide +kernel
theorem dX7_standardOfDegree_33 : decode cX7_standardOfDegree 33 = .ok (.iadd, 1) := by decide +kernel
theorem dX7_standardOfDegree_34 : decode cX7_standardOfDegree 34 = .ok (.istore_n 2, 1) := by decide +kernel
theorem dX7_standardOfDegree_35 : decode cX7_standardOfDegree 35 = .ok (.iinc 3 1, 3) := by decide +kernel
theorem dX7_standardOfDegree_38 : decode cX7_standardOfDegree 38 = .ok (.goto (-30), 3) := by decide +kernel
theorem dX7_standardOfDegree_41 : decode cX7_standardOfDegree 41 = .ok (.iload_n 2, 1) := by decide +kernel
theorem dX7_standardOfDegree_42 : decode cX7_standardOfDegree 42 = .ok (.ireturn, 1) := by decide +kernel
theorem dX7_findFactors_0 : decode cX7_findFactors 0 = .ok (.aload_n 0, 1) := by decide +kernel
theorem dX7_findFactors_1 : decode cX7_findFactors 1 = .ok (.getfield 18, 3) := by decide +kernel
theorem dX7_findFactors_4 : decode cX7_findFactors 4 = .ok (.iconst 0, 1) := by decide +kernel
theorem dX7_findFactors_5 : decode cX7_findFactors 5 = .ok (.invokestatic 55, 3) := by decide +kernel
theorem dX7_findFactors_8 : decode cX7_findFactors 8 = .ok (.iconst 0, 1) := by decide +kernel
theorem dX7_findFactors_9 : decode cX7_findFactors 9 = .ok (.istore_n 1, 1) := by decide +kernel
theorem dX7_findFactors_10 : decode cX7_findFactors 10 = .ok (.iload_n 1, 1) := by decide +kernel
theorem dX7_findFactors_11 : decode cX7_findFactors 11 = .ok (.sipush 343, 3) := by decide +kernel
theorem dX7_findFactors_14 : decode cX7_findFactors 14 = .ok (.if_icmp .ge 104, 3) := by decide +kernel
theorem dX7_findFactors_17 : decode cX7_findFactors 17 = .ok (.iload_n 1, 1) := by decide +kernel
theorem dX7_findFactors_18 : decode cX7_findFactors 18 = .ok (.invokestatic 61, 3) := by decide +kernel
theorem dX7_findFactors_21 : decode cX7_findFactors 21 = .ok (.istore_n 2, 1) := by decide +kernel
theorem dX7_findFactors_22 : decode cX7_findFactors 22 = .ok (.iconst 0, 1) := by decide +kernel
theorem dX7_findFactors_23 : decode cX7_findFactors 23 = .ok (.istore_n 3, 1) := by decide +kernel
theorem dX7_findFactors_24 : decode cX7_findFactors 24 = .ok (.iconst 0, 1) := by decide +kernel
theorem dX7_findFactors_25 : decode cX7_findFactors 25 = .ok (.istore 4, 2) := by decide +kernel
theorem dX7_findFactors_27 : decode cX7_findFactors 27 = .ok (.iconst 0, 1) := by decide +kernel
theorem dX7_findFactors_28 : decode cX7_findFactors 28 = .ok (.istore 5, 2) := by decide +kernel
theorem dX7_findFactors_30 : decode cX7_findFactors 30 = .ok (.iload 5, 2) := by decide +kernel
theorem dX7_findFactors_32 : decode cX7_findFactors 32 = .ok (.iconst 3, 1) := by decide +kernel
theorem dX7_findFactors_33 : decode cX7_findFactors 33 = .ok (.if_icmp .ge 39, 3) := by decide +kernel
theorem dX7_findFactors_36 : decode cX7_findFactors 36 = .ok (.iload_n 2, 1) := by decide +kernel
theorem dX7_findFactors_37 : decode cX7_findFactors 37 = .ok (.iload 5, 2) := by decide +kernel
theorem dX7_findFactors_39 : decode cX7_findFactors 39 = .ok (.invokestatic 64, 3) := by decide +kernel
theorem dX7_findFactors_42 : decode cX7_findFactors 42 = .ok (.istore 6, 2) := by decide +kernel
theorem dX7_findFactors_44 : decode cX7_findFactors 44 = .ok (.iload_n 3, 1) := by decide +kernel
theorem dX7_findFactors_45 : decode cX7_findFactors 45 = .ok (.iload 6, 2) := by decide +kernel
theorem dX7_findFactors_47 : decode cX7_findFactors 47 = .ok (.iadd, 1) := by decide +kernel
theorem dX7_findFactors_48 : decode cX7_findFactors 48 = .ok (.istore_n 3, 1) := by decide +kernel
theorem dX7_findFactors_49 : decode cX7_findFactors 49 = .ok (.iload 4, 2) := by decide +kernel
theorem dX7_findFactors_51 : decode cX7_findFactors 51 = .ok (.iload 6, 2) := by decide +kernel
theorem dX7_findFactors_53 : decode cX7_findFactors 53 = .ok (.bipush 6, 2) := by decide +kernel
theorem dX7_findFactors_55 : decode cX7_findFactors 55 = .ok (.if_icmp .ge 7, 3) := by decide +kernel
theorem dX7_findFactors_58 : decode cX7_findFactors 58 = .ok (.iconst 1, 1) := by decide +kernel
theorem dX7_findFactors_59 : decode cX7_findFactors 59 = .ok (.goto 4, 3) := by decide +kernel
theorem dX7_findFactors_62 : decode cX7_findFactors 62 = .ok (.iconst 0, 1) := by decide +kernel
theorem dX7_findFactors_63 : decode cX7_findFactors 63 = .ok (.iadd, 1) := by decide +kernel
theorem dX7_findFactors_64 : decode cX7_findFactors 64 = .ok (.istore 4, 2) := by decide +kernel
theorem dX7_findFactors_66 : decode cX7_findFactors 66 = .ok (.iinc 5 1, 3) := by decide +kernel
theorem dX7_findFactors_69 : decode cX7_findFactors 69 = .ok (.goto (-39), 3) := by decide +kernel
theorem dX7_findFactors_72 : decode cX7_findFactors 72 = .ok (.aload_n 0, 1) := by decide +kernel
theorem dX7_findFactors_73 : decode cX7_findFactors 73 = .ok (.iload_n 3, 1) := by decide +kernel
theorem dX7_findFactors_74 : decode cX7_findFactors 74 = .ok (.iload 4, 2) := by decide +kernel
theorem dX7_findFactors_76 : decode cX7_findFactors 76 = .ok (.iconst 1, 1) := by decide +kernel
theorem dX7_findFactors_77 : decode cX7_findFactors 77 = .ok (.invokevirtual 68, 3) := by decide +kernel
theorem dX7_findFactors_80 : decode cX7_findFactors 80 = .ok (.aload_n 0, 1) := by decide +kernel
theorem dX7_findFactors_81 : decode cX7_findFactors 81 = .ok (.getfield 12, 3) := by decide +kernel
theorem dX7_findFactors_84 : decode cX7_findFactors 84 = .ok (.getfield 72, 3) := by decide +kernel
theorem dX7_findFactors_87 : decode cX7_findFactors 87 = .ok (.iload_n 1, 1) := by decide +kernel
theorem dX7_findFactors_88 : decode cX7_findFactors 88 = .ok (.iaload, 1) := by decide +kernel
theorem dX7_findFactors_89 : decode cX7_findFactors 89 = .ok (.bipush 6, 2) := by decide +kernel
theorem dX7_findFactors_91 : decode cX7_findFactors 91 = .ok (.if_icmp .gt 21, 3) := by decide +kernel
theorem dX7_findFactors_94 : decode cX7_findFactors 94 = .ok (.aload_n 0, 1) := by decide +kernel
theorem dX7_findFactors_95 : decode cX7_findFactors 95 = .ok (.iload_n 3, 1) := by decide +kernel
theorem dX7_findFactors_96 : decode cX7_findFactors 96 = .ok (.aload_n 0, 1) := by decide +kernel
theorem dX7_findFactors_97 : decode cX7_findFactors 97 = .ok (.getfield 12, 3) := by decide +kernel
theorem dX7_findFactors_100 : decode cX7_findFactors 100 = .ok (.getfield 72, 3) := by decide +kernel
theorem dX7_findFactors_103 : decode cX7_findFactors 103 = .ok (.iload_n 1, 1) := by decide +kernel
theorem dX7_findFactors_104 : decode cX7_findFactors 104 = .ok (.iaload, 1) := by decide +kernel
theorem dX7_findFactors_105 : decode cX7_findFactors 105 = .ok (.iadd, 1) := by decide +kernel
theorem dX7_findFactors_106 : decode cX7_findFactors 106 = .ok (.iload 4, 2) := by decide +kernel
theorem dX7_findFactors_108 : decode cX7_findFactors 108 = .ok (.iconst (-1), 1) := by decide +kernel
theorem dX7_findFactors_109 : decode cX7_findFactors 109 = .ok (.invokevirtual 68, 3) := by decide +kernel
theorem dX7_findFactors_112 : decode cX7_findFactors 112 = .ok (.iinc 1 1, 3) := by decide +kernel
theorem dX7_findFactors_115 : decode cX7_findFactors 115 = .ok (.goto (-105), 3) := by decide +kernel
theorem dX7_findFactors_118 : decode cX7_findFactors 118 = .ok (.return_, 1) := by decide +kernel
theorem dX7_addSteps_0 : decode cX7_addSteps 0 = .ok (.iconst 0, 1) := by decide +kernel
theorem dX7_addSteps_1 : decode cX7_addSteps 1 = .ok (.istore 4, 2) := by decide +kernel
theorem dX7_addSteps_3 : decode cX7_addSteps 3 = .ok (.iload 4, 2) := by decide +kernel
theorem dX7_addSteps_5 : decode cX7_addSteps 5 = .ok (.iload_n 2, 1) := by decide +kernel
theorem dX7_addSteps_6 : decode cX7_addSteps 6 = .ok (.if_icmp .gt 67, 3) := by decide +kernel
theorem dX7_addSteps_9 : decode cX7_addSteps 9 = .ok (.iload_n 1, 1) := by decide +kernel
theorem dX7_addSteps_10 : decode cX7_addSteps 10 = .ok (.iload 4, 2) := by decide +kernel
theorem dX7_addSteps_12 : decode cX7_addSteps 12 = .ok (.iadd, 1) := by decide +kernel
theorem dX7_addSteps_13 : decode cX7_addSteps 13 = .ok (.istore 5, 2) := by decide +kernel
theorem dX7_addSteps_15 : decode cX7_addSteps 15 = .ok (.iconst 4, 1) := by decide +kernel
theorem dX7_addSteps_16 : decode cX7_addSteps 16 = .ok (.iload_n 2, 1) := by decide +kernel
theorem dX7_addSteps_17 : decode cX7_addSteps 17 = .ok (.imul, 1) := by decide +kernel
theorem dX7_addSteps_18 : decode cX7_addSteps 18 = .ok (.iload 4, 2) := by decide +kernel
theorem dX7_addSteps_20 : decode cX7_addSteps 20 = .ok (.iadd, 1) := by decide +kernel
theorem dX7_addSteps_21 : decode cX7_addSteps 21 = .ok (.istore 6, 2) := by decide +kernel
theorem dX7_addSteps_23 : decode cX7_addSteps 23 = .ok (.iload 5, 2) := by decide +kernel
theorem dX7_addSteps_25 : decode cX7_addSteps 25 = .ok (.ifCond .lt 42, 3) := by decide +kernel
theorem dX7_addSteps_28 : decode cX7_addSteps 28 = .ok (.iload 5, 2) := by decide +kernel
theorem dX7_addSteps_30 : decode cX7_addSteps 30 = .ok (.bipush 24, 2) := by decide +kernel
theorem dX7_addSteps_32 : decode cX7_addSteps 32 = .ok (.if_icmp .gt 35, 3) := by decide +kernel
theorem dX7_addSteps_35 : decode cX7_addSteps 35 = .ok (.iload 6, 2) := by decide +kernel
theorem dX7_addSteps_37 : decode cX7_addSteps 37 = .ok (.ifCond .lt 30, 3) := by decide +kernel
theorem dX7_addSteps_40 : decode cX7_addSteps 40 = .ok (.iload 6, 2) := by decide +kernel
theorem dX7_addSteps_42 : decode cX7_addSteps 42 = .ok (.getstatic 75, 3) := by decide +kernel
theorem dX7_addSteps_45 : decode cX7_addSteps 45 = .ok (.arraylength, 1) := by decide +kernel
theorem dX7_addSteps_46 : decode cX7_addSteps 46 = .ok (.if_icmp .ge 21, 3) := by decide +kernel
theorem dX7_addSteps_49 : decode cX7_addSteps 49 = .ok (.aload_n 0, 1) := by decide +kernel
theorem dX7_addSteps_50 : decode cX7_addSteps 50 = .ok (.getfield 18, 3) := by decide +kernel
theorem dX7_addSteps_53 : decode cX7_addSteps 53 = .ok (.iload 5, 2) := by decide +kernel
theorem dX7_addSteps_55 : decode cX7_addSteps 55 = .ok (.dup2, 1) := by decide +kernel
theorem dX7_addSteps_56 : decode cX7_addSteps 56 = .ok (.iaload, 1) := by decide +kernel
theorem dX7_addSteps_57 : decode cX7_addSteps 57 = .ok (.iload_n 3, 1) := by decide +kernel
theorem dX7_addSteps_58 : decode cX7_addSteps 58 = .ok (.getstatic 75, 3) := by decide +kernel
theorem dX7_addSteps_61 : decode cX7_addSteps 61 = .ok (.iload 6, 2) := by decide +kernel
theorem dX7_addSteps_63 : decode cX7_addSteps 63 = .ok (.iaload, 1) := by decide +kernel
theorem dX7_addSteps_64 : decode cX7_addSteps 64 = .ok (.imul, 1) := by decide +kernel
theorem dX7_addSteps_65 : decode cX7_addSteps 65 = .ok (.iadd, 1) := by decide +kernel
theorem dX7_addSteps_66 : decode cX7_addSteps 66 = .ok (.iastore, 1) := by decide +kernel
theorem dX7_addSteps_67 : decode cX7_addSteps 67 = .ok (.iinc 4 1, 3) := by decide +kernel
theorem dX7_addSteps_70 : decode cX7_addSteps 70 = .ok (.goto (-67), 3) := by decide +kernel
theorem dX7_addSteps_73 : decode cX7_addSteps 73 = .ok (.return_, 1) := by decide +kernel
theorem dX7_pivots_0 : decode cX7_pivots 0 = .ok (.aload_n 0, 1) := by decide +kernel
theorem dX7_pivots_1 : decode cX7_pivots 1 = .ok (.getfield 32, 3) := by decide +kernel
theorem dX7_pivots_4 : decode cX7_pivots 4 = .ok (.aload_n 1, 1) := by decide +kernel
theorem dX7_pivots_5 : decode cX7_pivots 5 = .ok (.invokevirtual 78, 3) := by decide +kernel
theorem dX7_pivots_8 : decode cX7_pivots 8 = .ok (.aload_n 0, 1) := by decide +kernel
theorem dX7_pivots_9 : decode cX7_pivots 9 = .ok (.getfield 32, 3) := by decide +kernel
theorem dX7_pivots_12 : decode cX7_pivots 12 = .ok (.getfield 81, 3) := by decide +kernel
theorem dX7_pivots_15 : decode cX7_pivots 15 = .ok (.ireturn, 1) := by decide +kernel
theorem dX7_nestedPivots_0 : decode cX7_nestedPivots 0 = .ok (.aload_n 0, 1) := by decide +kernel
theorem dX7_nestedPivots_1 : decode cX7_nestedPivots 1 = .ok (.getfield 32, 3) := by decide +kernel
theorem dX7_nestedPivots_4 : decode cX7_nestedPivots 4 = .ok (.aload_n 1, 1) := by decide +kernel
theorem dX7_nestedPivots_5 : decode cX7_nestedPivots 5 = .ok (.invokevirtual 78, 3) := by decide +kernel
theorem dX7_nestedPivots_8 : decode cX7_nestedPivots 8 = .ok (.aload_n 0, 1) := by decide +kernel
theorem dX7_nestedPivots_9 : decode cX7_nestedPivots 9 = .ok (.getfield 32, 3) := by decide +kernel
theorem dX7_nestedPivots_12 : decode cX7_nestedPivots 12 = .ok (.getfield 85, 3) := by decide +kernel
theorem dX7_nestedPivots_15 : decode cX7_nestedPivots 15 = .ok (.ireturn, 1) := by decide +kernel
theorem dX7_latticeSize_0 : decode cX7_latticeSize 0 = .ok (.iconst 0, 1) := by decide +kernel
theorem dX7_latticeSize_1 : decode cX7_latticeSize 1 = .ok (.istore_n 2, 1) := by decide +kernel
theorem dX7_latticeSize_2 : decode cX7_latticeSize 2 = .ok (.iconst 0, 1) := by decide +kernel
theorem dX7_latticeSize_3 : decode cX7_latticeSize 3 = .ok (.istore_n 3, 1) := by decide +kernel
theorem dX7_latticeSize_4 : decode cX7_latticeSize 4 = .ok (.iload_n 3, 1) := by decide +kernel
theorem dX7_latticeSize_5 : decode cX7_latticeSize 5 = .ok (.sipush 343, 3) := by decide +kernel
theorem dX7_latticeSize_8 : decode cX7_latticeSize 8 = .ok (.if_icmp .ge 50, 3) := by decide +kernel
theorem dX7_latticeSize_11 : decode cX7_latticeSize 11 = .ok (.aload_n 0, 1) := by decide +kernel
theorem dX7_latticeSize_12 : decode cX7_latticeSize 12 = .ok (.getfield 12, 3) := by decide +kernel
theorem dX7_latticeSize_15 : decode cX7_latticeSize 15 = .ok (.getfield 72, 3) := by decide +kernel
theorem dX7_latticeSize_18 : decode cX7_latticeSize 18 = .ok (.iload_n 3, 1) := by decide +kernel
theorem dX7_latticeSize_19 : decode cX7_latticeSize 19 = .ok (.iaload, 1) := by decide +kernel
theorem dX7_latticeSize_20 : decode cX7_latticeSize 20 = .ok (.istore 4, 2) := by decide +kernel
theorem dX7_latticeSize_22 : decode cX7_latticeSize 22 = .ok (.iload 4, 2) := by decide +kernel
theorem dX7_latticeSize_24 : decode cX7_latticeSize 24 = .ok (.bipush 6, 2) := by decide +kernel
theorem dX7_latticeSize_26 : decode cX7_latticeSize 26 = .ok (.if_icmp .gt 26, 3) := by decide +kernel
theorem dX7_latticeSize_29 : decode cX7_latticeSize 29 = .ok (.aload_n 1, 1) := by decide +kernel
theorem dX7_latticeSize_30 : decode cX7_latticeSize 30 = .ok (.iload_n 3, 1) := by decide +kernel
theorem dX7_latticeSize_31 : decode cX7_latticeSize 31 = .ok (.invokestatic 61, 3) := by decide +kernel
theorem dX7_latticeSize_34 : decode cX7_latticeSize 34 = .ok (.iload 4, 2) := by decide +kernel
theorem dX7_latticeSize_36 : decode cX7_latticeSize 36 = .ok (.ior, 1) := by decide +kernel
theorem dX7_latticeSize_37 : decode cX7_latticeSize 37 = .ok (.invokevirtual 88, 3) := by decide +kernel
theorem dX7_latticeSize_40 : decode cX7_latticeSize 40 = .ok (.ifCond .eq 6, 3) := by decide +kernel
theorem dX7_latticeSize_43 : decode cX7_latticeSize 43 = .ok (.iinc 2 1, 3) := by decide +kernel
theorem dX7_latticeSize_46 : decode cX7_latticeSize 46 = .ok (.iinc 4 1, 3) := by decide +kernel
theorem dX7_latticeSize_49 : decode cX7_latticeSize 49 = .ok (.goto (-27), 3) := by decide +kernel
theorem dX7_latticeSize_52 : decode cX7_latticeSize 52 = .ok (.iinc 3 1, 3) := by decide +kernel
theorem dX7_latticeSize_55 : decode cX7_latticeSize 55 = .ok (.goto (-51), 3) := by decide +kernel
theorem dX7_latticeSize_58 : decode cX7_latticeSize 58 = .ok (.iload_n 2, 1) := by decide +kernel
theorem dX7_latticeSize_59 : decode cX7_latticeSize 59 = .ok (.ireturn, 1) := by decide +kernel
theorem dX7_holesInAll_0 : decode cX7_holesInAll 0 = .ok (.iconst 0, 1) := by decide +kernel
theorem dX7_holesInAll_1 : decode cX7_holesInAll 1 = .ok (.istore_n 3, 1) := by decide +kernel
theorem dX7_holesInAll_2 : decode cX7_holesInAll 2 = .ok (.iconst 0, 1) := by decide +kernel
theorem dX7_holesInAll_3 : decode cX7_holesInAll 3 = .ok (.istore 4, 2) := by decide +kernel
theorem dX7_holesInAll_5 : decode cX7_holesInAll 5 = .ok (.iload 4, 2) := by decide +kernel
theorem dX7_holesInAll_7 : decode cX7_holesInAll 7 = .ok (.sipush 343, 3) := by decide +kernel
theorem dX7_holesInAll_10 : decode cX7_holesInAll 10 = .ok (.if_icmp .ge 51, 3) := by decide +kernel
theorem dX7_holesInAll_13 : decode cX7_holesInAll 13 = .ok (.aload_n 0, 1) := by decide +kernel
theorem dX7_holesInAll_14 : decode cX7_holesInAll 14 = .ok (.getfield 12, 3) := by decide +kernel
theorem dX7_holesInAll_17 : decode cX7_holesInAll 17 = .ok (.getfield 72, 3) := by decide +kernel
theorem dX7_holesInAll_20 : decode cX7_holesInAll 20 = .ok (.iload 4, 2) := by decide +kernel
theorem dX7_holesInAll_22 : decode cX7_holesInAll 22 = .ok (.iaload, 1) := by decide +kernel
theorem dX7_holesInAll_23 : decode cX7_holesInAll 23 = .ok (.istore 5, 2) := by decide +kernel
theorem dX7_holesInAll_25 : decode cX7_holesInAll 25 = .ok (.iload 5, 2) := by decide +kernel
theorem dX7_holesInAll_27 : decode cX7_holesInAll 27 = .ok (.bipush 6, 2) := by decide +kernel
theorem dX7_holesInAll_29 : decode cX7_holesInAll 29 = .ok (.if_icmp .gt 26, 3) := by decide +kernel
theorem dX7_holesInAll_32 : decode cX7_holesInAll 32 = .ok (.iload_n 3, 1) := by decide +kernel
theorem dX7_holesInAll_33 : decode cX7_holesInAll 33 = .ok (.aload_n 0, 1) := by decide +kernel
theorem dX7_holesInAll_34 : decode cX7_holesInAll 34 = .ok (.aload_n 1, 1) := by decide +kernel
theorem dX7_holesInAll_35 : decode cX7_holesInAll 35 = .ok (.iload_n 2, 1) := by decide +kernel
theorem dX7_holesInAll_36 : decode cX7_holesInAll 36 = .ok (.iload 4, 2) := by decide +kernel
theorem dX7_holesInAll_38 : decode cX7_holesInAll 38 = .ok (.invokestatic 61, 3) := by decide +kernel
theorem dX7_holesInAll_41 : decode cX7_holesInAll 41 = .ok (.iload 5, 2) := by decide +kernel
theorem dX7_holesInAll_43 : decode cX7_holesInAll 43 = .ok (.ior, 1) := by decide +kernel
theorem dX7_holesInAll_44 : decode cX7_holesInAll 44 = .ok (.invokevirtual 94, 3) := by decide +kernel
theorem dX7_holesInAll_47 : decode cX7_holesInAll 47 = .ok (.iadd, 1) := by decide +kernel
theorem dX7_holesInAll_48 : decode cX7_holesInAll 48 = .ok (.istore_n 3, 1) := by decide +kernel
theorem dX7_holesInAll_49 : decode cX7_holesInAll 49 = .ok (.iinc 5 1, 3) := by decide +kernel
theorem dX7_holesInAll_52 : decode cX7_holesInAll 52 = .ok (.goto (-27), 3) := by decide +kernel
theorem dX7_holesInAll_55 : decode cX7_holesInAll 55 = .ok (.iinc 4 1, 3) := by decide +kernel
theorem dX7_holesInAll_58 : decode cX7_holesInAll 58 = .ok (.goto (-53), 3) := by decide +kernel
theorem dX7_holesInAll_61 : decode cX7_holesInAll 61 = .ok (.iload_n 3, 1) := by decide +kernel
theorem dX7_holesInAll_62 : decode cX7_holesInAll 62 = .ok (.ireturn, 1) := by decide +kernel
theorem dX7_holesAt_0 : decode cX7_holesAt 0 = .ok (.aload_n 1, 1) := by decide +kernel
theorem dX7_holesAt_1 : decode cX7_holesAt 1 = .ok (.iload_n 3, 1) := by decide +kernel
theorem dX7_holesAt_2 : decode cX7_holesAt 2 = .ok (.invokevirtual 88, 3) := by decide +kernel
theorem dX7_holesAt_5 : decode cX7_holesAt 5 = .ok (.ifCond .ne 5, 3) := by decide +kernel
theorem dX7_holesAt_8 : decode cX7_holesAt 8 = .ok (.iconst 0, 1) := by decide +kernel
theorem dX7_holesAt_9 : decode cX7_holesAt 9 = .ok (.ireturn, 1) := by decide +kernel
theorem dX7_holesAt_10 : decode cX7_holesAt 10 = .ok (.aload_n 0, 1) := by decide +kernel
theorem dX7_holesAt_11 : decode cX7_holesAt 11 = .ok (.getfield 25, 3) := by decide +kernel
theorem dX7_holesAt_14 : decode cX7_holesAt 14 = .ok (.iload_n 3, 1) := by decide +kernel
theorem dX7_holesAt_15 : decode cX7_holesAt 15 = .ok (.aload_n 0, 1) := by decide +kernel
theorem dX7_holesAt_16 : decode cX7_holesAt 16 = .ok (.getfield 12, 3) := by decide +kernel
theorem dX7_holesAt_19 : decode cX7_holesAt 19 = .ok (.invokestatic 98, 3) := by decide +kernel
theorem dX7_holesAt_22 : decode cX7_holesAt 22 = .ok (.iload_n 2, 1) := by decide +kernel
theorem dX7_holesAt_23 : decode cX7_holesAt 23 = .ok (.invokevirtual 102, 3) := by decide +kernel
theorem dX7_holesAt_26 : decode cX7_holesAt 26 = .ok (.ireturn, 1) := by decide +kernel
theorem dX8_init_0 : decode cX8_init 0 = .ok (.aload_n 0, 1) := by decide +kernel
theorem dX8_init_1 : decode cX8_init 1 = .ok (.invokespecial 3, 3) := by decide +kernel
theorem dX8_init_4 : decode cX8_init 4 = .ok (.aload_n 0, 1) := by decide +kernel
theorem dX8_init_5 : decode cX8_init 5 = .ok (.bipush 25, 2) := by decide +kernel
theorem dX8_init_7 : decode cX8_init 7 = .ok (.bipush 40, 2) := by decide +kernel
theorem dX8_init_9 : decode cX8_init 9 = .ok (.multianewarray 11 2, 4) := by decide +kernel
theorem dX8_init_13 : decode cX8_init 13 = .ok (.putfield 13, 3) := by decide +kernel
theorem dX8_init_16 : decode cX8_init 16 = .ok (.return_, 1) := by decide +kernel
theorem dX8_grow_0 : decode cX8_grow 0 = .ok (.aload_n 0, 1) := by decide +kernel
theorem dX8_grow_1 : decode cX8_grow 1 = .ok (.iconst 0, 1) := by decide +kernel
theorem dX8_grow_2 : decode cX8_grow 2 = .ok (.putfield 16, 3) := by decide +kernel
theorem dX8_grow_5 : decode cX8_grow 5 = .ok (.aload_n 0, 1) := by decide +kernel
theorem dX8_grow_6 : decode cX8_grow 6 = .ok (.iconst 0, 1) := by decide +kernel
theorem dX8_grow_7 : decode cX8_grow 7 = .ok (.putfield 20, 3) := by decide +kernel
theorem dX8_grow_10 : decode cX8_grow 10 = .ok (.aload_n 1, 1) := by decide +kernel
theorem dX8_grow_11 : decode cX8_grow 11 = .ok (.getfield 23, 3) := by decide +kernel
theorem dX8_grow_14 : decode cX8_grow 14 = .ok (.iconst 0, 1) := by decide +kernel
theorem dX8_grow_15 : decode cX8_grow 15 = .ok (.aload_n 0, 1) := by decide +kernel
theorem dX8_grow_16 : decode cX8_grow 16 = .ok (.getfield 13, 3) := by decide +kernel
theorem dX8_grow_19 : decode cX8_grow 19 = .ok (.iconst 0, 1) := by decide +kernel
theorem dX8_grow_20 : decode cX8_grow 20 = .ok (.aaload, 1) := by decide +kernel
theorem dX8_grow_21 : decode cX8_grow 21 = .ok (.iconst 0, 1) := by decide +kernel
theorem dX8_grow_22 : decode cX8_grow 22 = .ok (.bipush 40, 2) := by decide +kernel
theorem dX8_grow_24 : decode cX8_grow 24 = .ok (.invokestatic 29, 3) := by decide +kernel
theorem dX8_grow_27 : decode cX8_grow 27 = .ok (.aload_n 0, 1) := by decide +kernel
theorem dX8_grow_28 : decode cX8_grow 28 = .ok (.iconst 0, 1) := by decide +kernel
theorem dX8_grow_29 : decode cX8_grow 29 = .ok (.aload_n 1, 1) := by decide +kernel
theorem dX8_grow_30 : decode cX8_grow 30 = .ok (.getfield 35, 3) := by decide +kernel
theorem dX8_grow_33 : decode cX8_grow 33 = .ok (.invokestatic 38, 3) := by decide +kernel
theorem dX8_grow_36 : decode cX8_grow 36 = .ok (.return_, 1) := by decide +kernel
theorem dX8_branch_0 : decode cX8_branch 0 = .ok (.iload_n 1, 1) := by decide +kernel
theorem dX8_branch_1 : decode cX8_branch 1 = .ok (.bipush 24, 2) := by decide +kernel
theorem dX8_branch_3 : decode cX8_branch 3 = .ok (.if_icmp .lt 4, 3) := by decide +kernel
theorem dX8_branch_6 : decode cX8_branch 6 = .ok (.return_, 1) := by decide +kernel
theorem dX8_branch_7 : decode cX8_branch 7 = .ok (.aload_n 0, 1) := by decide +kernel
theorem dX8_branch_8 : decode cX8_branch 8 = .ok (.getfield 13, 3) := by decide +kernel
theorem dX8_branch_11 : decode cX8_branch 11 = .ok (.iload_n 1, 1) := by decide +kernel
theorem dX8_branch_12 : decode cX8_branch 12 = .ok (.aaload, 1) := by decide +kernel
theorem dX8_branch_13 : decode cX8_branch 13 = .ok (.iload_n 2, 1) := by decide +kernel
theorem dX8_branch_14 : decode cX8_branch 14 = .ok (.invokestatic 42, 3) := by decide +kernel
theorem dX8_branch_17 : decode cX8_branch 17 = .ok (.istore_n 3, 1) := by decide +kernel
theorem dX8_branch_18 : decode cX8_branch 18 = .ok (.iload_n 3, 1) := by decide +kernel
theorem dX8_branch_19 : decode cX8_branch 19 = .ok (.bipush (-6), 2) := by decide +kernel
theorem dX8_branch_21 : decode cX8_branch 21 = .ok (.if_icmp .ne 4, 3) := by decide +kernel
theorem dX8_branch_24 : decode cX8_branch 24 = .ok (.return_, 1) := by decide +kernel
theorem dX8_branch_25 : decode cX8_branch 25 = .ok (.aload_n 0, 1) := by decide +kernel
theorem dX8_branch_26 : decode cX8_branch 26 = .ok (.dup, 1) := by decide +kernel
theorem dX8_branch_27 : decode cX8_branch 27 = .ok (.getfield 16, 3) := by decide +kernel
theorem dX8_branch_30 : decode cX8_branch 30 = .ok (.iconst 1, 1) := by decide +kernel
theorem dX8_branch_31 : decode cX8_branch 31 = .ok (.iadd, 1) := by decide +kernel
theorem dX8_branch_32 : decode cX8_branch 32 = .ok (.putfield 16, 3) := by decide +kernel
theorem dX8_branch_35 : decode cX8_branch 35 = .ok (.aload_n 0, 1) := by decide +kernel
theorem dX8_branch_36 : decode cX8_branch 36 = .ok (.aload_n 0, 1) := by decide +kernel
theorem dX8_branch_37 : decode cX8_branch 37 = .ok (.getfield 20, 3) := by decide +kernel
theorem dX8_branch_40 : decode cX8_branch 40 = .ok (.iload_n 1, 1) := by decide +kernel
theorem dX8_branch_41 : decode cX8_branch 41 = .ok (.iconst 1, 1) := by decide +kernel
theorem dX8_branch_42 : decode cX8_branch 42 = .ok (.iadd, 1) := by decide +kernel
theorem dX8_branch_43 : decode cX8_branch 43 = .ok (.invokestatic 46, 3) := by decide +kernel
theorem dX8_branch_46 : decode cX8_branch 46 = .ok (.putfield 20, 3) := by decide +kernel
theorem dX8_branch_49 : decode cX8_branch 49 = .ok (.aload_n 0, 1) := by decide +kernel
theorem dX8_branch_50 : decode cX8_branch 50 = .ok (.iload_n 1, 1) := by decide +kernel
theorem dX8_branch_51 : decode cX8_branch 51 = .ok (.iconst 1, 1) := by decide +kernel
theorem dX8_branch_52 : decode cX8_branch 52 = .ok (.iadd, 1) := by decide +kernel
theorem dX8_branch_53 : decode cX8_branch 53 = .ok (.aload_n 0, 1) := by decide +kernel
theorem dX8_branch_54 : decode cX8_branch 54 = .ok (.getfield 13, 3) := by decide +kernel
theorem dX8_branch_57 : decode cX8_branch 57 = .ok (.iload_n 1, 1) := by decide +kernel
theorem dX8_branch_58 : decode cX8_branch 58 = .ok (.aaload, 1) := by decide +kernel
theorem dX8_branch_59 : decode cX8_branch 59 = .ok (.iload_n 2, 1) := by decide +kernel
theorem dX8_branch_60 : decode cX8_branch 60 = .ok (.iload_n 3, 1) := by decide +kernel
theorem dX8_branch_61 : decode cX8_branch 61 = .ok (.aload_n 0, 1) := by decide +kernel
theorem dX8_branch_62 : decode cX8_branch 62 = .ok (.getfield 13, 3) := by decide +kernel
theorem dX8_branch_65 : decode cX8_branch 65 = .ok (.iload_n 1, 1) := by decide +kernel
theorem dX8_branch_66 : decode cX8_branch 66 = .ok (.iconst 1, 1) := by decide +kernel
theorem dX8_branch_67 : decode cX8_branch 67 = .ok (.iadd, 1) := by decide +kernel
theorem dX8_branch_68 : decode cX8_branch 68 = .ok (.aaload, 1) := by decide +kernel
theorem dX8_branch_69 : decode cX8_branch 69 = .ok (.invokestatic 52, 3) := by decide +kernel
theorem dX8_branch_72 : decode cX8_branch 72 = .ok (.invokestatic 38, 3) := by decide +kernel
theorem dX8_branch_75 : decode cX8_branch 75 = .ok (.aload_n 0, 1) := by decide +kernel
theorem dX8_branch_76 : decode cX8_branch 76 = .ok (.iload_n 1, 1) := by decide +kernel
theorem dX8_branch_77 : decode cX8_branch 77 = .ok (.iconst 1, 1) := by decide +kernel
theorem dX8_branch_78 : decode cX8_branch 78 = .ok (.iadd, 1) := by decide +kernel
theorem dX8_branch_79 : decode cX8_branch 79 = .ok (.aload_n 0, 1) := by decide +kernel
theorem dX8_branch_80 : decode cX8_branch 80 = .ok (.getfield 13, 3) := by decide +kernel
theorem dX8_branch_83 : decode cX8_branch 83 = .ok (.iload_n 1, 1) := by decide +kernel
theorem dX8_branch_84 : decode cX8_branch 84 = .ok (.aaload, 1) := by decide +kernel
theorem dX8_branch_85 : decode cX8_branch 85 = .ok (.iload_n 2, 1) := by decide +kernel
theorem dX8_branch_86 : decode cX8_branch 86 = .ok (.iload_n 3, 1) := by decide +kernel
theorem dX8_branch_87 : decode cX8_branch 87 = .ok (.aload_n 0, 1) := by decide +kernel
theorem dX8_branch_88 : decode cX8_branch 88 = .ok (.getfield 13, 3) := by decide +kernel
theorem dX8_branch_91 : decode cX8_branch 91 = .ok (.iload_n 1, 1) := by decide +kernel
theorem dX8_branch_92 : decode cX8_branch 92 = .ok (.iconst 1, 1) := by decide +kernel
theorem dX8_branch_93 : decode cX8_branch 93 = .ok (.iadd, 1) := by decide +kernel
theorem dX8_branch_94 : decode cX8_branch 94 = .ok (.aaload, 1) := by decide +kernel
theorem dX8_branch_95 : decode cX8_branch 95 = .ok (.invokestatic 56, 3) := by decide +kernel
theorem dX8_branch_98 : decode cX8_branch 98 = .ok (.invokestatic 38, 3) := by decide +kernel
theorem dX8_branch_101 : decode cX8_branch 101 = .ok (.return_, 1) := by decide +kernel
theorem dX8_pivotOf_0 : decode cX8_pivotOf 0 = .ok (.bipush (-6), 2) := by decide +kernel
theorem dX8_pivotOf_2 : decode cX8_pivotOf 2 = .ok (.istore_n 2, 1) := by decide +kernel
theorem dX8_pivotOf_3 : decode cX8_pivotOf 3 = .ok (.iconst 1, 1) := by decide +kernel
theorem dX8_pivotOf_4 : decode cX8_pivotOf 4 = .ok (.istore_n 3, 1) := by decide +kernel
theorem dX8_pivotOf_5 : decode cX8_pivotOf 5 = .ok (.iconst 0, 1) := by decide +kernel
theorem dX8_pivotOf_6 : decode cX8_pivotOf 6 = .ok (.istore 4, 2) := by decide +kernel
theorem dX8_pivotOf_8 : decode cX8_pivotOf 8 = .ok (.iload 4, 2) := by decide +kernel
theorem dX8_pivotOf_10 : decode cX8_pivotOf 10 = .ok (.iconst 4, 1) := by decide +kernel
theorem dX8_pivotOf_11 : decode cX8_pivotOf 11 = .ok (.if_icmp .ge 61, 3) := by decide +kernel
theorem dX8_pivotOf_14 : decode cX8_pivotOf 14 = .ok (.iconst 0, 1) := by decide +kernel
theorem dX8_pivotOf_15 : decode cX8_pivotOf 15 = .ok (.istore 5, 2) := by decide +kernel
theorem dX8_pivotOf_17 : decode cX8_pivotOf 17 = .ok (.iconst 0, 1) := by decide +kernel
theorem dX8_pivotOf_18 : decode cX8_pivotOf 18 = .ok (.istore 6, 2) := by decide +kernel
theorem dX8_pivotOf_20 : decode cX8_pivotOf 20 = .ok (.iload 6, 2) := by decide +kernel
theorem dX8_pivotOf_22 : decode cX8_pivotOf 22 = .ok (.iload_n 1, 1) := by decide +kernel
theorem dX8_pivotOf_23 : decode cX8_pivotOf 23 = .ok (.if_icmp .ge 31, 3) := by decide +kernel
theorem dX8_pivotOf_26 : decode cX8_pivotOf 26 = .ok (.iload 6, 2) := by decide +kernel
theorem dX8_pivotOf_28 : decode cX8_pivotOf 28 = .ok (.aload_n 0, 1) := by decide +kernel
theorem dX8_pivotOf_29 : decode cX8_pivotOf 29 = .ok (.arraylength, 1) := by decide +kernel
theorem dX8_pivotOf_30 : decode cX8_pivotOf 30 = .ok (.if_icmp .ge 24, 3) := by decide +kernel
theorem dX8_pivotOf_33 : decode cX8_pivotOf 33 = .ok (.aload_n 0, 1) := by decide +kernel
theorem dX8_pivotOf_34 : decode cX8_pivotOf 34 = .ok (.iload 6, 2) := by decide +kernel
theorem dX8_pivotOf_36 : decode cX8_pivotOf 36 = .ok (.iaload, 1) := by decide +kernel
theorem dX8_pivotOf_37 : decode cX8_pivotOf 37 = .ok (.iload 4, 2) := by decide +kernel
theorem dX8_pivotOf_39 : decode cX8_pivotOf 39 = .ok (.invokestatic 59, 3) := by decide +kernel
theorem dX8_pivotOf_42 : decode cX8_pivotOf 42 = .ok (.ifCond .le 6, 3) := by decide +kernel
theorem dX8_pivotOf_45 : decode cX8_pivotOf 45 = .ok (.iinc 5 1, 3) := by decide +kernel
theorem dX8_pivotOf_48 : decode cX8_pivotOf 48 = .ok (.iinc 6 1, 3) := by decide +kernel
theorem dX8_pivotOf_51 : decode cX8_pivotOf 51 = .ok (.goto (-31), 3) := by decide +kernel
theorem dX8_pivotOf_54 : decode cX8_pivotOf 54 = .ok (.iload 5, 2) := by decide +kernel
theorem dX8_pivotOf_56 : decode cX8_pivotOf 56 = .ok (.iload_n 3, 1) := by decide +kernel
theorem dX8_pivotOf_57 : decode cX8_pivotOf 57 = .ok (.if_icmp .le 9, 3) := by decide +kernel
theorem dX8_pivotOf_60 : decode cX8_pivotOf 60 = .ok (.iload 5, 2) := by decide +kernel
theorem dX8_pivotOf_62 : decode cX8_pivotOf 62 = .ok (.istore_n 3, 1) := by decide +kernel
theorem dX8_pivotOf_63 : decode cX8_pivotOf 63 = .ok (.iload 4, 2) := by decide +kernel
theorem dX8_pivotOf_65 : decode cX8_pivotOf 65 = .ok (.istore_n 2, 1) := by decide +kernel
theorem dX8_pivotOf_66 : decode cX8_pivotOf 66 = .ok (.iinc 4 1, 3) := by decide +kernel
theorem dX8_pivotOf_69 : decode cX8_pivotOf 69 = .ok (.goto (-61), 3) := by decide +kernel
theorem dX8_pivotOf_72 : decode cX8_pivotOf 72 = .ok (.iload_n 2, 1) := by decide +kernel
theorem dX8_pivotOf_73 : decode cX8_pivotOf 73 = .ok (.ireturn, 1) := by decide +kernel
theorem dX8_keepWithout_0 : decode cX8_keepWithout 0 = .ok (.iconst 0, 1) := by decide +kernel
theorem dX8_keepWithout_1 : decode cX8_keepWithout 1 = .ok (.istore 4, 2) := by decide +kernel
theorem dX8_keepWithout_3 : decode cX8_keepWithout 3 = .ok (.iconst 0, 1) := by decide +kernel
theorem dX8_keepWithout_4 : decode cX8_keepWithout 4 = .ok (.istore 5, 2) := by decide +kernel
theorem dX8_keepWithout_6 : decode cX8_keepWithout 6 = .ok (.iload 5, 2) := by decide +kernel
theorem dX8_keepWithout_8 : decode cX8_keepWithout 8 = .ok (.iload_n 1, 1) := by decide +kernel
theorem dX8_keepWithout_9 : decode cX8_keepWithout 9 = .ok (.if_icmp .ge 45, 3) := by decide +kernel
theorem dX8_keepWithout_12 : decode cX8_keepWithout 12 = .ok (.iload 5, 2) := by decide +kernel
theorem dX8_keepWithout_14 : decode cX8_keepWithout 14 = .ok (.aload_n 0, 1) := by decide +kernel
theorem dX8_keepWithout_15 : decode cX8_keepWithout 15 = .ok (.arraylength, 1) := by decide +kernel
theorem dX8_keepWithout_16 : decode cX8_keepWithout 16 = .ok (.if_icmp .ge 38, 3) := by decide +kernel
theorem dX8_keepWithout_19 : decode cX8_keepWithout 19 = .ok (.iload 4, 2) := by decide +kernel
theorem dX8_keepWithout_21 : decode cX8_keepWithout 21 = .ok (.aload_n 3, 1) := by decide +kernel
theorem dX8_keepWithout_22 : decode cX8_keepWithout 22 = .ok (.arraylength, 1) := by decide +kernel
theorem dX8_keepWithout_23 : decode cX8_keepWithout 23 = .ok (.if_icmp .ge 31, 3) := by decide +kernel
theorem dX8_keepWithout_26 : decode cX8_keepWithout 26 = .ok (.aload_n 0, 1) := by decide +kernel
theorem dX8_keepWithout_27 : decode cX8_keepWithout 27 = .ok (.iload 5, 2) := by decide +kernel
theorem dX8_keepWithout_29 : decode cX8_keepWithout 29 = .ok (.iaload, 1) := by decide +kernel
theorem dX8_keepWithout_30 : decode cX8_keepWithout 30 = .ok (.iload_n 2, 1) := by decide +kernel
theorem dX8_keepWithout_31 : decode cX8_keepWithout 31 = .ok (.invokestatic 59, 3) := by decide +kernel
theorem dX8_keepWithout_34 : decode cX8_keepWithout 34 = .ok (.ifCond .ne 14, 3) := by decide +kernel
theorem dX8_keepWithout_37 : decode cX8_keepWithout 37 = .ok (.aload_n 3, 1) := by decide +kernel
theorem dX8_keepWithout_38 : decode cX8_keepWithout 38 = .ok (.iload 4, 2) := by decide +kernel
theorem dX8_keepWithout_40 : decode cX8_keepWithout 40 = .ok (.aload_n 0, 1) := by decide +kernel
theorem dX8_keepWithout_41 : decode cX8_keepWithout 41 = .ok (.iload 5, 2) := by decide +kernel
theorem dX8_keepWithout_43 : decode cX8_keepWithout 43 = .ok (.iaload, 1) := by decide +kernel
theorem dX8_keepWithout_44 : decode cX8_keepWithout 44 = .ok (.iastore, 1) := by decide +kernel
theorem dX8_keepWithout_45 : decode cX8_keepWithout 45 = .ok (.iinc 4 1, 3) := by decide +kernel
theorem dX8_keepWithout_48 : decode cX8_keepWithout 48 = .ok (.iinc 5 1, 3) := by decide +kernel
theorem dX8_keepWithout_51 : decode cX8_keepWithout 51 = .ok (.goto (-45), 3) := by decide +kernel
theorem dX8_keepWithout_54 : decode cX8_keepWithout 54 = .ok (.iload 4, 2) := by decide +kernel
theorem dX8_keepWithout_56 : decode cX8_keepWithout 56 = .ok (.ireturn, 1) := by decide +kernel
theorem dX8_divide_0 : decode cX8_divide 0 = .ok (.iconst 0, 1) := by decide +kernel
theorem dX8_divide_1 : decode cX8_divide 1 = .ok (.istore 4, 2) := by decide +kernel
theorem dX8_divide_3 : decode cX8_divide 3 = .ok (.iconst 0, 1) := by decide +kernel
theorem dX8_divide_4 : decode cX8_divide 4 = .ok (.istore 5, 2) := by decide +kernel
theorem dX8_divide_6 : decode cX8_divide 6 = .ok (.iload 5, 2) := by decide +kernel
theorem dX8_divide_8 : decode cX8_divide 8 = .ok (.iload_n 1, 1) := by decide +kernel
theorem dX8_divide_9 : decode cX8_divide 9 = .ok (.if_icmp .ge 51, 3) := by decide +kernel
theorem dX8_divide_12 : decode cX8_divide 12 = .ok (.iload 5, 2) := by decide +kernel
theorem dX8_divide_14 : decode cX8_divide 14 = .ok (.aload_n 0, 1) := by decide +kernel
theorem dX8_divide_15 : decode cX8_divide 15 = .ok (.arraylength, 1) := by decide +kernel
theorem dX8_divide_16 : decode cX8_divide 16 = .ok (.if_icmp .ge 44, 3) := by decide +kernel
theorem dX8_divide_19 : decode cX8_divide 19 = .ok (.iload 4, 2) := by decide +kernel
theorem dX8_divide_21 : decode cX8_divide 21 = .ok (.aload_n 3, 1) := by decide +kernel
theorem dX8_divide_22 : decode cX8_divide 22 = .ok (.arraylength, 1) := by decide +kernel
theorem dX8_divide_23 : decode cX8_divide 23 = .ok (.if_icmp .ge 37, 3) := by decide +kernel
theorem dX8_divide_26 : decode cX8_divide 26 = .ok (.aload_n 0, 1) := by decide +kernel
theorem dX8_divide_27 : decode cX8_divide 27 = .ok (.iload 5, 2) := by decide +kernel
theorem dX8_divide_29 : decode cX8_divide 29 = .ok (.iaload, 1) := by decide +kernel
theorem dX8_divide_30 : decode cX8_divide 30 = .ok (.iload_n 2, 1) := by decide +kernel
theorem dX8_divide_31 : decode cX8_divide 31 = .ok (.invokestatic 59, 3) := by decide +kernel
theorem dX8_divide_34 : decode cX8_divide 34 = .ok (.ifCond .le 20, 3) := by decide +kernel
theorem dX8_divide_37 : decode cX8_divide 37 = .ok (.aload_n 3, 1) := by decide +kernel
theorem dX8_divide_38 : decode cX8_divide 38 = .ok (.iload 4, 2) := by decide +kernel
theorem dX8_divide_40 : decode cX8_divide 40 = .ok (.aload_n 0, 1) := by decide +kernel
theorem dX8_divide_41 : decode cX8_divide 41 = .ok (.iload 5, 2) := by decide +kernel
theorem dX8_divide_43 : decode cX8_divide 43 = .ok (.iaload, 1) := by decide +kernel
theorem dX8_divide_44 : decode cX8_divide 44 = .ok (.iload_n 2, 1) := by decide +kernel
theorem dX8_divide_45 : decode cX8_divide 45 = .ok (.iconst 1, 1) := by decide +kernel
theorem dX8_divide_46 : decode cX8_divide 46 = .ok (.invokestatic 64, 3) := by decide +kernel
theorem dX8_divide_49 : decode cX8_divide 49 = .ok (.isub, 1) := by decide +kernel
theorem dX8_divide_50 : decode cX8_divide 50 = .ok (.iastore, 1) := by decide +kernel
theorem dX8_divide_51 : decode cX8_divide 51 = .ok (.iinc 4 1, 3) := by decide +kernel
theorem dX8_divide_54 : decode cX8_divide 54 = .ok (.iinc 5 1, 3) := by decide +kernel
theorem dX8_divide_57 : decode cX8_divide 57 = .ok (.goto (-51), 3) := by decide +kernel
theorem dX8_divide_60 : decode cX8_divide 60 = .ok (.iload 4, 2) := by decide +kernel
theorem dX8_divide_62 : decode cX8_divide 62 = .ok (.istore 5, 2) := by decide +kernel
theorem dX8_divide_64 : decode cX8_divide 64 = .ok (.iconst 0, 1) := by decide +kernel
theorem dX8_divide_65 : decode cX8_divide 65 = .ok (.istore 6, 2) := by decide +kernel
theorem dX8_divide_67 : decode cX8_divide 67 = .ok (.iload 6, 2) := by decide +kernel
theorem dX8_divide_69 : decode cX8_divide 69 = .ok (.iload_n 1, 1) := by decide +kernel
theorem dX8_divide_70 : decode cX8_divide 70 = .ok (.if_icmp .ge 58, 3) := by decide +kernel
theorem dX8_divide_73 : decode cX8_divide 73 = .ok (.iload 6, 2) := by decide +kernel
theorem dX8_divide_75 : decode cX8_divide 75 = .ok (.aload_n 0, 1) := by decide +kernel
theorem dX8_divide_76 : decode cX8_divide 76 = .ok (.arraylength, 1) := by decide +kernel
theorem dX8_divide_77 : decode cX8_divide 77 = .ok (.if_icmp .ge 51, 3) := by decide +kernel
theorem dX8_divide_80 : decode cX8_divide 80 = .ok (.iload 5, 2) := by decide +kernel
theorem dX8_divide_82 : decode cX8_divide 82 = .ok (.aload_n 3, 1) := by decide +kernel
theorem dX8_divide_83 : decode cX8_divide 83 = .ok (.arraylength, 1) := by decide +kernel
theorem dX8_divide_84 : decode cX8_divide 84 = .ok (.if_icmp .ge 44, 3) := by decide +kernel
theorem dX8_divide_87 : decode cX8_divide 87 = .ok (.aload_n 0, 1) := by decide +kernel
theorem dX8_divide_88 : decode cX8_divide 88 = .ok (.iload 6, 2) := by decide +kernel
theorem dX8_divide_90 : decode cX8_divide 90 = .ok (.iaload, 1) := by decide +kernel
theorem dX8_divide_91 : decode cX8_divide 91 = .ok (.iload_n 2, 1) := by decide +kernel
theorem dX8_divide_92 : decode cX8_divide 92 = .ok (.invokestatic 59, 3) := by decide +kernel
theorem dX8_divide_95 : decode cX8_divide 95 = .ok (.ifCond .ne 27, 3) := by decide +kernel
theorem dX8_divide_98 : decode cX8_divide 98 = .ok (.aload_n 3, 1) := by decide +kernel
theorem dX8_divide_99 : decode cX8_divide 99 = .ok (.iload 4, 2) := by decide +kernel
theorem dX8_divide_101 : decode cX8_divide 101 = .ok (.aload_n 0, 1) := by decide +kernel
theorem dX8_divide_102 : decode cX8_divide 102 = .ok (.iload 6, 2) := by decide +kernel
theorem dX8_divide_104 : decode cX8_divide 104 = .ok (.iaload, 1) := by decide +kernel
theorem dX8_divide_105 : decode cX8_divide 105 = .ok (.invokestatic 67, 3) := by decide +kernel
theorem dX8_divide_108 : decode cX8_divide 108 = .ok (.ifCond .ne 14, 3) := by decide +kernel
theorem dX8_divide_111 : decode cX8_divide 111 = .ok (.aload_n 3, 1) := by decide +kernel
theorem dX8_divide_112 : decode cX8_divide 112 = .ok (.iload 5, 2) := by decide +kernel
theorem dX8_divide_114 : decode cX8_divide 114 = .ok (.aload_n 0, 1) := by decide +kernel
theorem dX8_divide_115 : decode cX8_divide 115 = .ok (.iload 6, 2) := by decide +kernel
theorem dX8_divide_117 : decode cX8_divide 117 = .ok (.iaload, 1) := by decide +kernel
theorem dX8_divide_118 : decode cX8_divide 118 = .ok (.iastore, 1) := by decide +kernel
theorem dX8_divide_119 : decode cX8_divide 119 = .ok (.iinc 5 1, 3) := by decide +kernel
theorem dX8_divide_122 : decode cX8_divide 122 = .ok (.iinc 6 1, 3) := by decide +kernel
theorem dX8_divide_125 : decode cX8_divide 125 = .ok (.goto (-58), 3) := by decide +kernel
theorem dX8_divide_128 : decode cX8_divide 128 = .ok (.iload 5, 2) := by decide +kernel
theorem dX8_divide_130 : decode cX8_divide 130 = .ok (.ireturn, 1) := by decide +kernel
theorem dX8_someDivides_0 : decode cX8_someDivides 0 = .ok (.iconst 0, 1) := by decide +kernel
theorem dX8_someDivides_1 : decode cX8_someDivides 1 = .ok (.istore_n 3, 1) := by decide +kernel
theorem dX8_someDivides_2 : decode cX8_someDivides 2 = .ok (.iload_n 3, 1) := by decide +kernel
theorem dX8_someDivides_3 : decode cX8_someDivides 3 = .ok (.iload_n 1, 1) := by decide +kernel
theorem dX8_someDivides_4 : decode cX8_someDivides 4 = .ok (.if_icmp .ge 27, 3) := by decide +kernel
theorem dX8_someDivides_7 : decode cX8_someDivides 7 = .ok (.iload_n 3, 1) := by decide +kernel
theorem dX8_someDivides_8 : decode cX8_someDivides 8 = .ok (.aload_n 0, 1) := by decide +kernel
theorem dX8_someDivides_9 : decode cX8_someDivides 9 = .ok (.arraylength, 1) := by decide +kernel
theorem dX8_someDivides_10 : decode cX8_someDivides 10 = .ok (.if_icmp .ge 21, 3) := by decide +kernel
theorem dX8_someDivides_13 : decode cX8_someDivides 13 = .ok (.aload_n 0, 1) := by decide +kernel
theorem dX8_someDivides_14 : decode cX8_someDivides 14 = .ok (.iload_n 3, 1) := by decide +kernel
theorem dX8_someDivides_15 : decode cX8_someDivides 15 = .ok (.iaload, 1) := by decide +kernel
theorem dX8_someDivides_16 : decode cX8_someDivides 16 = .ok (.iload_n 2, 1) := by decide +kernel
theorem dX8_someDivides_17 : decode cX8_someDivides 17 = .ok (.invokestatic 71, 3) := by decide +kernel
theorem dX8_someDivides_20 : decode cX8_someDivides 20 = .ok (.ifCond .eq 5, 3) := by decide +kernel
theorem dX8_someDivides_23 : decode cX8_someDivides 23 = .ok (.iconst 1, 1) := by decide +kernel
theorem dX8_someDivides_24 : decode cX8_someDivides 24 = .ok (.ireturn, 1) := by decide +kernel
theorem dX8_someDivides_25 : decode cX8_someDivides 25 = .ok (.iinc 3 1, 3) := by decide +kernel
theorem dX8_someDivides_28 : decode cX8_someDivides 28 = .ok (.goto (-26), 3) := by decide +kernel
theorem dX8_someDivides_31 : decode cX8_someDivides 31 = .ok (.iconst 0, 1) := by decide +kernel
theorem dX8_someDivides_32 : decode cX8_someDivides 32 = .ok (.ireturn, 1) := by decide +kernel
theorem dX9_init_0 : decode cX9_init 0 = .ok (.aload_n 0, 1) := by decide +kernel
theorem dX9_init_1 : decode cX9_init 1 = .ok (.invokespecial 3, 3) := by decide +kernel
theorem dX9_init_4 : decode cX9_init 4 = .ok (.aload_n 0, 1) := by decide +kernel
theorem dX9_init_5 : decode cX9_init 5 = .ok (.new 9, 3) := by decide +kernel
theorem dX9_init_8 : decode cX9_init 8 = .ok (.dup, 1) := by decide +kernel
theorem dX9_init_9 : decode cX9_init 9 = .ok (.invokespecial 11, 3) := by decide +kernel
theorem dX9_init_12 : decode cX9_init 12 = .ok (.putfield 12, 3) := by decide +kernel
theorem dX9_init_15 : decode cX9_init 15 = .ok (.aload_n 0, 1) := by decide +kernel
theorem dX9_init_16 : decode cX9_init 16 = .ok (.new 9, 3) := by decide +kernel
theorem dX9_init_19 : decode cX9_init 19 = .ok (.dup, 1) := by decide +kernel
theorem dX9_init_20 : decode cX9_init 20 = .ok (.invokespecial 11, 3) := by decide +kernel
theorem dX9_init_23 : decode cX9_init 23 = .ok (.putfield 18, 3) := by decide +kernel
theorem dX9_init_26 : decode cX9_init 26 = .ok (.return_, 1) := by decide +kernel
theorem dX9_gather_0 : decode cX9_gather 0 = .ok (.aload_n 0, 1) := by decide +kernel
theorem dX9_gather_1 : decode cX9_gather 1 = .ok (.getfield 12, 3) := by decide +kernel
theorem dX9_gather_4 : decode cX9_gather 4 = .ok (.invokevirtual 21, 3) := by decide +kernel
theorem dX9_gather_7 : decode cX9_gather 7 = .ok (.iconst 0, 1) := by decide +kernel
theorem dX9_gather_8 : decode cX9_gather 8 = .ok (.istore_n 2, 1) := by decide +kernel
theorem dX9_gather_9 : decode cX9_gather 9 = .ok (.iload_n 2, 1) := by decide +kernel
theorem dX9_gather_10 : decode cX9_gather 10 = .ok (.aload_n 1, 1) := by decide +kernel
theorem dX9_gather_11 : decode cX9_gather 11 = .ok (.getfield 24, 3) := by decide +kernel
theorem dX9_gather_14 : decode cX9_gather 14 = .ok (.if_icmp .ge 22, 3) := by decide +kernel
theorem dX9_gather_17 : decode cX9_gather 17 = .ok (.aload_n 0, 1) := by decide +kernel
theorem dX9_gather_18 : decode cX9_gather 18 = .ok (.getfield 12, 3) := by decide +kernel
theorem dX9_gather_21 : decode cX9_gather 21 = .ok (.aload_n 1, 1) := by decide +kernel
theorem dX9_gather_22 : decode cX9_gather 22 = .ok (.getfield 30, 3) := by decide +kernel
theorem dX9_gather_25 : decode cX9_gather 25 = .ok (.iload_n 2, 1) := by decide +kernel
theorem dX9_gather_26 : decode cX9_gather 26 = .ok (.iaload, 1) := by decide +kernel
theorem dX9_gather_27 : decode cX9_gather 27 = .ok (.invokevirtual 34, 3) := by decide +kernel
theorem dX9_gather_30 : decode cX9_gather 30 = .ok (.iinc 2 1, 3) := by decide +kernel
theorem dX9_gather_33 : decode cX9_gather 33 = .ok (.goto (-24), 3) := by decide +kernel
theorem dX9_gather_36 : decode cX9_gather 36 = .ok (.aload_n 0, 1) := by decide +kernel
theorem dX9_gather_37 : decode cX9_gather 37 = .ok (.getfield 12, 3) := by decide +kernel
theorem dX9_gather_40 : decode cX9_gather 40 = .ok (.invokevirtual 38, 3) := by decide +kernel
theorem dX9_gather_43 : decode cX9_gather 43 = .ok (.return_, 1) := by decide +kernel
theorem dX9_combine_0 : decode cX9_combine 0 = .ok (.iload_n 1, 1) := by decide +kernel
theorem dX9_combine_1 : decode cX9_combine 1 = .ok (.tableswitch 107 0 3 #[31, 56, 85, 92], 31) := by decide +kernel
theorem dX9_combine_32 : decode cX9_combine 32 = .ok (.aload_n 0, 1) := by decide +kernel
theorem dX9_combine_33 : decode cX9_combine 33 = .ok (.getfield 12, 3) := by decide +kernel
theorem dX9_combine_36 : decode cX9_combine 36 = .ok (.aload_n 2, 1) := by decide +kernel
theorem dX9_combine_37 : decode cX9_combine 37 = .ok (.invokevirtual 41, 3) := by decide +kernel
theorem dX9_combine_40 : decode cX9_combine 40 = .ok (.aload_n 0, 1) := by decide +kernel
theorem dX9_combine_41 : decode cX9_combine 41 = .ok (.getfield 12, 3) := by decide +kernel
theorem dX9_combine_44 : decode cX9_combine 44 = .ok (.aload_n 3, 1) := by decide +kernel
theorem dX9_combine_45 : decode cX9_combine 45 = .ok (.invokevirtual 45, 3) := by decide +kernel
theorem dX9_combine_48 : decode cX9_combine 48 = .ok (.aload_n 0, 1) := by decide +kernel
theorem dX9_combine_49 : decode cX9_combine 49 = .ok (.getfield 12, 3) := by decide +kernel
theorem dX9_combine_52 : decode cX9_combine 52 = .ok (.invokevirtual 38, 3) := by decide +kernel
theorem dX9_combine_55 : decode cX9_combine 55 = .ok (.iconst 1, 1) := by decide +kernel
theorem dX9_combine_56 : decode cX9_combine 56 = .ok (.ireturn, 1) := by decide +kernel
theorem dX9_combine_57 : decode cX9_combine 57 = .ok (.aload_n 0, 1) := by decide +kernel
theorem dX9_combine_58 : decode cX9_combine 58 = .ok (.getfield 12, 3) := by decide +kernel
theorem dX9_combine_61 : decode cX9_combine 61 = .ok (.aload_n 2, 1) := by decide +kernel
theorem dX9_combine_62 : decode cX9_combine 62 = .ok (.invokevirtual 41, 3) := by decide +kernel
theorem dX9_combine_65 : decode cX9_combine 65 = .ok (.aload_n 0, 1) := by decide +kernel
theorem dX9_combine_66 : decode cX9_combine 66 = .ok (.getfield 18, 3) := by decide +kernel
theorem dX9_combine_69 : decode cX9_combine 69 = .ok (.aload_n 3, 1) := by decide +kernel
theorem dX9_combine_70 : decode cX9_combine 70 = .ok (.invokevirtual 41, 3) := by decide +kernel
theorem dX9_combine_73 : decode cX9_combine 73 = .ok (.aload_n 0, 1) := by decide +kernel
theorem dX9_combine_74 : decode cX9_combine 74 = .ok (.getfield 12, 3) := by decide +kernel
theorem dX9_combine_77 : decode cX9_combine 77 = .ok (.aload_n 0, 1) := by decide +kernel
theorem dX9_combine_78 : decode cX9_combine 78 = .ok (.getfield 18, 3) := by decide +kernel
theorem dX9_combine_81 : decode cX9_combine 81 = .ok (.invokevirtual 48, 3) := by decide +kernel
theorem dX9_combine_84 : decode cX9_combine 84 = .ok (.iconst 1, 1) := by decide +kernel
theorem dX9_combine_85 : decode cX9_combine 85 = .ok (.ireturn, 1) := by decide +kernel
theorem dX9_combine_86 : decode cX9_combine 86 = .ok (.aload_n 0, 1) := by decide +kernel
theorem dX9_combine_87 : decode cX9_combine 87 = .ok (.aload_n 2, 1) := by decide +kernel
theorem dX9_combine_88 : decode cX9_combine 88 = .ok (.aload_n 3, 1) := by decide +kernel
theorem dX9_combine_89 : decode cX9_combine 89 = .ok (.invokevirtual 52, 3) := by decide +kernel
theorem dX9_combine_92 : decode cX9_combine 92 = .ok (.ireturn, 1) := by decide +kernel
theorem dX9_combine_93 : decode cX9_combine 93 = .ok (.aload_n 0, 1) := by decide +kernel
theorem dX9_combine_94 : decode cX9_combine 94 = .ok (.getfield 18, 3) := by decide +kernel
theorem dX9_combine_97 : decode cX9_combine 97 = .ok (.aload_n 2, 1) := by decide +kernel
theorem dX9_combine_98 : decode cX9_combine 98 = .ok (.invokevirtual 41, 3) := by decide +kernel
theorem dX9_combine_101 : decode cX9_combine 101 = .ok (.aload_n 0, 1) := by decide +kernel
theorem dX9_combine_102 : decode cX9_combine 102 = .ok (.aload_n 3, 1) := by decide +kernel
theorem dX9_combine_103 : decode cX9_combine 103 = .ok (.invokevirtual 56, 3) := by decide +kernel
theorem dX9_combine_106 : decode cX9_combine 106 = .ok (.iconst 1, 1) := by decide +kernel
theorem dX9_combine_107 : decode cX9_combine 107 = .ok (.ireturn, 1) := by decide +kernel
theorem dX9_combine_108 : decode cX9_combine 108 = .ok (.aload_n 0, 1) := by decide +kernel
theorem dX9_combine_109 : decode cX9_combine 109 = .ok (.aload_n 2, 1) := by decide +kernel
theorem dX9_combine_110 : decode cX9_combine 110 = .ok (.invokevirtual 59, 3) := by decide +kernel
theorem dX9_combine_113 : decode cX9_combine 113 = .ok (.iconst 1, 1) := by decide +kernel
theorem dX9_combine_114 : decode cX9_combine 114 = .ok (.ireturn, 1) := by decide +kernel
theorem dX9_productFits_0 : decode cX9_productFits 0 = .ok (.aload_n 0, 1) := by decide +kernel
theorem dX9_productFits_1 : decode cX9_productFits 1 = .ok (.getfield 12, 3) := by decide +kernel
theorem dX9_productFits_4 : decode cX9_productFits 4 = .ok (.invokevirtual 21, 3) := by decide +kernel
theorem dX9_productFits_7 : decode cX9_productFits 7 = .ok (.iconst 0, 1) := by decide +kernel
theorem dX9_productFits_8 : decode cX9_productFits 8 = .ok (.istore_n 3, 1) := by decide +kernel
theorem dX9_productFits_9 : decode cX9_productFits 9 = .ok (.iload_n 3, 1) := by decide +kernel
theorem dX9_productFits_10 : decode cX9_productFits 10 = .ok (.aload_n 1, 1) := by decide +kernel
theorem dX9_productFits_11 : decode cX9_productFits 11 = .ok (.getfield 62, 3) := by decide +kernel
theorem dX9_productFits_14 : decode cX9_productFits 14 = .ok (.if_icmp .ge 60, 3) := by decide +kernel
theorem dX9_productFits_17 : decode cX9_productFits 17 = .ok (.iconst 0, 1) := by decide +kernel
theorem dX9_productFits_18 : decode cX9_productFits 18 = .ok (.istore 4, 2) := by decide +kernel
theorem dX9_productFits_20 : decode cX9_productFits 20 = .ok (.iload 4, 2) := by decide +kernel
theorem dX9_productFits_22 : decode cX9_productFits 22 = .ok (.aload_n 2, 1) := by decide +kernel
theorem dX9_productFits_23 : decode cX9_productFits 23 = .ok (.getfield 62, 3) := by decide +kernel
theorem dX9_productFits_26 : decode cX9_productFits 26 = .ok (.if_icmp .ge 42, 3) := by decide +kernel
theorem dX9_productFits_29 : decode cX9_productFits 29 = .ok (.aload_n 1, 1) := by decide +kernel
theorem dX9_productFits_30 : decode cX9_productFits 30 = .ok (.getfield 67, 3) := by decide +kernel
theorem dX9_productFits_33 : decode cX9_productFits 33 = .ok (.iload_n 3, 1) := by decide +kernel
theorem dX9_productFits_34 : decode cX9_productFits 34 = .ok (.iaload, 1) := by decide +kernel
theorem dX9_productFits_35 : decode cX9_productFits 35 = .ok (.aload_n 2, 1) := by decide +kernel
theorem dX9_productFits_36 : decode cX9_productFits 36 = .ok (.getfield 67, 3) := by decide +kernel
theorem dX9_productFits_39 : decode cX9_productFits 39 = .ok (.iload 4, 2) := by decide +kernel
theorem dX9_productFits_41 : decode cX9_productFits 41 = .ok (.iaload, 1) := by decide +kernel
theorem dX9_productFits_42 : decode cX9_productFits 42 = .ok (.iadd, 1) := by decide +kernel
theorem dX9_productFits_43 : decode cX9_productFits 43 = .ok (.istore 5, 2) := by decide +kernel
theorem dX9_productFits_45 : decode cX9_productFits 45 = .ok (.iload 5, 2) := by decide +kernel
theorem dX9_productFits_47 : decode cX9_productFits 47 = .ok (.invokestatic 70, 3) := by decide +kernel
theorem dX9_productFits_50 : decode cX9_productFits 50 = .ok (.ifCond .ne 12, 3) := by decide +kernel
theorem dX9_productFits_53 : decode cX9_productFits 53 = .ok (.aload_n 0, 1) := by decide +kernel
theorem dX9_productFits_54 : decode cX9_productFits 54 = .ok (.getfield 12, 3) := by decide +kernel
theorem dX9_productFits_57 : decode cX9_productFits 57 = .ok (.iload 5, 2) := by decide +kernel
theorem dX9_productFits_59 : decode cX9_productFits 59 = .ok (.invokevirtual 34, 3) := by decide +kernel
theorem dX9_productFits_62 : decode cX9_productFits 62 = .ok (.iinc 4 1, 3) := by decide +kernel
theorem dX9_productFits_65 : decode cX9_productFits 65 = .ok (.goto (-45), 3) := by decide +kernel
theorem dX9_productFits_68 : decode cX9_productFits 68 = .ok (.iinc 3 1, 3) := by decide +kernel
theorem dX9_productFits_71 : decode cX9_productFits 71 = .ok (.goto (-62), 3) := by decide +kernel
theorem dX9_productFits_74 : decode cX9_productFits 74 = .ok (.aload_n 0, 1) := by decide +kernel
theorem dX9_productFits_75 : decode cX9_productFits 75 = .ok (.getfield 12, 3) := by decide +kernel
theorem dX9_productFits_78 : decode cX9_productFits 78 = .ok (.invokevirtual 38, 3) := by decide +kernel
theorem dX9_productFits_81 : decode cX9_productFits 81 = .ok (.iconst 0, 1) := by decide +kernel
theorem dX9_productFits_82 : decode cX9_productFits 82 = .ok (.istore_n 3, 1) := by decide +kernel
theorem dX9_productFits_83 : decode cX9_productFits 83 = .ok (.iload_n 3, 1) := by decide +kernel
theorem dX9_productFits_84 : decode cX9_productFits 84 = .ok (.aload_n 1, 1) := by decide +kernel
theorem dX9_productFits_85 : decode cX9_productFits 85 = .ok (.getfield 62, 3) := by decide +kernel
theorem dX9_productFits_88 : decode cX9_productFits 88 = .ok (.if_icmp .ge 65, 3) := by decide +kernel
theorem dX9_productFits_91 : decode cX9_productFits 91 = .ok (.iconst 0, 1) := by decide +kernel
theorem dX9_productFits_92 : decode cX9_productFits 92 = .ok (.istore 4, 2) := by decide +kernel
theorem dX9_productFits_94 : decode cX9_productFits 94 = .ok (.iload 4, 2) := by decide +kernel
theorem dX9_productFits_96 : decode cX9_productFits 96 = .ok (.aload_n 2, 1) := by decide +kernel
theorem dX9_productFits_97 : decode cX9_productFits 97 = .ok (.getfield 62, 3) := by decide +kernel
theorem dX9_productFits_100 : decode cX9_productFits 100 = .ok (.if_icmp .ge 47, 3) := by decide +kernel
theorem dX9_productFits_103 : decode cX9_productFits 103 = .ok (.aload_n 1, 1) := by decide +kernel
theorem dX9_productFits_104 : decode cX9_productFits 104 = .ok (.getfield 67, 3) := by decide +kernel
theorem dX9_productFits_107 : decode cX9_productFits 107 = .ok (.iload_n 3, 1) := by decide +kernel
theorem dX9_productFits_108 : decode cX9_productFits 108 = .ok (.iaload, 1) := by decide +kernel
theorem dX9_productFits_109 : decode cX9_productFits 109 = .ok (.aload_n 2, 1) := by decide +kernel
theorem dX9_productFits_110 : decode cX9_productFits 110 = .ok (.getfield 67, 3) := by decide +kernel
theorem dX9_productFits_113 : decode cX9_productFits 113 = .ok (.iload 4, 2) := by decide +kernel
theorem dX9_productFits_115 : decode cX9_productFits 115 = .ok (.iaload, 1) := by decide +kernel
theorem dX9_productFits_116 : decode cX9_productFits 116 = .ok (.iadd, 1) := by decide +kernel
theorem dX9_productFits_117 : decode cX9_productFits 117 = .ok (.istore 5, 2) := by decide +kernel
theorem dX9_productFits_119 : decode cX9_productFits 119 = .ok (.iload 5, 2) := by decide +kernel
theorem dX9_productFits_121 : decode cX9_productFits 121 = .ok (.invokestatic 70, 3) := by decide +kernel
theorem dX9_productFits_124 : decode cX9_productFits 124 = .ok (.ifCond .eq 17, 3) := by decide +kernel
theorem dX9_productFits_127 : decode cX9_productFits 127 = .ok (.aload_n 0, 1) := by decide +kernel
theorem dX9_productFits_128 : decode cX9_productFits 128 = .ok (.getfield 12, 3) := by decide +kernel
theorem dX9_productFits_131 : decode cX9_productFits 131 = .ok (.iload 5, 2) := by decide +kernel
theorem dX9_productFits_133 : decode cX9_productFits 133 = .ok (.invokevirtual 76, 3) := by decide +kernel
theorem dX9_productFits_136 : decode cX9_productFits 136 = .ok (.ifCond .ne 5, 3) := by decide +kernel
theorem dX9_productFits_139 : decode cX9_productFits 139 = .ok (.iconst 0, 1) := by decide +kernel
theorem dX9_productFits_140 : decode cX9_productFits 140 = .ok (.ireturn, 1) := by decide +kernel
theorem dX9_productFits_141 : decode cX9_productFits 141 = .ok (.iinc 4 1, 3) := by decide +kernel
theorem dX9_productFits_144 : decode cX9_productFits 144 = .ok (.goto (-50), 3) := by decide +kernel
theorem dX9_productFits_147 : decode cX9_productFits 147 = .ok (.iinc 3 1, 3) := by decide +kernel
theorem dX9_productFits_150 : decode cX9_productFits 150 = .ok (.goto (-67), 3) := by decide +kernel
theorem dX9_productFits_153 : decode cX9_productFits 153 = .ok (.iconst 1, 1) := by decide +kernel
theorem dX9_productFits_154 : decode cX9_productFits 154 = .ok (.ireturn, 1) := by decide +kernel
theorem dX9_divideOther_0 : decode cX9_divideOther 0 = .ok (.aload_n 0, 1) := by decide +kernel
theorem dX9_divideOther_1 : decode cX9_divideOther 1 = .ok (.getfield 12, 3) := by decide +kernel
theorem dX9_divideOther_4 : decode cX9_divideOther 4 = .ok (.invokevirtual 79, 3) := by decide +kernel
theorem dX9_divideOther_7 : decode cX9_divideOther 7 = .ok (.iconst 0, 1) := by decide +kernel
theorem dX9_divideOther_8 : decode cX9_divideOther 8 = .ok (.istore_n 2, 1) := by decide +kernel
theorem dX9_divideOther_9 : decode cX9_divideOther 9 = .ok (.iload_n 2, 1) := by decide +kernel
theorem dX9_divideOther_10 : decode cX9_divideOther 10 = .ok (.aload_n 1, 1) := by decide +kernel
theorem dX9_divideOther_11 : decode cX9_divideOther 11 = .ok (.getfield 62, 3) := by decide +kernel
theorem dX9_divideOther_14 : decode cX9_divideOther 14 = .ok (.if_icmp .ge 104, 3) := by decide +kernel
theorem dX9_divideOther_17 : decode cX9_divideOther 17 = .ok (.aload_n 1, 1) := by decide +kernel
theorem dX9_divideOther_18 : decode cX9_divideOther 18 = .ok (.getfield 67, 3) := by decide +kernel
theorem dX9_divideOther_21 : decode cX9_divideOther 21 = .ok (.iload_n 2, 1) := by decide +kernel
theorem dX9_divideOther_22 : decode cX9_divideOther 22 = .ok (.iaload, 1) := by decide +kernel
theorem dX9_divideOther_23 : decode cX9_divideOther 23 = .ok (.istore_n 3, 1) := by decide +kernel
theorem dX9_divideOther_24 : decode cX9_divideOther 24 = .ok (.iload_n 3, 1) := by decide +kernel
theorem dX9_divideOther_25 : decode cX9_divideOther 25 = .ok (.iconst 3, 1) := by decide +kernel
theorem dX9_divideOther_26 : decode cX9_divideOther 26 = .ok (.invokestatic 82, 3) := by decide +kernel
theorem dX9_divideOther_29 : decode cX9_divideOther 29 = .ok (.istore 4, 2) := by decide +kernel
theorem dX9_divideOther_31 : decode cX9_divideOther 31 = .ok (.iconst 0, 1) := by decide +kernel
theorem dX9_divideOther_32 : decode cX9_divideOther 32 = .ok (.istore 5, 2) := by decide +kernel
theorem dX9_divideOther_34 : decode cX9_divideOther 34 = .ok (.iload 5, 2) := by decide +kernel
theorem dX9_divideOther_36 : decode cX9_divideOther 36 = .ok (.sipush 343, 3) := by decide +kernel
theorem dX9_divideOther_39 : decode cX9_divideOther 39 = .ok (.if_icmp .ge 73, 3) := by decide +kernel
theorem dX9_divideOther_42 : decode cX9_divideOther 42 = .ok (.aload_n 0, 1) := by decide +kernel
theorem dX9_divideOther_43 : decode cX9_divideOther 43 = .ok (.getfield 18, 3) := by decide +kernel
theorem dX9_divideOther_46 : decode cX9_divideOther 46 = .ok (.getfield 86, 3) := by decide +kernel
theorem dX9_divideOther_49 : decode cX9_divideOther 49 = .ok (.iload 5, 2) := by decide +kernel
theorem dX9_divideOther_51 : decode cX9_divideOther 51 = .ok (.invokestatic 89, 3) := by decide +kernel
theorem dX9_divideOther_54 : decode cX9_divideOther 54 = .ok (.iload_n 3, 1) := by decide +kernel
theorem dX9_divideOther_55 : decode cX9_divideOther 55 = .ok (.iadd, 1) := by decide +kernel
theorem dX9_divideOther_56 : decode cX9_divideOther 56 = .ok (.invokestatic 93, 3) := by decide +kernel
theorem dX9_divideOther_59 : decode cX9_divideOther 59 = .ok (.iaload, 1) := by decide +kernel
theorem dX9_divideOther_60 : decode cX9_divideOther 60 = .ok (.istore 6, 2) := by decide +kernel
theorem dX9_divideOther_62 : decode cX9_divideOther 62 = .ok (.iload 6, 2) := by decide +kernel
theorem dX9_divideOther_64 : decode cX9_divideOther 64 = .ok (.bipush 6, 2) := by decide +kernel
theorem dX9_divideOther_66 : decode cX9_divideOther 66 = .ok (.if_icmp .le 8, 3) := by decide +kernel
theorem dX9_divideOther_69 : decode cX9_divideOther 69 = .ok (.iload 6, 2) := by decide +kernel
theorem dX9_divideOther_71 : decode cX9_divideOther 71 = .ok (.goto 8, 3) := by decide +kernel
theorem dX9_divideOther_74 : decode cX9_divideOther 74 = .ok (.iload 6, 2) := by decide +kernel
theorem dX9_divideOther_76 : decode cX9_divideOther 76 = .ok (.iload 4, 2) := by decide +kernel
theorem dX9_divideOther_78 : decode cX9_divideOther 78 = .ok (.isub, 1) := by decide +kernel
theorem dX9_divideOther_79 : decode cX9_divideOther 79 = .ok (.istore 7, 2) := by decide +kernel
theorem dX9_divideOther_81 : decode cX9_divideOther 81 = .ok (.aload_n 0, 1) := by decide +kernel
theorem dX9_divideOther_82 : decode cX9_divideOther 82 = .ok (.getfield 12, 3) := by decide +kernel
theorem dX9_divideOther_85 : decode cX9_divideOther 85 = .ok (.getfield 86, 3) := by decide +kernel
theorem dX9_divideOther_88 : decode cX9_divideOther 88 = .ok (.iload 5, 2) := by decide +kernel
theorem dX9_divideOther_90 : decode cX9_divideOther 90 = .ok (.aload_n 0, 1) := by decide +kernel
theorem dX9_divideOther_91 : decode cX9_divideOther 91 = .ok (.getfield 12, 3) := by decide +kernel
theorem dX9_divideOther_94 : decode cX9_divideOther 94 = .ok (.getfield 86, 3) := by decide +kernel
theorem dX9_divideOther_97 : decode cX9_divideOther 97 = .ok (.iload 5, 2) := by decide +kernel
theorem dX9_divideOther_99 : decode cX9_divideOther 99 = .ok (.iaload, 1) := by decide +kernel
theorem dX9_divideOther_100 : decode cX9_divideOther 100 = .ok (.iload 7, 2) := by decide +kernel
theorem dX9_divideOther_102 : decode cX9_divideOther 102 = .ok (.invokestatic 96, 3) := by decide +kernel
theorem dX9_divideOther_105 : decode cX9_divideOther 105 = .ok (.iastore, 1) := by decide +kernel
theorem dX9_divideOther_106 : decode cX9_divideOther 106 = .ok (.iinc 5 1, 3) := by decide +kernel
theorem dX9_divideOther_109 : decode cX9_divideOther 109 = .ok (.goto (-75), 3) := by decide +kernel
theorem dX9_divideOther_112 : decode cX9_divideOther 112 = .ok (.iinc 2 1, 3) := by decide +kernel
theorem dX9_divideOther_115 : decode cX9_divideOther 115 = .ok (.goto (-106), 3) := by decide +kernel
theorem dX9_divideOther_118 : decode cX9_divideOther 118 = .ok (.return_, 1) := by decide +kernel
theorem dX9_radicalOf_0 : decode cX9_radicalOf 0 = .ok (.aload_n 0, 1) := by decide +kernel
theorem dX9_radicalOf_1 : decode cX9_radicalOf 1 = .ok (.getfield 12, 3) := by decide +kernel
theorem dX9_radicalOf_4 : decode cX9_radicalOf 4 = .ok (.invokevirtual 21, 3) := by decide +kernel
theorem dX9_radicalOf_7 : decode cX9_radicalOf 7 = .ok (.iconst 0, 1) := by decide +kernel
theorem dX9_radicalOf_8 : decode cX9_radicalOf 8 = .ok (.istore_n 2, 1) := by decide +kernel
theorem dX9_radicalOf_9 : decode cX9_radicalOf 9 = .ok (.iload_n 2, 1) := by decide +kernel
theorem dX9_radicalOf_10 : decode cX9_radicalOf 10 = .ok (.aload_n 1, 1) := by decide +kernel
theorem dX9_radicalOf_11 : decode cX9_radicalOf 11 = .ok (.getfield 62, 3) := by decide +kernel
theorem dX9_radicalOf_14 : decode cX9_radicalOf 14 = .ok (.if_icmp .ge 28, 3) := by decide +kernel
theorem dX9_radicalOf_17 : decode cX9_radicalOf 17 = .ok (.aload_n 0, 1) := by decide +kernel
theorem dX9_radicalOf_18 : decode cX9_radicalOf 18 = .ok (.getfield 12, 3) := by decide +kernel
theorem dX9_radicalOf_21 : decode cX9_radicalOf 21 = .ok (.aload_n 1, 1) := by decide +kernel
theorem dX9_radicalOf_22 : decode cX9_radicalOf 22 = .ok (.getfield 67, 3) := by decide +kernel
theorem dX9_radicalOf_25 : decode cX9_radicalOf 25 = .ok (.iload_n 2, 1) := by decide +kernel
theorem dX9_radicalOf_26 : decode cX9_radicalOf 26 = .ok (.iaload, 1) := by decide +kernel
theorem dX9_radicalOf_27 : decode cX9_radicalOf 27 = .ok (.invokestatic 101, 3) := by decide +kernel
theorem dX9_radicalOf_30 : decode cX9_radicalOf 30 = .ok (.invokestatic 104, 3) := by decide +kernel
theorem dX9_radicalOf_33 : decode cX9_radicalOf 33 = .ok (.invokevirtual 34, 3) := by decide +kernel
theorem dX9_radicalOf_36 : decode cX9_radicalOf 36 = .ok (.iinc 2 1, 3) := by decide +kernel
theorem dX9_radicalOf_39 : decode cX9_radicalOf 39 = .ok (.goto (-30), 3) := by decide +kernel
theorem dX9_radicalOf_42 : decode cX9_radicalOf 42 = .ok (.aload_n 0, 1) := by decide +kernel
theorem dX9_radicalOf_43 : decode cX9_radicalOf 43 = .ok (.getfield 12, 3) := by decide +kernel
theorem dX9_radicalOf_46 : decode cX9_radicalOf 46 = .ok (.invokevirtual 38, 3) := by decide +kernel
theorem dX9_radicalOf_49 : decode cX9_radicalOf 49 = .ok (.return_, 1) := by decide +kernel
theorem dX9_meetParts_0 : decode cX9_meetParts 0 = .ok (.aload_n 0, 1) := by decide +kernel
theorem dX9_meetParts_1 : decode cX9_meetParts 1 = .ok (.getfield 12, 3) := by decide +kernel
theorem dX9_meetParts_4 : decode cX9_meetParts 4 = .ok (.invokevirtual 79, 3) := by decide +kernel
theorem dX9_meetParts_7 : decode cX9_meetParts 7 = .ok (.iconst 0, 1) := by decide +kernel
theorem dX9_meetParts_8 : decode cX9_meetParts 8 = .ok (.istore_n 3, 1) := by decide +kernel
theorem dX9_meetParts_9 : decode cX9_meetParts 9 = .ok (.iload_n 3, 1) := by decide +kernel
theorem dX9_meetParts_10 : decode cX9_meetParts 10 = .ok (.sipush 343, 3) := by decide +kernel
theorem dX9_meetParts_13 : decode cX9_meetParts 13 = .ok (.if_icmp .ge 54, 3) := by decide +kernel
theorem dX9_meetParts_16 : decode cX9_meetParts 16 = .ok (.aload_n 1, 1) := by decide +kernel
theorem dX9_meetParts_17 : decode cX9_meetParts 17 = .ok (.iload_n 3, 1) := by decide +kernel
theorem dX9_meetParts_18 : decode cX9_meetParts 18 = .ok (.invokevirtual 107, 3) := by decide +kernel
theorem dX9_meetParts_21 : decode cX9_meetParts 21 = .ok (.istore 4, 2) := by decide +kernel
theorem dX9_meetParts_23 : decode cX9_meetParts 23 = .ok (.iload 4, 2) := by decide +kernel
theorem dX9_meetParts_25 : decode cX9_meetParts 25 = .ok (.iconst (-1), 1) := by decide +kernel
theorem dX9_meetParts_26 : decode cX9_meetParts 26 = .ok (.if_icmp .eq 35, 3) := by decide +kernel
theorem dX9_meetParts_29 : decode cX9_meetParts 29 = .ok (.iload 4, 2) := by decide +kernel
theorem dX9_meetParts_31 : decode cX9_meetParts 31 = .ok (.invokestatic 101, 3) := by decide +kernel
theorem dX9_meetParts_34 : decode cX9_meetParts 34 = .ok (.iload_n 2, 1) := by decide +kernel
theorem dX9_meetParts_35 : decode cX9_meetParts 35 = .ok (.if_icmp .ne 26, 3) := by decide +kernel
theorem dX9_meetParts_38 : decode cX9_meetParts 38 = .ok (.iload_n 3, 1) := by decide +kernel
theorem dX9_meetParts_39 : decode cX9_meetParts 39 = .ok (.invokestatic 110, 3) := by decide +kernel
theorem dX9_meetParts_42 : decode cX9_meetParts 42 = .ok (.istore 5, 2) := by decide +kernel
theorem dX9_meetParts_44 : decode cX9_meetParts 44 = .ok (.aload_n 0, 1) := by decide +kernel
theorem dX9_meetParts_45 : decode cX9_meetParts 45 = .ok (.getfield 12, 3) := by decide +kernel
theorem dX9_meetParts_48 : decode cX9_meetParts 48 = .ok (.getfield 86, 3) := by decide +kernel
theorem dX9_meetParts_51 : decode cX9_meetParts 51 = .ok (.iload 5, 2) := by decide +kernel
theorem dX9_meetParts_53 : decode cX9_meetParts 53 = .ok (.aload_n 1, 1) := by decide +kernel
theorem dX9_meetParts_54 : decode cX9_meetParts 54 = .ok (.getfield 86, 3) := by decide +kernel
theorem dX9_meetParts_57 : decode cX9_meetParts 57 = .ok (.iload 5, 2) := by decide +kernel
theorem dX9_meetParts_59 : decode cX9_meetParts 59 = .ok (.iaload, 1) := by decide +kernel
theorem dX9_meetParts_60 : decode cX9_meetParts 60 = .ok (.iastore, 1) := by decide +kernel
theorem dX9_meetParts_61 : decode cX9_meetParts 61 = .ok (.iinc 3 1, 3) := by decide +kernel
theorem dX9_meetParts_64 : decode cX9_meetParts 64 = .ok (.goto (-55), 3) := by decide +kernel
theorem dX9_meetParts_67 : decode cX9_meetParts 67 = .ok (.aload_n 0, 1) := by decide +kernel
theorem dX9_meetParts_68 : decode cX9_meetParts 68 = .ok (.getfield 12, 3) := by decide +kernel
theorem dX9_meetParts_71 : decode cX9_meetParts 71 = .ok (.invokevirtual 113, 3) := by decide +kernel
theorem dX9_meetParts_74 : decode cX9_meetParts 74 = .ok (.return_, 1) := by decide +kernel
theorem dX9_turnParts_0 : decode cX9_turnParts 0 = .ok (.aload_n 0, 1) := by decide +kernel
theorem dX9_turnParts_1 : decode cX9_turnParts 1 = .ok (.getfield 12, 3) := by decide +kernel
theorem dX9_turnParts_4 : decode cX9_turnParts 4 = .ok (.invokevirtual 21, 3) := by decide +kernel
theorem dX9_turnParts_7 : decode cX9_turnParts 7 = .ok (.iconst 0, 1) := by decide +kernel
theorem dX9_turnParts_8 : decode cX9_turnParts 8 = .ok (.istore_n 3, 1) := by decide +kernel
theorem dX9_turnParts_9 : decode cX9_turnParts 9 = .ok (.iload_n 3, 1) := by decide +kernel
theorem dX9_turnParts_10 : decode cX9_turnParts 10 = .ok (.sipush 343, 3) := by decide +kernel
theorem dX9_turnParts_13 : decode cX9_turnParts 13 = .ok (.if_icmp .ge 48, 3) := by decide +kernel
theorem dX9_turnParts_16 : decode cX9_turnParts 16 = .ok (.aload_n 1, 1) := by decide +kernel
theorem dX9_turnParts_17 : decode cX9_turnParts 17 = .ok (.iload_n 3, 1) := by decide +kernel
theorem dX9_turnParts_18 : decode cX9_turnParts 18 = .ok (.invokevirtual 107, 3) := by decide +kernel
theorem dX9_turnParts_21 : decode cX9_turnParts 21 = .ok (.istore 4, 2) := by decide +kernel
theorem dX9_turnParts_23 : decode cX9_turnParts 23 = .ok (.iload 4, 2) := by decide +kernel
theorem dX9_turnParts_25 : decode cX9_turnParts 25 = .ok (.iconst (-1), 1) := by decide +kernel
theorem dX9_turnParts_26 : decode cX9_turnParts 26 = .ok (.if_icmp .eq 29, 3) := by decide +kernel
theorem dX9_turnParts_29 : decode cX9_turnParts 29 = .ok (.aload_n 0, 1) := by decide +kernel
theorem dX9_turnParts_30 : decode cX9_turnParts 30 = .ok (.getfield 12, 3) := by decide +kernel
theorem dX9_turnParts_33 : decode cX9_turnParts 33 = .ok (.iload_n 2, 1) := by decide +kernel
theorem dX9_turnParts_34 : decode cX9_turnParts 34 = .ok (.iload 4, 2) := by decide +kernel
theorem dX9_turnParts_36 : decode cX9_turnParts 36 = .ok (.invokestatic 101, 3) := by decide +kernel
theorem dX9_turnParts_39 : decode cX9_turnParts 39 = .ok (.invokestatic 104, 3) := by decide +kernel
theorem dX9_turnParts_42 : decode cX9_turnParts 42 = .ok (.iadd, 1) := by decide +kernel
theorem dX9_turnParts_43 : decode cX9_turnParts 43 = .ok (.iload 4, 2) := by decide +kernel
theorem dX9_turnParts_45 : decode cX9_turnParts 45 = .ok (.isub, 1) := by decide +kernel
theorem dX9_turnParts_46 : decode cX9_turnParts 46 = .ok (.iload 4, 2) := by decide +kernel
theorem dX9_turnParts_48 : decode cX9_turnParts 48 = .ok (.invokestatic 116, 3) := by decide +kernel
theorem dX9_turnParts_51 : decode cX9_turnParts 51 = .ok (.iand, 1) := by decide +kernel
theorem dX9_turnParts_52 : decode cX9_turnParts 52 = .ok (.invokevirtual 34, 3) := by decide +kernel
theorem dX9_turnParts_55 : decode cX9_turnParts 55 = .ok (.iinc 3 1, 3) := by decide +kernel
theorem dX9_turnParts_58 : decode cX9_turnParts 58 = .ok (.goto (-49), 3) := by decide +kernel
theorem dX9_turnParts_61 : decode cX9_turnParts 61 = .ok (.aload_n 0, 1) := by decide +kernel
theorem dX9_turnParts_62 : decode cX9_turnParts 62 = .ok (.getfield 12, 3) := by decide +kernel
theorem dX9_turnParts_65 : decode cX9_turnParts 65 = .ok (.invokevirtual 38, 3) := by decide +kernel
theorem dX9_turnParts_68 : decode cX9_turnParts 68 = .ok (.return_, 1) := by decide +kernel
theorem dX9_figuresOf_0 : decode cX9_figuresOf 0 = .ok (.bipush 15, 2) := by decide +kernel
theorem dX9_figuresOf_2 : decode cX9_figuresOf 2 = .ok (.iload_n 0, 1) := by decide +kernel
theorem dX9_figuresOf_3 : decode cX9_figuresOf 3 = .ok (.invokestatic 101, 3) := by decide +kernel
theorem dX9_figuresOf_6 : decode cX9_figuresOf 6 = .ok (.invokestatic 104, 3) := by decide +kernel
theorem dX9_figuresOf_9 : decode cX9_figuresOf 9 = .ok (.imul, 1) := by decide +kernel
theorem dX9_figuresOf_10 : decode cX9_figuresOf 10 = .ok (.ireturn, 1) := by decide +kernel
theorem dX9_deliver_0 : decode cX9_deliver 0 = .ok (.iconst 0, 1) := by decide +kernel
theorem dX9_deliver_1 : decode cX9_deliver 1 = .ok (.istore_n 2, 1) := by decide +kernel
theorem dX9_deliver_2 : decode cX9_deliver 2 = .ok (.iconst 0, 1) := by decide +kernel
theorem dX9_deliver_3 : decode cX9_deliver 3 = .ok (.istore_n 3, 1) := by decide +kernel
theorem dX9_deliver_4 : decode cX9_deliver 4 = .ok (.iload_n 3, 1) := by decide +kernel
theorem dX9_deliver_5 : decode cX9_deliver 5 = .ok (.sipush 343, 3) := by decide +kernel
theorem dX9_deliver_8 : decode cX9_deliver 8 = .ok (.if_icmp .ge 24, 3) := by decide +kernel
theorem dX9_deliver_11 : decode cX9_deliver 11 = .ok (.aload_n 0, 1) := by decide +kernel
theorem dX9_deliver_12 : decode cX9_deliver 12 = .ok (.getfield 12, 3) := by decide +kernel
theorem dX9_deliver_15 : decode cX9_deliver 15 = .ok (.iload_n 3, 1) := by decide +kernel
theorem dX9_deliver_16 : decode cX9_deliver 16 = .ok (.invokevirtual 119, 3) := by decide +kernel
theorem dX9_deliver_19 : decode cX9_deliver 19 = .ok (.iconst (-1), 1) := by decide +kernel
theorem dX9_deliver_20 : decode cX9_deliver 20 = .ok (.if_icmp .eq 6, 3) := by decide +kernel
theorem dX9_deliver_23 : decode cX9_deliver 23 = .ok (.iinc 2 1, 3) := by decide +kernel
theorem dX9_deliver_26 : decode cX9_deliver 26 = .ok (.iinc 3 1, 3) := by decide +kernel
theorem dX9_deliver_29 : decode cX9_deliver 29 = .ok (.goto (-25), 3) := by decide +kernel
theorem dX9_deliver_32 : decode cX9_deliver 32 = .ok (.iload_n 2, 1) := by decide +kernel
theorem dX9_deliver_33 : decode cX9_deliver 33 = .ok (.bipush 40, 2) := by decide +kernel
theorem dX9_deliver_35 : decode cX9_deliver 35 = .ok (.if_icmp .le 6, 3) := by decide +kernel
theorem dX9_deliver_38 : decode cX9_deliver 38 = .ok (.bipush (-4), 2) := by decide +kernel
theorem dX9_deliver_40 : decode cX9_deliver 40 = .ok (.ireturn, 1) := by decide +kernel
theorem dX9_deliver_41 : decode cX9_deliver 41 = .ok (.aload_n 0, 1) := by decide +kernel
theorem dX9_deliver_42 : decode cX9_deliver 42 = .ok (.aload_n 1, 1) := by decide +kernel
theorem dX9_deliver_43 : decode cX9_deliver 43 = .ok (.invokevirtual 122, 3) := by decide +kernel
theorem dX9_deliver_46 : decode cX9_deliver 46 = .ok (.iload_n 2, 1) := by decide +kernel
theorem dX9_deliver_47 : decode cX9_deliver 47 = .ok (.ireturn, 1) := by decide +kernel
theorem dX9_fill_0 : decode cX9_fill 0 = .ok (.aload_n 1, 1) := by decide +kernel
theorem dX9_fill_1 : decode cX9_fill 1 = .ok (.iconst 0, 1) := by decide +kernel
theorem dX9_fill_2 : decode cX9_fill 2 = .ok (.putfield 62, 3) := by decide +kernel
theorem dX9_fill_5 : decode cX9_fill 5 = .ok (.iconst 0, 1) := by decide +kernel
theorem dX9_fill_6 : decode cX9_fill 6 = .ok (.istore_n 2, 1) := by decide +kernel
theorem dX9_fill_7 : decode cX9_fill 7 = .ok (.iload_n 2, 1) := by decide +kernel
theorem dX9_fill_8 : decode cX9_fill 8 = .ok (.sipush 343, 3) := by decide +kernel
theorem dX9_fill_11 : decode cX9_fill 11 = .ok (.if_icmp .ge 52, 3) := by decide +kernel
theorem dX9_fill_14 : decode cX9_fill 14 = .ok (.aload_n 1, 1) := by decide +kernel
theorem dX9_fill_15 : decode cX9_fill 15 = .ok (.getfield 62, 3) := by decide +kernel
theorem dX9_fill_18 : decode cX9_fill 18 = .ok (.bipush 40, 2) := by decide +kernel
theorem dX9_fill_20 : decode cX9_fill 20 = .ok (.if_icmp .ge 43, 3) := by decide +kernel
theorem dX9_fill_23 : decode cX9_fill 23 = .ok (.aload_n 0, 1) := by decide +kernel
theorem dX9_fill_24 : decode cX9_fill 24 = .ok (.getfield 12, 3) := by decide +kernel
theorem dX9_fill_27 : decode cX9_fill 27 = .ok (.iload_n 2, 1) := by decide +kernel
theorem dX9_fill_28 : decode cX9_fill 28 = .ok (.invokevirtual 119, 3) := by decide +kernel
theorem dX9_fill_31 : decode cX9_fill 31 = .ok (.istore_n 3, 1) := by decide +kernel
theorem dX9_fill_32 : decode cX9_fill 32 = .ok (.iload_n 3, 1) := by decide +kernel
theorem dX9_fill_33 : decode cX9_fill 33 = .ok (.iconst (-1), 1) := by decide +kernel
theorem dX9_fill_34 : decode cX9_fill 34 = .ok (.if_icmp .eq 23, 3) := by decide +kernel
theorem dX9_fill_37 : decode cX9_fill 37 = .ok (.aload_n 1, 1) := by decide +kernel
theorem dX9_fill_38 : decode cX9_fill 38 = .ok (.getfield 67, 3) := by decide +kernel
theorem dX9_fill_41 : decode cX9_fill 41 = .ok (.aload_n 1, 1) := by decide +kernel
theorem dX9_fill_42 : decode cX9_fill 42 = .ok (.getfield 62, 3) := by decide +kernel
theorem dX9_fill_45 : decode cX9_fill 45 = .ok (.iload_n 3, 1) := by decide +kernel
theorem dX9_fill_46 : decode cX9_fill 46 = .ok (.iastore, 1) := by decide +kernel
theorem dX9_fill_47 : decode cX9_fill 47 = .ok (.aload_n 1, 1) := by decide +kernel
theorem dX9_fill_48 : decode cX9_fill 48 = .ok (.dup, 1) := by decide +kernel
theorem dX9_fill_49 : decode cX9_fill 49 = .ok (.getfield 62, 3) := by decide +kernel
theorem dX9_fill_52 : decode cX9_fill 52 = .ok (.iconst 1, 1) := by decide +kernel
theorem dX9_fill_53 : decode cX9_fill 53 = .ok (.iadd, 1) := by decide +kernel
theorem dX9_fill_54 : decode cX9_fill 54 = .ok (.putfield 62, 3) := by decide +kernel
theorem dX9_fill_57 : decode cX9_fill 57 = .ok (.iinc 2 1, 3) := by decide +kernel
theorem dX9_fill_60 : decode cX9_fill 60 = .ok (.goto (-53), 3) := by decide +kernel
theorem dX9_fill_63 : decode cX9_fill 63 = .ok (.return_, 1) := by decide +kernel
theorem dJ6_bitCount_0f7a4_0 : decode cJ6_bitCount_0f7a4 0 = .ok (.iload_n 0, 1) := by decide +kernel
theorem dJ6_bitCount_0f7a4_1 : decode cJ6_bitCount_0f7a4 1 = .ok (.iload_n 0, 1) := by decide +kernel
theorem dJ6_bitCount_0f7a4_2 : decode cJ6_bitCount_0f7a4 2 = .ok (.iconst 1, 1) := by decide +kernel
theorem dJ6_bitCount_0f7a4_3 : decode cJ6_bitCount_0f7a4 3 = .ok (.iushr, 1) := by decide +kernel
theorem dJ6_bitCount_0f7a4_4 : decode cJ6_bitCount_0f7a4 4 = .ok (.ldc_w 265, 3) := by decide +kernel
theorem dJ6_bitCount_0f7a4_7 : decode cJ6_bitCount_0f7a4 7 = .ok (.iand, 1) := by decide +kernel
theorem dJ6_bitCount_0f7a4_8 : decode cJ6_bitCount_0f7a4 8 = .ok (.isub, 1) := by decide +kernel
theorem dJ6_bitCount_0f7a4_9 : decode cJ6_bitCount_0f7a4 9 = .ok (.istore_n 0, 1) := by decide +kernel
theorem dJ6_bitCount_0f7a4_10 : decode cJ6_bitCount_0f7a4 10 = .ok (.iload_n 0, 1) := by decide +kernel
theorem dJ6_bitCount_0f7a4_11 : decode cJ6_bitCount_0f7a4 11 = .ok (.ldc_w 266, 3) := by decide +kernel
theorem dJ6_bitCount_0f7a4_14 : decode cJ6_bitCount_0f7a4 14 = .ok (.iand, 1) := by decide +kernel
theorem dJ6_bitCount_0f7a4_15 : decode cJ6_bitCount_0f7a4 15 = .ok (.iload_n 0, 1) := by decide +kernel
theorem dJ6_bitCount_0f7a4_16 : decode cJ6_bitCount_0f7a4 16 = .ok (.iconst 2, 1) := by decide +kernel
theorem dJ6_bitCount_0f7a4_17 : decode cJ6_bitCount_0f7a4 17 = .ok (.iushr, 1) := by decide +kernel
theorem dJ6_bitCount_0f7a4_18 : decode cJ6_bitCount_0f7a4 18 = .ok (.ldc_w 266, 3) := by decide +kernel
theorem dJ6_bitCount_0f7a4_21 : decode cJ6_bitCount_0f7a4 21 = .ok (.iand, 1) := by decide +kernel
theorem dJ6_bitCount_0f7a4_22 : decode cJ6_bitCount_0f7a4 22 = .ok (.iadd, 1) := by decide +kernel
theorem dJ6_bitCount_0f7a4_23 : decode cJ6_bitCount_0f7a4 23 = .ok (.istore_n 0, 1) := by decide +kernel
theorem dJ6_bitCount_0f7a4_24 : decode cJ6_bitCount_0f7a4 24 = .ok (.iload_n 0, 1) := by decide +kernel
theorem dJ6_bitCount_0f7a4_25 : decode cJ6_bitCount_0f7a4 25 = .ok (.iload_n 0, 1) := by decide +kernel
theorem dJ6_bitCount_0f7a4_26 : decode cJ6_bitCount_0f7a4 26 = .ok (.iconst 4, 1) := by decide +kernel
theorem dJ6_bitCount_0f7a4_27 : decode cJ6_bitCount_0f7a4 27 = .ok (.iushr, 1) := by decide +kernel
theorem dJ6_bitCount_0f7a4_28 : decode cJ6_bitCount_0f7a4 28 = .ok (.iadd, 1) := by decide +kernel
theorem dJ6_bitCount_0f7a4_29 : decode cJ6_bitCount_0f7a4 29 = .ok (.ldc_w 267, 3) := by decide +kernel
theorem dJ6_bitCount_0f7a4_32 : decode cJ6_bitCount_0f7a4 32 = .ok (.iand, 1) := by decide +kernel
theorem dJ6_bitCount_0f7a4_33 : decode cJ6_bitCount_0f7a4 33 = .ok (.istore_n 0, 1) := by decide +kernel
theorem dJ6_bitCount_0f7a4_34 : decode cJ6_bitCount_0f7a4 34 = .ok (.iload_n 0, 1) := by decide +kernel
theorem dJ6_bitCount_0f7a4_35 : decode cJ6_bitCount_0f7a4 35 = .ok (.iload_n 0, 1) := by decide +kernel
theorem dJ6_bitCount_0f7a4_36 : decode cJ6_bitCount_0f7a4 36 = .ok (.bipush 8, 2) := by decide +kernel
theorem dJ6_bitCount_0f7a4_38 : decode cJ6_bitCount_0f7a4 38 = .ok (.iushr, 1) := by decide +kernel
theorem dJ6_bitCount_0f7a4_39 : decode cJ6_bitCount_0f7a4 39 = .ok (.iadd, 1) := by decide +kernel
theorem dJ6_bitCount_0f7a4_40 : decode cJ6_bitCount_0f7a4 40 = .ok (.istore_n 0, 1) := by decide +kernel
theorem dJ6_bitCount_0f7a4_41 : decode cJ6_bitCount_0f7a4 41 = .ok (.iload_n 0, 1) := by decide +kernel
theorem dJ6_bitCount_0f7a4_42 : decode cJ6_bitCount_0f7a4 42 = .ok (.iload_n 0, 1) := by decide +kernel
theorem dJ6_bitCount_0f7a4_43 : decode cJ6_bitCount_0f7a4 43 = .ok (.bipush 16, 2) := by decide +kernel
theorem dJ6_bitCount_0f7a4_45 : decode cJ6_bitCount_0f7a4 45 = .ok (.iushr, 1) := by decide +kernel
theorem dJ6_bitCount_0f7a4_46 : decode cJ6_bitCount_0f7a4 46 = .ok (.iadd, 1) := by decide +kernel
theorem dJ6_bitCount_0f7a4_47 : decode cJ6_bitCount_0f7a4 47 = .ok (.istore_n 0, 1) := by decide +kernel
theorem dJ6_bitCount_0f7a4_48 : decode cJ6_bitCount_0f7a4 48 = .ok (.iload_n 0, 1) := by decide +kernel
theorem dJ6_bitCount_0f7a4_49 : decode cJ6_bitCount_0f7a4 49 = .ok (.bipush 63, 2) := by decide +kernel
theorem dJ6_bitCount_0f7a4_51 : decode cJ6_bitCount_0f7a4 51 = .ok (.iand, 1) := by decide +kernel
theorem dJ6_bitCount_0f7a4_52 : decode cJ6_bitCount_0f7a4 52 = .ok (.ireturn, 1) := by decide +kernel
theorem dJ7_fill_53178_0 : decode cJ7_fill_53178 0 = .ok (.iconst 0, 1) := by decide +kernel
theorem dJ7_fill_53178_1 : decode cJ7_fill_53178 1 = .ok (.istore_n 2, 1) := by decide +kernel
theorem dJ7_fill_53178_2 : decode cJ7_fill_53178 2 = .ok (.aload_n 0, 1) := by decide +kernel
theorem dJ7_fill_53178_3 : decode cJ7_fill_53178 3 = .ok (.arraylength, 1) := by decide +kernel
theorem dJ7_fill_53178_4 : decode cJ7_fill_53178 4 = .ok (.istore_n 3, 1) := by decide +kernel
theorem dJ7_fill_53178_5 : decode cJ7_fill_53178 5 = .ok (.iload_n 2, 1) := by decide +kernel
theorem dJ7_fill_53178_6 : decode cJ7_fill_53178 6 = .ok (.iload_n 3, 1) := by decide +kernel
theorem dJ7_fill_53178_7 : decode cJ7_fill_53178 7 = .ok (.if_icmp .ge 13, 3) := by decide +kernel
theorem dJ7_fill_53178_10 : decode cJ7_fill_53178 10 = .ok (.aload_n 0, 1) := by decide +kernel
theorem dJ7_fill_53178_11 : decode cJ7_fill_53178 11 = .ok (.iload_n 2, 1) := by decide +kernel
theorem dJ7_fill_53178_12 : decode cJ7_fill_53178 12 = .ok (.iload_n 1, 1) := by decide +kernel
theorem dJ7_fill_53178_13 : decode cJ7_fill_53178 13 = .ok (.iastore, 1) := by decide +kernel
theorem dJ7_fill_53178_14 : decode cJ7_fill_53178 14 = .ok (.iinc 2 1, 3) := by decide +kernel
theorem dJ7_fill_53178_17 : decode cJ7_fill_53178 17 = .ok (.goto (-12), 3) := by decide +kernel
theorem dJ7_fill_53178_20 : decode cJ7_fill_53178 20 = .ok (.return_, 1) := by decide +kernel
theorem dJ9_max_7cf53_0 : decode cJ9_max_7cf53 0 = .ok (.iload_n 0, 1) := by decide +kernel
theorem dJ9_max_7cf53_1 : decode cJ9_max_7cf53 1 = .ok (.iload_n 1, 1) := by decide +kernel
theorem dJ9_max_7cf53_2 : decode cJ9_max_7cf53 2 = .ok (.if_icmp .lt 7, 3) := by decide +kernel
theorem dJ9_max_7cf53_5 : decode cJ9_max_7cf53 5 = .ok (.iload_n 0, 1) := by decide +kernel
theorem dJ9_max_7cf53_6 : decode cJ9_max_7cf53 6 = .ok (.goto 4, 3) := by decide +kernel
theorem dJ9_max_7cf53_9 : decode cJ9_max_7cf53 9 = .ok (.iload_n 1, 1) := by decide +kernel
theorem dJ9_max_7cf53_10 : decode cJ9_max_7cf53 10 = .ok (.ireturn, 1) := by decide +kernel
theorem dJ9_min_7cf53_0 : decode cJ9_min_7cf53 0 = .ok (.iload_n 0, 1) := by decide +kernel
theorem dJ9_min_7cf53_1 : decode cJ9_min_7cf53 1 = .ok (.iload_n 1, 1) := by decide +kernel
theorem dJ9_min_7cf53_2 : decode cJ9_min_7cf53 2 = .ok (.if_icmp .gt 7, 3) := by decide +kernel
theorem dJ9_min_7cf53_5 : decode cJ9_min_7cf53 5 = .ok (.iload_n 0, 1) := by decide +kernel
theorem dJ9_min_7cf53_6 : decode cJ9_min_7cf53 6 = .ok (.goto 4, 3) := by decide +kernel
theorem dJ9_min_7cf53_9 : decode cJ9_min_7cf53 9 = .ok (.iload_n 1, 1) := by decide +kernel
theorem dJ9_min_7cf53_10 : decode cJ9_min_7cf53 10 = .ok (.ireturn, 1) := by decide +kernel
end
section
theorem dX11_init_0 : decode cX11_init 0 = .ok (.aload_n 0, 1) := by decide +kernel
theorem dX11_init_1 : decode cX11_init 1 = .ok (.invokespecial 1, 3) := by decide +kernel
theorem dX11_init_4 : decode cX11_init 4 = .ok (.aload_n 0, 1) := by decide +kernel
theorem dX11_init_5 : decode cX11_init 5 = .ok (.sipush 640, 3) := by decide +kernel
theorem dX11_init_8 : decode cX11_init 8 = .ok (.newarray .int, 2) := by decide +kernel
theorem dX11_init_10 : decode cX11_init 10 = .ok (.putfield 7, 3) := by decide +kernel
theorem dX11_init_13 : decode cX11_init 13 = .ok (.aload_n 0, 1) := by decide +kernel
theorem dX11_init_14 : decode cX11_init 14 = .ok (.bipush 16, 2) := by decide +kernel
theorem dX11_init_16 : decode cX11_init 16 = .ok (.newarray .int, 2) := by decide +kernel
theorem dX11_init_18 : decode cX11_init 18 = .ok (.putfield 13, 3) := by decide +kernel
theorem dX11_init_21 : decode cX11_init 21 = .ok (.aload_n 0, 1) := by decide +kernel
theorem dX11_init_22 : decode cX11_init 22 = .ok (.bipush 12, 2) := by decide +kernel
theorem dX11_init_24 : decode cX11_init 24 = .ok (.newarray .int, 2) := by decide +kernel
theorem dX11_init_26 : decode cX11_init 26 = .ok (.putfield 16, 3) := by decide +kernel
theorem dX11_init_29 : decode cX11_init 29 = .ok (.aload_n 0, 1) := by decide +kernel
theorem dX11_init_30 : decode cX11_init 30 = .ok (.sipush 2401, 3) := by decide +kernel
theorem dX11_init_33 : decode cX11_init 33 = .ok (.newarray .boolean, 2) := by decide +kernel
theorem dX11_init_35 : decode cX11_init 35 = .ok (.putfield 19, 3) := by decide +kernel
theorem dX11_init_38 : decode cX11_init 38 = .ok (.aload_n 0, 1) := by decide +kernel
theorem dX11_init_39 : decode cX11_init 39 = .ok (.bipush 60, 2) := by decide +kernel
theorem dX11_init_41 : decode cX11_init 41 = .ok (.newarray .int, 2) := by decide +kernel
theorem dX11_init_43 : decode cX11_init 43 = .ok (.putfield 23, 3) := by decide +kernel
theorem dX11_init_46 : decode cX11_init 46 = .ok (.aload_n 0, 1) := by decide +kernel
theorem dX11_init_47 : decode cX11_init 47 = .ok (.bipush 60, 2) := by decide +kernel
theorem dX11_init_49 : decode cX11_init 49 = .ok (.newarray .int, 2) := by decide +kernel
theorem dX11_init_51 : decode cX11_init 51 = .ok (.putfield 26, 3) := by decide +kernel
theorem dX11_init_54 : decode cX11_init 54 = .ok (.aload_n 0, 1) := by decide +kernel
theorem dX11_init_55 : decode cX11_init 55 = .ok (.sipush 1600, 3) := by decide +kernel
theorem dX11_init_58 : decode cX11_init 58 = .ok (.newarray .int, 2) := by decide +kernel
theorem dX11_init_60 : decode cX11_init 60 = .ok (.putfield 29, 3) := by decide +kernel
theorem dX11_init_63 : decode cX11_init 63 = .ok (.aload_n 0, 1) := by decide +kernel
theorem dX11_init_64 : decode cX11_init 64 = .ok (.sipush 2401, 3) := by decide +kernel
theorem dX11_init_67 : decode cX11_init 67 = .ok (.newarray .boolean, 2) := by decide +kernel
theorem dX11_init_69 : decode cX11_init 69 = .ok (.putfield 32, 3) := by decide +kernel
theorem dX11_init_72 : decode cX11_init 72 = .ok (.aload_n 0, 1) := by decide +kernel
theorem dX11_init_73 : decode cX11_init 73 = .ok (.sipush 2401, 3) := by decide +kernel
theorem dX11_init_76 : decode cX11_init 76 = .ok (.newarray .int, 2) := by decide +kernel
theorem dX11_init_78 : decode cX11_init 78 = .ok (.putfield 35, 3) := by decide +kernel
theorem dX11_init_81 : decode cX11_init 81 = .ok (.aload_n 0, 1) := by decide +kernel
theorem dX11_init_82 : decode cX11_init 82 = .ok (.sipush 2400, 3) := by decide +kernel
theorem dX11_init_85 : decode cX11_init 85 = .ok (.newarray .int, 2) := by decide +kernel
theorem dX11_init_87 : decode cX11_init 87 = .ok (.putfield 38, 3) := by decide +kernel
theorem dX11_init_90 : decode cX11_init 90 = .ok (.aload_n 0, 1) := by decide +kernel
theorem dX11_init_91 : decode cX11_init 91 = .ok (.bipush 60, 2) := by decide +kernel
theorem dX11_init_93 : decode cX11_init 93 = .ok (.newarray .int, 2) := by decide +kernel
theorem dX11_init_95 : decode cX11_init 95 = .ok (.putfield 41, 3) := by decide +kernel
theorem dX11_init_98 : decode cX11_init 98 = .ok (.aload_n 0, 1) := by decide +kernel
theorem dX11_init_99 : decode cX11_init 99 = .ok (.bipush 60, 2) := by decide +kernel
theorem dX11_init_101 : decode cX11_init 101 = .ok (.newarray .int, 2) := by decide +kernel
theorem dX11_init_103 : decode cX11_init 103 = .ok (.putfield 44, 3) := by decide +kernel
theorem dX11_init_106 : decode cX11_init 106 = .ok (.aload_n 0, 1) := by decide +kernel
theorem dX11_init_107 : decode cX11_init 107 = .ok (.bipush 40, 2) := by decide +kernel
theorem dX11_init_109 : decode cX11_init 109 = .ok (.newarray .int, 2) := by decide +kernel
theorem dX11_init_111 : decode cX11_init 111 = .ok (.putfield 47, 3) := by decide +kernel
theorem dX11_init_114 : decode cX11_init 114 = .ok (.aload_n 0, 1) := by decide +kernel
theorem dX11_init_115 : decode cX11_init 115 = .ok (.sipush 2401, 3) := by decide +kernel
theorem dX11_init_118 : decode cX11_init 118 = .ok (.newarray .boolean, 2) := by decide +kernel
theorem dX11_init_120 : decode cX11_init 120 = .ok (.putfield 50, 3) := by decide +kernel
theorem dX11_init_123 : decode cX11_init 123 = .ok (.aload_n 0, 1) := by decide +kernel
theorem dX11_init_124 : decode cX11_init 124 = .ok (.bipush 16, 2) := by decide +kernel
theorem dX11_init_126 : decode cX11_init 126 = .ok (.newarray .int, 2) := by decide +kernel
theorem dX11_init_128 : decode cX11_init 128 = .ok (.putfield 53, 3) := by decide +kernel
theorem dX11_init_131 : decode cX11_init 131 = .ok (.aload_n 0, 1) := by decide +kernel
theorem dX11_init_132 : decode cX11_init 132 = .ok (.sipush 1360, 3) := by decide +kernel
theorem dX11_init_135 : decode cX11_init 135 = .ok (.newarray .int, 2) := by decide +kernel
theorem dX11_init_137 : decode cX11_init 137 = .ok (.putfield 56, 3) := by decide +kernel
theorem dX11_init_140 : decode cX11_init 140 = .ok (.aload_n 0, 1) := by decide +kernel
theorem dX11_init_141 : decode cX11_init 141 = .ok (.iconst 2, 1) := by decide +kernel
theorem dX11_init_142 : decode cX11_init 142 = .ok (.newarray .boolean, 2) := by decide +kernel
theorem dX11_init_144 : decode cX11_init 144 = .ok (.putfield 59, 3) := by decide +kernel
theorem dX11_init_147 : decode cX11_init 147 = .ok (.return_, 1) := by decide +kernel
theorem dX11_in_0 : decode cX11_in 0 = .ok (.lload_n 0, 1) := by decide +kernel
theorem dX11_in_1 : decode cX11_in 1 = .ok (.lload_n 2, 1) := by decide +kernel
theorem dX11_in_2 : decode cX11_in 2 = .ok (.lcmp, 1) := by decide +kernel
theorem dX11_in_3 : decode cX11_in 3 = .ok (.ifCond .lt 14, 3) := by decide +kernel
theorem dX11_in_6 : decode cX11_in 6 = .ok (.lload_n 0, 1) := by decide +kernel
theorem dX11_in_7 : decode cX11_in 7 = .ok (.lload 4, 2) := by decide +kernel
theorem dX11_in_9 : decode cX11_in 9 = .ok (.lcmp, 1) := by decide +kernel
theorem dX11_in_10 : decode cX11_in 10 = .ok (.ifCond .gt 7, 3) := by decide +kernel
theorem dX11_in_13 : decode cX11_in 13 = .ok (.iconst 1, 1) := by decide +kernel
theorem dX11_in_14 : decode cX11_in 14 = .ok (.goto 4, 3) := by decide +kernel
theorem dX11_in_17 : decode cX11_in 17 = .ok (.iconst 0, 1) := by decide +kernel
theorem dX11_in_18 : decode cX11_in 18 = .ok (.ireturn, 1) := by decide +kernel
theorem dX11_isIdeal_0 : decode cX11_isIdeal 0 = .ok (.iload_n 0, 1) := by decide +kernel
theorem dX11_isIdeal_1 : decode cX11_isIdeal 1 = .ok (.i2l, 1) := by decide +kernel
theorem dX11_isIdeal_2 : decode cX11_isIdeal 2 = .ok (.lconst 0, 1) := by decide +kernel
theorem dX11_isIdeal_3 : decode cX11_isIdeal 3 = .ok (.ldc2_w 62, 3) := by decide +kernel
theorem dX11_isIdeal_6 : decode cX11_isIdeal 6 = .ok (.invokestatic 64, 3) := by decide +kernel
theorem dX11_isIdeal_9 : decode cX11_isIdeal 9 = .ok (.ireturn, 1) := by decide +kernel
theorem dX11_isPlace_0 : decode cX11_isPlace 0 = .ok (.iload_n 0, 1) := by decide +kernel
theorem dX11_isPlace_1 : decode cX11_isPlace 1 = .ok (.i2l, 1) := by decide +kernel
theorem dX11_isPlace_2 : decode cX11_isPlace 2 = .ok (.lconst 0, 1) := by decide +kernel
theorem dX11_isPlace_3 : decode cX11_isPlace 3 = .ok (.ldc2_w 68, 3) := by decide +kernel
theorem dX11_isPlace_6 : decode cX11_isPlace 6 = .ok (.invokestatic 64, 3) := by decide +kernel
theorem dX11_isPlace_9 : decode cX11_isPlace 9 = .ok (.ifCond .eq 19, 3) := by decide +kernel
theorem dX11_isPlace_12 : decode cX11_isPlace 12 = .ok (.iload_n 1, 1) := by decide +kernel
theorem dX11_isPlace_13 : decode cX11_isPlace 13 = .ok (.i2l, 1) := by decide +kernel
theorem dX11_isPlace_14 : decode cX11_isPlace 14 = .ok (.lconst 0, 1) := by decide +kernel
theorem dX11_isPlace_15 : decode cX11_isPlace 15 = .ok (.ldc2_w 62, 3) := by decide +kernel
theorem dX11_isPlace_18 : decode cX11_isPlace 18 = .ok (.invokestatic 64, 3) := by decide +kernel
theorem dX11_isPlace_21 : decode cX11_isPlace 21 = .ok (.ifCond .eq 7, 3) := by decide +kernel
theorem dX11_isPlace_24 : decode cX11_isPlace 24 = .ok (.iconst 1, 1) := by decide +kernel
theorem dX11_isPlace_25 : decode cX11_isPlace 25 = .ok (.goto 4, 3) := by decide +kernel
theorem dX11_isPlace_28 : decode cX11_isPlace 28 = .ok (.iconst 0, 1) := by decide +kernel
theorem dX11_isPlace_29 : decode cX11_isPlace 29 = .ok (.ireturn, 1) := by decide +kernel
theorem dX11_less_0 : decode cX11_less 0 = .ok (.iload_n 0, 1) := by decide +kernel
theorem dX11_less_1 : decode cX11_less 1 = .ok (.iload_n 1, 1) := by decide +kernel
theorem dX11_less_2 : decode cX11_less 2 = .ok (.if_icmp .ge 7, 3) := by decide +kernel
theorem dX11_less_5 : decode cX11_less 5 = .ok (.iload_n 0, 1) := by decide +kernel
theorem dX11_less_6 : decode cX11_less 6 = .ok (.goto 4, 3) := by decide +kernel
theorem dX11_less_9 : decode cX11_less 9 = .ok (.iload_n 1, 1) := by decide +kernel
theorem dX11_less_10 : decode cX11_less 10 = .ok (.ireturn, 1) := by decide +kernel
theorem dX11_greater_0 : decode cX11_greater 0 = .ok (.iload_n 0, 1) := by decide +kernel
theorem dX11_greater_1 : decode cX11_greater 1 = .ok (.iload_n 1, 1) := by decide +kernel
theorem dX11_greater_2 : decode cX11_greater 2 = .ok (.if_icmp .le 7, 3) := by decide +kernel
theorem dX11_greater_5 : decode cX11_greater 5 = .ok (.iload_n 0, 1) := by decide +kernel
theorem dX11_greater_6 : decode cX11_greater 6 = .ok (.goto 4, 3) := by decide +kernel
theorem dX11_greater_9 : decode cX11_greater 9 = .ok (.iload_n 1, 1) := by decide +kernel
theorem dX11_greater_10 : decode cX11_greater 10 = .ok (.ireturn, 1) := by decide +kernel
theorem dX11_ones_0 : decode cX11_ones 0 = .ok (.iconst 0, 1) := by decide +kernel
theorem dX11_ones_1 : decode cX11_ones 1 = .ok (.istore_n 1, 1) := by decide +kernel
theorem dX11_ones_2 : decode cX11_ones 2 = .ok (.iload_n 0, 1) := by decide +kernel
theorem dX11_ones_3 : decode cX11_ones 3 = .ok (.istore_n 2, 1) := by decide +kernel
theorem dX11_ones_4 : decode cX11_ones 4 = .ok (.iload_n 2, 1) := by decide +kernel
theorem dX11_ones_5 : decode cX11_ones 5 = .ok (.ifCond .eq 15, 3) := by decide +kernel
theorem dX11_ones_8 : decode cX11_ones 8 = .ok (.iinc 1 1, 3) := by decide +kernel
theorem dX11_ones_11 : decode cX11_ones 11 = .ok (.iload_n 2, 1) := by decide +kernel
theorem dX11_ones_12 : decode cX11_ones 12 = .ok (.iload_n 2, 1) := by decide +kernel
theorem dX11_ones_13 : decode cX11_ones 13 = .ok (.iconst 1, 1) := by decide +kernel
theorem dX11_ones_14 : decode cX11_ones 14 = .ok (.isub, 1) := by decide +kernel
theorem dX11_ones_15 : decode cX11_ones 15 = .ok (.iand, 1) := by decide +kernel
theorem dX11_ones_16 : decode cX11_ones 16 = .ok (.istore_n 2, 1) := by decide +kernel
theorem dX11_ones_17 : decode cX11_ones 17 = .ok (.goto (-13), 3) := by decide +kernel
theorem dX11_ones_20 : decode cX11_ones 20 = .ok (.iload_n 1, 1) := by decide +kernel
theorem dX11_ones_21 : decode cX11_ones 21 = .ok (.ireturn, 1) := by decide +kernel
theorem dX11_ten_0 : decode cX11_ten 0 = .ok (.iload_n 0, 1) := by decide +kernel
theorem dX11_ten_1 : decode cX11_ten 1 = .ok (.ifCond .ne 9, 3) := by decide +kernel
theorem dX11_ten_4 : decode cX11_ten 4 = .ok (.sipush 1000, 3) := by decide +kernel
theorem dX11_ten_7 : decode cX11_ten 7 = .ok (.goto 24, 3) := by decide +kernel
theorem dX11_ten_10 : decode cX11_ten 10 = .ok (.iload_n 0, 1) := by decide +kernel
theorem dX11_ten_11 : decode cX11_ten 11 = .ok (.iconst 1, 1) := by decide +kernel
theorem dX11_ten_12 : decode cX11_ten 12 = .ok (.if_icmp .ne 8, 3) := by decide +kernel
theorem dX11_ten_15 : decode cX11_ten 15 = .ok (.bipush 100, 2) := by decide +kernel
theorem dX11_ten_17 : decode cX11_ten 17 = .ok (.goto 14, 3) := by decide +kernel
theorem dX11_ten_20 : decode cX11_ten 20 = .ok (.iload_n 0, 1) := by decide +kernel
theorem dX11_ten_21 : decode cX11_ten 21 = .ok (.iconst 2, 1) := by decide +kernel
theorem dX11_ten_22 : decode cX11_ten 22 = .ok (.if_icmp .ne 8, 3) := by decide +kernel
theorem dX11_ten_25 : decode cX11_ten 25 = .ok (.bipush 10, 2) := by decide +kernel
theorem dX11_ten_27 : decode cX11_ten 27 = .ok (.goto 4, 3) := by decide +kernel
theorem dX11_ten_30 : decode cX11_ten 30 = .ok (.iconst 1, 1) := by decide +kernel
theorem dX11_ten_31 : decode cX11_ten 31 = .ok (.ireturn, 1) := by decide +kernel
theorem dX11_power_0 : decode cX11_power 0 = .ok (.iload_n 0, 1) := by decide +kernel
theorem dX11_power_1 : decode cX11_power 1 = .ok (.iload_n 1, 1) := by decide +kernel
theorem dX11_power_2 : decode cX11_power 2 = .ok (.invokestatic 70, 3) := by decide +kernel
theorem dX11_power_5 : decode cX11_power 5 = .ok (.idiv, 1) := by decide +kernel
theorem dX11_power_6 : decode cX11_power 6 = .ok (.bipush 10, 2) := by decide +kernel
theorem dX11_power_8 : decode cX11_power 8 = .ok (.irem, 1) := by decide +kernel
theorem dX11_power_9 : decode cX11_power 9 = .ok (.ireturn, 1) := by decide +kernel
theorem dX11_isCode_0 : decode cX11_isCode 0 = .ok (.iload_n 0, 1) := by decide +kernel
theorem dX11_isCode_1 : decode cX11_isCode 1 = .ok (.i2l, 1) := by decide +kernel
theorem dX11_isCode_2 : decode cX11_isCode 2 = .ok (.lconst 0, 1) := by decide +kernel
theorem dX11_isCode_3 : decode cX11_isCode 3 = .ok (.ldc2_w 74, 3) := by decide +kernel
theorem dX11_isCode_6 : decode cX11_isCode 6 = .ok (.invokestatic 64, 3) := by decide +kernel
theorem dX11_isCode_9 : decode cX11_isCode 9 = .ok (.ifCond .eq 37, 3) := by decide +kernel
theorem dX11_isCode_12 : decode cX11_isCode 12 = .ok (.iload_n 0, 1) := by decide +kernel
theorem dX11_isCode_13 : decode cX11_isCode 13 = .ok (.iconst 1, 1) := by decide +kernel
theorem dX11_isCode_14 : decode cX11_isCode 14 = .ok (.invokestatic 76, 3) := by decide +kernel
theorem dX11_isCode_17 : decode cX11_isCode 17 = .ok (.bipush 6, 2) := by decide +kernel
theorem dX11_isCode_19 : decode cX11_isCode 19 = .ok (.if_icmp .gt 27, 3) := by decide +kernel
theorem dX11_isCode_22 : decode cX11_isCode 22 = .ok (.iload_n 0, 1) := by decide +kernel
theorem dX11_isCode_23 : decode cX11_isCode 23 = .ok (.iconst 2, 1) := by decide +kernel
theorem dX11_isCode_24 : decode cX11_isCode 24 = .ok (.invokestatic 76, 3) := by decide +kernel
theorem dX11_isCode_27 : decode cX11_isCode 27 = .ok (.bipush 6, 2) := by decide +kernel
theorem dX11_isCode_29 : decode cX11_isCode 29 = .ok (.if_icmp .gt 17, 3) := by decide +kernel
theorem dX11_isCode_32 : decode cX11_isCode 32 = .ok (.iload_n 0, 1) := by decide +kernel
theorem dX11_isCode_33 : decode cX11_isCode 33 = .ok (.iconst 3, 1) := by decide +kernel
theorem dX11_isCode_34 : decode cX11_isCode 34 = .ok (.invokestatic 76, 3) := by decide +kernel
theorem dX11_isCode_37 : decode cX11_isCode 37 = .ok (.bipush 6, 2) := by decide +kernel
theorem dX11_isCode_39 : decode cX11_isCode 39 = .ok (.if_icmp .gt 7, 3) := by decide +kernel
theorem dX11_isCode_42 : decode cX11_isCode 42 = .ok (.iconst 1, 1) := by decide +kernel
theorem dX11_isCode_43 : decode cX11_isCode 43 = .ok (.goto 4, 3) := by decide +kernel
theorem dX11_isCode_46 : decode cX11_isCode 46 = .ok (.iconst 0, 1) := by decide +kernel
theorem dX11_isCode_47 : decode cX11_isCode 47 = .ok (.ireturn, 1) := by decide +kernel
theorem dX11_codeAt_0 : decode cX11_codeAt 0 = .ok (.iload_n 0, 1) := by decide +kernel
theorem dX11_codeAt_1 : decode cX11_codeAt 1 = .ok (.sipush 343, 3) := by decide +kernel
theorem dX11_codeAt_4 : decode cX11_codeAt 4 = .ok (.idiv, 1) := by decide +kernel
theorem dX11_codeAt_5 : decode cX11_codeAt 5 = .ok (.sipush 1000, 3) := by decide +kernel
theorem dX11_codeAt_8 : decode cX11_codeAt 8 = .ok (.imul, 1) := by decide +kernel
theorem dX11_codeAt_9 : decode cX11_codeAt 9 = .ok (.iload_n 0, 1) := by decide +kernel
theorem dX11_codeAt_10 : decode cX11_codeAt 10 = .ok (.bipush 49, 2) := by decide +kernel
theorem dX11_codeAt_12 : decode cX11_codeAt 12 = .ok (.idiv, 1) := by decide +kernel
theorem dX11_codeAt_13 : decode cX11_codeAt 13 = .ok (.bipush 7, 2) := by decide +kernel
theorem dX11_codeAt_15 : decode cX11_codeAt 15 = .ok (.irem, 1) := by decide +kernel
theorem dX11_codeAt_16 : decode cX11_codeAt 16 = .ok (.bipush 100, 2) := by decide +kernel
theorem dX11_codeAt_18 : decode cX11_codeAt 18 = .ok (.imul, 1) := by decide +kernel
theorem dX11_codeAt_19 : decode cX11_codeAt 19 = .ok (.iadd, 1) := by decide +kernel
theorem dX11_codeAt_20 : decode cX11_codeAt 20 = .ok (.iload_n 0, 1) := by decide +kernel
theorem dX11_codeAt_21 : decode cX11_codeAt 21 = .ok (.bipush 7, 2) := by decide +kernel
theorem dX11_codeAt_23 : decode cX11_codeAt 23 = .ok (.idiv, 1) := by decide +kernel
theorem dX11_codeAt_24 : decode cX11_codeAt 24 = .ok (.bipush 7, 2) := by decide +kernel
theorem dX11_codeAt_26 : decode cX11_codeAt 26 = .ok (.irem, 1) := by decide +kernel
theorem dX11_codeAt_27 : decode cX11_codeAt 27 = .ok (.bipush 10, 2) := by decide +kernel
theorem dX11_codeAt_29 : decode cX11_codeAt 29 = .ok (.imul, 1) := by decide +kernel
theorem dX11_codeAt_30 : decode cX11_codeAt 30 = .ok (.iadd, 1) := by decide +kernel
theorem dX11_codeAt_31 : decode cX11_codeAt 31 = .ok (.iload_n 0, 1) := by decide +kernel
theorem dX11_codeAt_32 : decode cX11_codeAt 32 = .ok (.bipush 7, 2) := by decide +kernel
theorem dX11_codeAt_34 : decode cX11_codeAt 34 = .ok (.irem, 1) := by decide +kernel
theorem dX11_codeAt_35 : decode cX11_codeAt 35 = .ok (.iadd, 1) := by decide +kernel
theorem dX11_codeAt_36 : decode cX11_codeAt 36 = .ok (.ireturn, 1) := by decide +kernel
theorem dX11_placeOf_0 : decode cX11_placeOf 0 = .ok (.iload_n 0, 1) := by decide +kernel
theorem dX11_placeOf_1 : decode cX11_placeOf 1 = .ok (.iconst 0, 1) := by decide +kernel
theorem dX11_placeOf_2 : decode cX11_placeOf 2 = .ok (.invokestatic 76, 3) := by decide +kernel
theorem dX11_placeOf_5 : decode cX11_placeOf 5 = .ok (.sipush 343, 3) := by decide +kernel
theorem dX11_placeOf_8 : decode cX11_placeOf 8 = .ok (.imul, 1) := by decide +kernel
theorem dX11_placeOf_9 : decode cX11_placeOf 9 = .ok (.iload_n 0, 1) := by decide +kernel
theorem dX11_placeOf_10 : decode cX11_placeOf 10 = .ok (.iconst 1, 1) := by decide +kernel
theorem dX11_placeOf_11 : decode cX11_placeOf 11 = .ok (.invokestatic 76, 3) := by decide +kernel
theorem dX11_placeOf_14 : decode cX11_placeOf 14 = .ok (.bipush 49, 2) := by decide +kernel
theorem dX11_placeOf_16 : decode cX11_placeOf 16 = .ok (.imul, 1) := by decide +kernel
theorem dX11_placeOf_17 : decode cX11_placeOf 17 = .ok (.iadd, 1) := by decide +kernel
theorem dX11_placeOf_18 : decode cX11_placeOf 18 = .ok (.iload_n 0, 1) := by decide +kernel
theorem dX11_placeOf_19 : decode cX11_placeOf 19 = .ok (.iconst 2, 1) := by decide +kernel
theorem dX11_placeOf_20 : decode cX11_placeOf 20 = .ok (.invokestatic 76, 3) := by decide +kernel
theorem dX11_placeOf_23 : decode cX11_placeOf 23 = .ok (.bipush 7, 2) := by decide +kernel
theorem dX11_placeOf_25 : decode cX11_placeOf 25 = .ok (.imul, 1) := by decide +kernel
theorem dX11_placeOf_26 : decode cX11_placeOf 26 = .ok (.iadd, 1) := by decide +kernel
theorem dX11_placeOf_27 : decode cX11_placeOf 27 = .ok (.iload_n 0, 1) := by decide +kernel
theorem dX11_placeOf_28 : decode cX11_placeOf 28 = .ok (.iconst 3, 1) := by decide +kernel
theorem dX11_placeOf_29 : decode cX11_placeOf 29 = .ok (.invokestatic 76, 3) := by decide +kernel
theorem dX11_placeOf_32 : decode cX11_placeOf 32 = .ok (.iadd, 1) := by decide +kernel
theorem dX11_placeOf_33 : decode cX11_placeOf 33 = .ok (.ireturn, 1) := by decide +kernel
theorem dX11_divides_0 : decode cX11_divides 0 = .ok (.iconst 1, 1) := by decide +kernel
theorem dX11_divides_1 : decode cX11_divides 1 = .ok (.istore_n 2, 1) := by decide +kernel
theorem dX11_divides_2 : decode cX11_divides 2 = .ok (.iconst 0, 1) := by decide +kernel
theorem dX11_divides_3 : decode cX11_divides 3 = .ok (.istore_n 3, 1) := by decide +kernel
theorem dX11_divides_4 : decode cX11_divides 4 = .ok (.iload_n 3, 1) := by decide +kernel
theorem dX11_divides_5 : decode cX11_divides 5 = .ok (.iconst 4, 1) := by decide +kernel
theorem dX11_divides_6 : decode cX11_divides 6 = .ok (.if_icmp .ge 32, 3) := by decide +kernel
theorem dX11_divides_9 : decode cX11_divides 9 = .ok (.iload_n 2, 1) := by decide +kernel
theorem dX11_divides_10 : decode cX11_divides 10 = .ok (.ifCond .eq 20, 3) := by decide +kernel
theorem dX11_divides_13 : decode cX11_divides 13 = .ok (.iload_n 0, 1) := by decide +kernel
theorem dX11_divides_14 : decode cX11_divides 14 = .ok (.iload_n 3, 1) := by decide +kernel
theorem dX11_divides_15 : decode cX11_divides 15 = .ok (.invokestatic 76, 3) := by decide +kernel
theorem dX11_divides_18 : decode cX11_divides 18 = .ok (.iload_n 1, 1) := by decide +kernel
theorem dX11_divides_19 : decode cX11_divides 19 = .ok (.iload_n 3, 1) := by decide +kernel
theorem dX11_divides_20 : decode cX11_divides 20 = .ok (.invokestatic 76, 3) := by decide +kernel
theorem dX11_divides_23 : decode cX11_divides 23 = .ok (.if_icmp .gt 7, 3) := by decide +kernel
theorem dX11_divides_26 : decode cX11_divides 26 = .ok (.iconst 1, 1) := by decide +kernel
theorem dX11_divides_27 : decode cX11_divides 27 = .ok (.goto 4, 3) := by decide +kernel
theorem dX11_divides_30 : decode cX11_divides 30 = .ok (.iconst 0, 1) := by decide +kernel
theorem dX11_divides_31 : decode cX11_divides 31 = .ok (.istore_n 2, 1) := by decide +kernel
theorem dX11_divides_32 : decode cX11_divides 32 = .ok (.iinc 3 1, 3) := by decide +kernel
theorem dX11_divides_35 : decode cX11_divides 35 = .ok (.goto (-31), 3) := by decide +kernel
theorem dX11_divides_38 : decode cX11_divides 38 = .ok (.iload_n 2, 1) := by decide +kernel
theorem dX11_divides_39 : decode cX11_divides 39 = .ok (.ireturn, 1) := by decide +kernel
theorem dX11_together_0 : decode cX11_together 0 = .ok (.iconst 0, 1) := by decide +kernel
theorem dX11_together_1 : decode cX11_together 1 = .ok (.istore_n 2, 1) := by decide +kernel
theorem dX11_together_2 : decode cX11_together 2 = .ok (.iconst 0, 1) := by decide +kernel
theorem dX11_together_3 : decode cX11_together 3 = .ok (.istore_n 3, 1) := by decide +kernel
theorem dX11_together_4 : decode cX11_together 4 = .ok (.iload_n 3, 1) := by decide +kernel
theorem dX11_together_5 : decode cX11_together 5 = .ok (.iconst 4, 1) := by decide +kernel
theorem dX11_together_6 : decode cX11_together 6 = .ok (.if_icmp .ge 30, 3) := by decide +kernel
theorem dX11_together_9 : decode cX11_together 9 = .ok (.iload_n 2, 1) := by decide +kernel
theorem dX11_together_10 : decode cX11_together 10 = .ok (.iload_n 3, 1) := by decide +kernel
theorem dX11_together_11 : decode cX11_together 11 = .ok (.invokestatic 70, 3) := by decide +kernel
theorem dX11_together_14 : decode cX11_together 14 = .ok (.iload_n 0, 1) := by decide +kernel
theorem dX11_together_15 : decode cX11_together 15 = .ok (.iload_n 3, 1) := by decide +kernel
theorem dX11_together_16 : decode cX11_together 16 = .ok (.invokestatic 76, 3) := by decide +kernel
theorem dX11_together_19 : decode cX11_together 19 = .ok (.iload_n 1, 1) := by decide +kernel
theorem dX11_together_20 : decode cX11_together 20 = .ok (.iload_n 3, 1) := by decide +kernel
theorem dX11_together_21 : decode cX11_together 21 = .ok (.invokestatic 76, 3) := by decide +kernel
theorem dX11_together_24 : decode cX11_together 24 = .ok (.invokestatic 80, 3) := by decide +kernel
theorem dX11_together_27 : decode cX11_together 27 = .ok (.imul, 1) := by decide +kernel
theorem dX11_together_28 : decode cX11_together 28 = .ok (.iadd, 1) := by decide +kernel
theorem dX11_together_29 : decode cX11_together 29 = .ok (.istore_n 2, 1) := by decide +kernel
theorem dX11_together_30 : decode cX11_together 30 = .ok (.iinc 3 1, 3) := by decide +kernel
theorem dX11_together_33 : decode cX11_together 33 = .ok (.goto (-29), 3) := by decide +kernel
theorem dX11_together_36 : decode cX11_together 36 = .ok (.iload_n 2, 1) := by decide +kernel
theorem dX11_together_37 : decode cX11_together 37 = .ok (.ireturn, 1) := by decide +kernel
theorem dX11_capped_0 : decode cX11_capped 0 = .ok (.iconst 0, 1) := by decide +kernel
theorem dX11_capped_1 : decode cX11_capped 1 = .ok (.istore_n 2, 1) := by decide +kernel
theorem dX11_capped_2 : decode cX11_capped 2 = .ok (.iconst 0, 1) := by decide +kernel
theorem dX11_capped_3 : decode cX11_capped 3 = .ok (.istore_n 3, 1) := by decide +kernel
theorem dX11_capped_4 : decode cX11_capped 4 = .ok (.iload_n 3, 1) := by decide +kernel
theorem dX11_capped_5 : decode cX11_capped 5 = .ok (.iconst 4, 1) := by decide +kernel
theorem dX11_capped_6 : decode cX11_capped 6 = .ok (.if_icmp .ge 33, 3) := by decide +kernel
theorem dX11_capped_9 : decode cX11_capped 9 = .ok (.iload_n 2, 1) := by decide +kernel
theorem dX11_capped_10 : decode cX11_capped 10 = .ok (.iload_n 3, 1) := by decide +kernel
theorem dX11_capped_11 : decode cX11_capped 11 = .ok (.invokestatic 70, 3) := by decide +kernel
theorem dX11_capped_14 : decode cX11_capped 14 = .ok (.bipush 6, 2) := by decide +kernel
theorem dX11_capped_16 : decode cX11_capped 16 = .ok (.iload_n 0, 1) := by decide +kernel
theorem dX11_capped_17 : decode cX11_capped 17 = .ok (.iload_n 3, 1) := by decide +kernel
theorem dX11_capped_18 : decode cX11_capped 18 = .ok (.invokestatic 76, 3) := by decide +kernel
theorem dX11_capped_21 : decode cX11_capped 21 = .ok (.iload_n 1, 1) := by decide +kernel
theorem dX11_capped_22 : decode cX11_capped 22 = .ok (.iload_n 3, 1) := by decide +kernel
theorem dX11_capped_23 : decode cX11_capped 23 = .ok (.invokestatic 76, 3) := by decide +kernel
theorem dX11_capped_26 : decode cX11_capped 26 = .ok (.iadd, 1) := by decide +kernel
theorem dX11_capped_27 : decode cX11_capped 27 = .ok (.invokestatic 83, 3) := by decide +kernel
theorem dX11_capped_30 : decode cX11_capped 30 = .ok (.imul, 1) := by decide +kernel
theorem dX11_capped_31 : decode cX11_capped 31 = .ok (.iadd, 1) := by decide +kernel
theorem dX11_capped_32 : decode cX11_capped 32 = .ok (.istore_n 2, 1) := by decide +kernel
theorem dX11_capped_33 : decode cX11_capped 33 = .ok (.iinc 3 1, 3) := by decide +kernel
theorem dX11_capped_36 : decode cX11_capped 36 = .ok (.goto (-32), 3) := by decide +kernel
theorem dX11_capped_39 : decode cX11_capped 39 = .ok (.iload_n 2, 1) := by decide +kernel
theorem dX11_capped_40 : decode cX11_capped 40 = .ok (.ireturn, 1) := by decide +kernel
theorem dX11_support_0 : decode cX11_support 0 = .ok (.iconst 0, 1) := by decide +kernel
theorem dX11_support_1 : decode cX11_support 1 = .ok (.istore_n 1, 1) := by decide +kernel
theorem dX11_support_2 : decode cX11_support 2 = .ok (.iconst 0, 1) := by decide +kernel
theorem dX11_support_3 : decode cX11_support 3 = .ok (.istore_n 2, 1) := by decide +kernel
theorem dX11_support_4 : decode cX11_support 4 = .ok (.iload_n 2, 1) := by decide +kernel
theorem dX11_support_5 : decode cX11_support 5 = .ok (.iconst 4, 1) := by decide +kernel
theorem dX11_support_6 : decode cX11_support 6 = .ok (.if_icmp .ge 27, 3) := by decide +kernel
theorem dX11_support_9 : decode cX11_support 9 = .ok (.iload_n 1, 1) := by decide +kernel
theorem dX11_support_10 : decode cX11_support 10 = .ok (.iload_n 0, 1) := by decide +kernel
theorem dX11_support_11 : decode cX11_support 11 = .ok (.iload_n 2, 1) := by decide +kernel
theorem dX11_support_12 : decode cX11_support 12 = .ok (.invokestatic 76, 3) := by decide +kernel
theorem dX11_support_15 : decode cX11_support 15 = .ok (.ifCond .le 9, 3) := by decide +kernel
theorem dX11_support_18 : decode cX11_support 18 = .ok (.iconst 1, 1) := by decide +kernel
theorem dX11_support_19 : decode cX11_support 19 = .ok (.iload_n 2, 1) := by decide +kernel
theorem dX11_support_20 : decode cX11_support 20 = .ok (.ishl, 1) := by decide +kernel
theorem dX11_support_21 : decode cX11_support 21 = .ok (.goto 4, 3) := by decide +kernel
theorem dX11_support_24 : decode cX11_support 24 = .ok (.iconst 0, 1) := by decide +kernel
theorem dX11_support_25 : decode cX11_support 25 = .ok (.ior, 1) := by decide +kernel
theorem dX11_support_26 : decode cX11_support 26 = .ok (.istore_n 1, 1) := by decide +kernel
theorem dX11_support_27 : decode cX11_support 27 = .ok (.iinc 2 1, 3) := by decide +kernel
theorem dX11_support_30 : decode cX11_support 30 = .ok (.goto (-26), 3) := by decide +kernel
theorem dX11_support_33 : decode cX11_support 33 = .ok (.iload_n 1, 1) := by decide +kernel
theorem dX11_support_34 : decode cX11_support 34 = .ok (.ireturn, 1) := by decide +kernel
theorem dX11_at_0 : decode cX11_at 0 = .ok (.aload_n 0, 1) := by decide +kernel
theorem dX11_at_1 : decode cX11_at 1 = .ok (.getfield 7, 3) := by decide +kernel
theorem dX11_at_4 : decode cX11_at 4 = .ok (.bipush 40, 2) := by decide +kernel
theorem dX11_at_6 : decode cX11_at 6 = .ok (.iload_n 1, 1) := by decide +kernel
theorem dX11_at_7 : decode cX11_at 7 = .ok (.imul, 1) := by decide +kernel
theorem dX11_at_8 : decode cX11_at 8 = .ok (.iload_n 2, 1) := by decide +kernel
theorem dX11_at_9 : decode cX11_at 9 = .ok (.iadd, 1) := by decide +kernel
theorem dX11_at_10 : decode cX11_at 10 = .ok (.iaload, 1) := by decide +kernel
theorem dX11_at_11 : decode cX11_at 11 = .ok (.ireturn, 1) := by decide +kernel
theorem dX11_isIn_0 : decode cX11_isIn 0 = .ok (.iconst 0, 1) := by decide +kernel
theorem dX11_isIn_1 : decode cX11_isIn 1 = .ok (.istore_n 3, 1) := by decide +kernel
theorem dX11_isIn_2 : decode cX11_isIn 2 = .ok (.iconst 0, 1) := by decide +kernel
theorem dX11_isIn_3 : decode cX11_isIn 3 = .ok (.istore 4, 2) := by decide +kernel
theorem dX11_isIn_5 : decode cX11_isIn 5 = .ok (.iload 4, 2) := by decide +kernel
theorem dX11_isIn_7 : decode cX11_isIn 7 = .ok (.aload_n 0, 1) := by decide +kernel
theorem dX11_isIn_8 : decode cX11_isIn 8 = .ok (.getfield 13, 3) := by decide +kernel
theorem dX11_isIn_11 : decode cX11_isIn 11 = .ok (.iload_n 1, 1) := by decide +kernel
theorem dX11_isIn_12 : decode cX11_isIn 12 = .ok (.iaload, 1) := by decide +kernel
theorem dX11_isIn_13 : decode cX11_isIn 13 = .ok (.if_icmp .ge 33, 3) := by decide +kernel
theorem dX11_isIn_16 : decode cX11_isIn 16 = .ok (.iload_n 3, 1) := by decide +kernel
theorem dX11_isIn_17 : decode cX11_isIn 17 = .ok (.ifCond .ne 17, 3) := by decide +kernel
theorem dX11_isIn_20 : decode cX11_isIn 20 = .ok (.aload_n 0, 1) := by decide +kernel
theorem dX11_isIn_21 : decode cX11_isIn 21 = .ok (.iload_n 1, 1) := by decide +kernel
theorem dX11_isIn_22 : decode cX11_isIn 22 = .ok (.iload 4, 2) := by decide +kernel
theorem dX11_isIn_24 : decode cX11_isIn 24 = .ok (.invokevirtual 86, 3) := by decide +kernel
theorem dX11_isIn_27 : decode cX11_isIn 27 = .ok (.iload_n 2, 1) := by decide +kernel
theorem dX11_isIn_28 : decode cX11_isIn 28 = .ok (.invokestatic 89, 3) := by decide +kernel
theorem dX11_isIn_31 : decode cX11_isIn 31 = .ok (.ifCond .eq 7, 3) := by decide +kernel
theorem dX11_isIn_34 : decode cX11_isIn 34 = .ok (.iconst 1, 1) := by decide +kernel
theorem dX11_isIn_35 : decode cX11_isIn 35 = .ok (.goto 4, 3) := by decide +kernel
theorem dX11_isIn_38 : decode cX11_isIn 38 = .ok (.iconst 0, 1) := by decide +kernel
theorem dX11_isIn_39 : decode cX11_isIn 39 = .ok (.istore_n 3, 1) := by decide +kernel
theorem dX11_isIn_40 : decode cX11_isIn 40 = .ok (.iinc 4 1, 3) := by decide +kernel
theorem dX11_isIn_43 : decode cX11_isIn 43 = .ok (.goto (-38), 3) := by decide +kernel
theorem dX11_isIn_46 : decode cX11_isIn 46 = .ok (.iload_n 3, 1) := by decide +kernel
theorem dX11_isIn_47 : decode cX11_isIn 47 = .ok (.ireturn, 1) := by decide +kernel
theorem dX11_isLeast_0 : decode cX11_isLeast 0 = .ok (.iload_n 1, 1) := by decide +kernel
theorem dX11_isLeast_1 : decode cX11_isLeast 1 = .ok (.invokestatic 93, 3) := by decide +kernel
theorem dX11_isLeast_4 : decode cX11_isLeast 4 = .ok (.istore_n 2, 1) := by decide +kernel
theorem dX11_isLeast_5 : decode cX11_isLeast 5 = .ok (.aload_n 0, 1) := by decide +kernel
theorem dX11_isLeast_6 : decode cX11_isLeast 6 = .ok (.getfield 19, 3) := by decide +kernel
theorem dX11_isLeast_9 : decode cX11_isLeast 9 = .ok (.iload_n 1, 1) := by decide +kernel
theorem dX11_isLeast_10 : decode cX11_isLeast 10 = .ok (.baload, 1) := by decide +kernel
theorem dX11_isLeast_11 : decode cX11_isLeast 11 = .ok (.istore_n 3, 1) := by decide +kernel
theorem dX11_isLeast_12 : decode cX11_isLeast 12 = .ok (.iconst 0, 1) := by decide +kernel
theorem dX11_isLeast_13 : decode cX11_isLeast 13 = .ok (.istore 4, 2) := by decide +kernel
theorem dX11_isLeast_15 : decode cX11_isLeast 15 = .ok (.iload 4, 2) := by decide +kernel
theorem dX11_isLeast_17 : decode cX11_isLeast 17 = .ok (.iconst 4, 1) := by decide +kernel
theorem dX11_isLeast_18 : decode cX11_isLeast 18 = .ok (.if_icmp .ge 46, 3) := by decide +kernel
theorem dX11_isLeast_21 : decode cX11_isLeast 21 = .ok (.iload_n 3, 1) := by decide +kernel
theorem dX11_isLeast_22 : decode cX11_isLeast 22 = .ok (.ifCond .eq 34, 3) := by decide +kernel
theorem dX11_isLeast_25 : decode cX11_isLeast 25 = .ok (.iload_n 2, 1) := by decide +kernel
theorem dX11_isLeast_26 : decode cX11_isLeast 26 = .ok (.iload 4, 2) := by decide +kernel
theorem dX11_isLeast_28 : decode cX11_isLeast 28 = .ok (.invokestatic 76, 3) := by decide +kernel
theorem dX11_isLeast_31 : decode cX11_isLeast 31 = .ok (.ifCond .eq 21, 3) := by decide +kernel
theorem dX11_isLeast_34 : decode cX11_isLeast 34 = .ok (.aload_n 0, 1) := by decide +kernel
theorem dX11_isLeast_35 : decode cX11_isLeast 35 = .ok (.getfield 19, 3) := by decide +kernel
theorem dX11_isLeast_38 : decode cX11_isLeast 38 = .ok (.iload_n 2, 1) := by decide +kernel
theorem dX11_isLeast_39 : decode cX11_isLeast 39 = .ok (.iload 4, 2) := by decide +kernel
theorem dX11_isLeast_41 : decode cX11_isLeast 41 = .ok (.invokestatic 70, 3) := by decide +kernel
theorem dX11_isLeast_44 : decode cX11_isLeast 44 = .ok (.isub, 1) := by decide +kernel
theorem dX11_isLeast_45 : decode cX11_isLeast 45 = .ok (.invokestatic 96, 3) := by decide +kernel
theorem dX11_isLeast_48 : decode cX11_isLeast 48 = .ok (.baload, 1) := by decide +kernel
theorem dX11_isLeast_49 : decode cX11_isLeast 49 = .ok (.ifCond .ne 7, 3) := by decide +kernel
theorem dX11_isLeast_52 : decode cX11_isLeast 52 = .ok (.iconst 1, 1) := by decide +kernel
theorem dX11_isLeast_53 : decode cX11_isLeast 53 = .ok (.goto 4, 3) := by decide +kernel
theorem dX11_isLeast_56 : decode cX11_isLeast 56 = .ok (.iconst 0, 1) := by decide +kernel
theorem dX11_isLeast_57 : decode cX11_isLeast 57 = .ok (.istore_n 3, 1) := by decide +kernel
theorem dX11_isLeast_58 : decode cX11_isLeast 58 = .ok (.iinc 4 1, 3) := by decide +kernel
theorem dX11_isLeast_61 : decode cX11_isLeast 61 = .ok (.goto (-46), 3) := by decide +kernel
theorem dX11_isLeast_64 : decode cX11_isLeast 64 = .ok (.iload_n 3, 1) := by decide +kernel
theorem dX11_isLeast_65 : decode cX11_isLeast 65 = .ok (.ireturn, 1) := by decide +kernel
theorem dX11_keep_0 : decode cX11_keep 0 = .ok (.iconst 0, 1) := by decide +kernel
theorem dX11_keep_1 : decode cX11_keep 1 = .ok (.istore_n 2, 1) := by decide +kernel
theorem dX11_keep_2 : decode cX11_keep 2 = .ok (.iconst 0, 1) := by decide +kernel
theorem dX11_keep_3 : decode cX11_keep 3 = .ok (.istore_n 3, 1) := by decide +kernel
theorem dX11_keep_4 : decode cX11_keep 4 = .ok (.iload_n 3, 1) := by decide +kernel
theorem dX11_keep_5 : decode cX11_keep 5 = .ok (.sipush 2401, 3) := by decide +kernel
theorem dX11_keep_8 : decode cX11_keep 8 = .ok (.if_icmp .ge 25, 3) := by decide +kernel
theorem dX11_keep_11 : decode cX11_keep 11 = .ok (.iload_n 2, 1) := by decide +kernel
theorem dX11_keep_12 : decode cX11_keep 12 = .ok (.aload_n 0, 1) := by decide +kernel
theorem dX11_keep_13 : decode cX11_keep 13 = .ok (.iload_n 3, 1) := by decide +kernel
theorem dX11_keep_14 : decode cX11_keep 14 = .ok (.invokevirtual 99, 3) := by decide +kernel
theorem dX11_keep_17 : decode cX11_keep 17 = .ok (.ifCond .eq 7, 3) := by decide +kernel
theorem dX11_keep_20 : decode cX11_keep 20 = .ok (.iconst 1, 1) := by decide +kernel
theorem dX11_keep_21 : decode cX11_keep 21 = .ok (.goto 4, 3) := by decide +kernel
theorem dX11_keep_24 : decode cX11_keep 24 = .ok (.iconst 0, 1) := by decide +kernel
theorem dX11_keep_25 : decode cX11_keep 25 = .ok (.iadd, 1) := by decide +kernel
theorem dX11_keep_26 : decode cX11_keep 26 = .ok (.istore_n 2, 1) := by decide +kernel
theorem dX11_keep_27 : decode cX11_keep 27 = .ok (.iinc 3 1, 3) := by decide +kernel
theorem dX11_keep_30 : decode cX11_keep 30 = .ok (.goto (-26), 3) := by decide +kernel
theorem dX11_keep_33 : decode cX11_keep 33 = .ok (.iload_n 2, 1) := by decide +kernel
theorem dX11_keep_34 : decode cX11_keep 34 = .ok (.bipush 40, 2) := by decide +kernel
theorem dX11_keep_36 : decode cX11_keep 36 = .ok (.if_icmp .le 6, 3) := by decide +kernel
theorem dX11_keep_39 : decode cX11_keep 39 = .ok (.bipush (-4), 2) := by decide +kernel
theorem dX11_keep_41 : decode cX11_keep 41 = .ok (.ireturn, 1) := by decide +kernel
theorem dX11_keep_42 : decode cX11_keep 42 = .ok (.aload_n 0, 1) := by decide +kernel
theorem dX11_keep_43 : decode cX11_keep 43 = .ok (.getfield 13, 3) := by decide +kernel
theorem dX11_keep_46 : decode cX11_keep 46 = .ok (.iload_n 1, 1) := by decide +kernel
theorem dX11_keep_47 : decode cX11_keep 47 = .ok (.iconst 0, 1) := by decide +kernel
theorem dX11_keep_48 : decode cX11_keep 48 = .ok (.iastore, 1) := by decide +kernel
theorem dX11_keep_49 : decode cX11_keep 49 = .ok (.iconst 0, 1) := by decide +kernel
theorem dX11_keep_50 : decode cX11_keep 50 = .ok (.istore_n 3, 1) := by decide +kernel
theorem dX11_keep_51 : decode cX11_keep 51 = .ok (.iload_n 3, 1) := by decide +kernel
theorem dX11_keep_52 : decode cX11_keep 52 = .ok (.sipush 2401, 3) := by decide +kernel
theorem dX11_keep_55 : decode cX11_keep 55 = .ok (.if_icmp .ge 47, 3) := by decide +kernel
theorem dX11_keep_58 : decode cX11_keep 58 = .ok (.aload_n 0, 1) := by decide +kernel
theorem dX11_keep_59 : decode cX11_keep 59 = .ok (.iload_n 3, 1) := by decide +kernel
theorem dX11_keep_60 : decode cX11_keep 60 = .ok (.invokevirtual 99, 3) := by decide +kernel
theorem dX11_keep_63 : decode cX11_keep 63 = .ok (.ifCond .eq 33, 3) := by decide +kernel
theorem dX11_keep_66 : decode cX11_keep 66 = .ok (.aload_n 0, 1) := by decide +kernel
theorem dX11_keep_67 : decode cX11_keep 67 = .ok (.getfield 7, 3) := by decide +kernel
theorem dX11_keep_70 : decode cX11_keep 70 = .ok (.bipush 40, 2) := by decide +kernel
theorem dX11_keep_72 : decode cX11_keep 72 = .ok (.iload_n 1, 1) := by decide +kernel
theorem dX11_keep_73 : decode cX11_keep 73 = .ok (.imul, 1) := by decide +kernel
theorem dX11_keep_74 : decode cX11_keep 74 = .ok (.aload_n 0, 1) := by decide +kernel
theorem dX11_keep_75 : decode cX11_keep 75 = .ok (.getfield 13, 3) := by decide +kernel
theorem dX11_keep_78 : decode cX11_keep 78 = .ok (.iload_n 1, 1) := by decide +kernel
theorem dX11_keep_79 : decode cX11_keep 79 = .ok (.iaload, 1) := by decide +kernel
theorem dX11_keep_80 : decode cX11_keep 80 = .ok (.iadd, 1) := by decide +kernel
theorem dX11_keep_81 : decode cX11_keep 81 = .ok (.iload_n 3, 1) := by decide +kernel
theorem dX11_keep_82 : decode cX11_keep 82 = .ok (.invokestatic 93, 3) := by decide +kernel
theorem dX11_keep_85 : decode cX11_keep 85 = .ok (.iastore, 1) := by decide +kernel
theorem dX11_keep_86 : decode cX11_keep 86 = .ok (.aload_n 0, 1) := by decide +kernel
theorem dX11_keep_87 : decode cX11_keep 87 = .ok (.getfield 13, 3) := by decide +kernel
theorem dX11_keep_90 : decode cX11_keep 90 = .ok (.iload_n 1, 1) := by decide +kernel
theorem dX11_keep_91 : decode cX11_keep 91 = .ok (.dup2, 1) := by decide +kernel
theorem dX11_keep_92 : decode cX11_keep 92 = .ok (.iaload, 1) := by decide +kernel
theorem dX11_keep_93 : decode cX11_keep 93 = .ok (.iconst 1, 1) := by decide +kernel
theorem dX11_keep_94 : decode cX11_keep 94 = .ok (.iadd, 1) := by decide +kernel
theorem dX11_keep_95 : decode cX11_keep 95 = .ok (.iastore, 1) := by decide +kernel
theorem dX11_keep_96 : decode cX11_keep 96 = .ok (.iinc 3 1, 3) := by decide +kernel
theorem dX11_keep_99 : decode cX11_keep 99 = .ok (.goto (-48), 3) := by decide +kernel
theorem dX11_keep_102 : decode cX11_keep 102 = .ok (.iload_n 2, 1) := by decide +kernel
theorem dX11_keep_103 : decode cX11_keep 103 = .ok (.ireturn, 1) := by decide +kernel
theorem dX11_markAbove_0 : decode cX11_markAbove 0 = .ok (.iconst 0, 1) := by decide +kernel
theorem dX11_markAbove_1 : decode cX11_markAbove 1 = .ok (.istore_n 2, 1) := by decide +kernel
theorem dX11_markAbove_2 : decode cX11_markAbove 2 = .ok (.iload_n 2, 1) := by decide +kernel
theorem dX11_markAbove_3 : decode cX11_markAbove 3 = .ok (.sipush 2401, 3) := by decide +kernel
theorem dX11_markAbove_6 : decode cX11_markAbove 6 = .ok (.if_icmp .ge 40, 3) := by decide +kernel
theorem dX11_markAbove_9 : decode cX11_markAbove 9 = .ok (.aload_n 0, 1) := by decide +kernel
theorem dX11_markAbove_10 : decode cX11_markAbove 10 = .ok (.getfield 19, 3) := by decide +kernel
theorem dX11_markAbove_13 : decode cX11_markAbove 13 = .ok (.iload_n 2, 1) := by decide +kernel
theorem dX11_markAbove_14 : decode cX11_markAbove 14 = .ok (.aload_n 0, 1) := by decide +kernel
theorem dX11_markAbove_15 : decode cX11_markAbove 15 = .ok (.getfield 19, 3) := by decide +kernel
theorem dX11_markAbove_18 : decode cX11_markAbove 18 = .ok (.iload_n 2, 1) := by decide +kernel
theorem dX11_markAbove_19 : decode cX11_markAbove 19 = .ok (.baload, 1) := by decide +kernel
theorem dX11_markAbove_20 : decode cX11_markAbove 20 = .ok (.ifCond .ne 14, 3) := by decide +kernel
theorem dX11_markAbove_23 : decode cX11_markAbove 23 = .ok (.iload_n 1, 1) := by decide +kernel
theorem dX11_markAbove_24 : decode cX11_markAbove 24 = .ok (.iload_n 2, 1) := by decide +kernel
theorem dX11_markAbove_25 : decode cX11_markAbove 25 = .ok (.invokestatic 93, 3) := by decide +kernel
theorem dX11_markAbove_28 : decode cX11_markAbove 28 = .ok (.invokestatic 89, 3) := by decide +kernel
theorem dX11_markAbove_31 : decode cX11_markAbove 31 = .ok (.ifCond .eq 7, 3) := by decide +kernel
theorem dX11_markAbove_34 : decode cX11_markAbove 34 = .ok (.iconst 1, 1) := by decide +kernel
theorem dX11_markAbove_35 : decode cX11_markAbove 35 = .ok (.goto 4, 3) := by decide +kernel
theorem dX11_markAbove_38 : decode cX11_markAbove 38 = .ok (.iconst 0, 1) := by decide +kernel
theorem dX11_markAbove_39 : decode cX11_markAbove 39 = .ok (.bastore, 1) := by decide +kernel
theorem dX11_markAbove_40 : decode cX11_markAbove 40 = .ok (.iinc 2 1, 3) := by decide +kernel
theorem dX11_markAbove_43 : decode cX11_markAbove 43 = .ok (.goto (-41), 3) := by decide +kernel
theorem dX11_markAbove_46 : decode cX11_markAbove 46 = .ok (.return_, 1) := by decide +kernel
theorem dX11_clear_0 : decode cX11_clear 0 = .ok (.iconst 0, 1) := by decide +kernel
theorem dX11_clear_1 : decode cX11_clear 1 = .ok (.istore_n 1, 1) := by decide +kernel
theorem dX11_clear_2 : decode cX11_clear 2 = .ok (.iload_n 1, 1) := by decide +kernel
theorem dX11_clear_3 : decode cX11_clear 3 = .ok (.sipush 2401, 3) := by decide +kernel
theorem dX11_clear_6 : decode cX11_clear 6 = .ok (.if_icmp .ge 16, 3) := by decide +kernel
theorem dX11_clear_9 : decode cX11_clear 9 = .ok (.aload_n 0, 1) := by decide +kernel
theorem dX11_clear_10 : decode cX11_clear 10 = .ok (.getfield 19, 3) := by decide +kernel
theorem dX11_clear_13 : decode cX11_clear 13 = .ok (.iload_n 1, 1) := by decide +kernel
theorem dX11_clear_14 : decode cX11_clear 14 = .ok (.iconst 0, 1) := by decide +kernel
theorem dX11_clear_15 : decode cX11_clear 15 = .ok (.bastore, 1) := by decide +kernel
theorem dX11_clear_16 : decode cX11_clear 16 = .ok (.iinc 1 1, 3) := by decide +kernel
theorem dX11_clear_19 : decode cX11_clear 19 = .ok (.goto (-17), 3) := by decide +kernel
theorem dX11_clear_22 : decode cX11_clear 22 = .ok (.return_, 1) := by decide +kernel
theorem dX11_say_0 : decode cX11_say 0 = .ok (.iload_n 1, 1) := by decide +kernel
theorem dX11_say_1 : decode cX11_say 1 = .ok (.i2l, 1) := by decide +kernel
theorem dX11_say_2 : decode cX11_say 2 = .ok (.ldc2_w 103, 3) := by decide +kernel
theorem dX11_say_5 : decode cX11_say 5 = .ok (.ldc2_w 105, 3) := by decide +kernel
theorem dX11_say_8 : decode cX11_say 8 = .ok (.invokestatic 64, 3) := by decide +kernel
theorem dX11_say_11 : decode cX11_say 11 = .ok (.ifCond .ne 6, 3) := by decide +kernel
theorem dX11_say_14 : decode cX11_say 14 = .ok (.bipush (-2), 2) := by decide +kernel
theorem dX11_say_16 : decode cX11_say 16 = .ok (.ireturn, 1) := by decide +kernel
theorem dX11_say_17 : decode cX11_say 17 = .ok (.aload_n 0, 1) := by decide +kernel
theorem dX11_say_18 : decode cX11_say 18 = .ok (.getfield 107, 3) := by decide +kernel
theorem dX11_say_21 : decode cX11_say 21 = .ok (.bipush 60, 2) := by decide +kernel
theorem dX11_say_23 : decode cX11_say 23 = .ok (.if_icmp .ne 6, 3) := by decide +kernel
theorem dX11_say_26 : decode cX11_say 26 = .ok (.bipush (-4), 2) := by decide +kernel
theorem dX11_say_28 : decode cX11_say 28 = .ok (.ireturn, 1) := by decide +kernel
theorem dX11_say_29 : decode cX11_say 29 = .ok (.aload_n 0, 1) := by decide +kernel
theorem dX11_say_30 : decode cX11_say 30 = .ok (.getfield 23, 3) := by decide +kernel
theorem dX11_say_33 : decode cX11_say 33 = .ok (.aload_n 0, 1) := by decide +kernel
theorem dX11_say_34 : decode cX11_say 34 = .ok (.getfield 107, 3) := by decide +kernel
theorem dX11_say_37 : decode cX11_say 37 = .ok (.iload_n 1, 1) := by decide +kernel
theorem dX11_say_38 : decode cX11_say 38 = .ok (.iastore, 1) := by decide +kernel
theorem dX11_say_39 : decode cX11_say 39 = .ok (.aload_n 0, 1) := by decide +kernel
theorem dX11_say_40 : decode cX11_say 40 = .ok (.dup, 1) := by decide +kernel
theorem dX11_say_41 : decode cX11_say 41 = .ok (.getfield 107, 3) := by decide +kernel
theorem dX11_say_44 : decode cX11_say 44 = .ok (.iconst 1, 1) := by decide +kernel
theorem dX11_say_45 : decode cX11_say 45 = .ok (.iadd, 1) := by decide +kernel
theorem dX11_say_46 : decode cX11_say 46 = .ok (.putfield 107, 3) := by decide +kernel
theorem dX11_say_49 : decode cX11_say 49 = .ok (.aload_n 0, 1) := by decide +kernel
theorem dX11_say_50 : decode cX11_say 50 = .ok (.getfield 107, 3) := by decide +kernel
theorem dX11_say_53 : decode cX11_say 53 = .ok (.ireturn, 1) := by decide +kernel
theorem dX11_wipe_0 : decode cX11_wipe 0 = .ok (.aload_n 0, 1) := by decide +kernel
theorem dX11_wipe_1 : decode cX11_wipe 1 = .ok (.getfield 107, 3) := by decide +kernel
theorem dX11_wipe_4 : decode cX11_wipe 4 = .ok (.istore_n 1, 1) := by decide +kernel
theorem dX11_wipe_5 : decode cX11_wipe 5 = .ok (.aload_n 0, 1) := by decide +kernel
theorem dX11_wipe_6 : decode cX11_wipe 6 = .ok (.iconst 0, 1) := by decide +kernel
theorem dX11_wipe_7 : decode cX11_wipe 7 = .ok (.putfield 107, 3) := by decide +kernel
theorem dX11_wipe_10 : decode cX11_wipe 10 = .ok (.iload_n 1, 1) := by decide +kernel
theorem dX11_wipe_11 : decode cX11_wipe 11 = .ok (.ireturn, 1) := by decide +kernel
theorem dX11_goOn_0 : decode cX11_goOn 0 = .ok (.iload_n 2, 1) := by decide +kernel
theorem dX11_goOn_1 : decode cX11_goOn 1 = .ok (.bipush 44, 2) := by decide +kernel
theorem dX11_goOn_3 : decode cX11_goOn 3 = .ok (.if_icmp .ne 32, 3) := by decide +kernel
theorem dX11_goOn_6 : decode cX11_goOn 6 = .ok (.aload_n 0, 1) := by decide +kernel
theorem dX11_goOn_7 : decode cX11_goOn 7 = .ok (.dup, 1) := by decide +kernel
theorem dX11_goOn_8 : decode cX11_goOn 8 = .ok (.getfield 111, 3) := by decide +kernel
theorem dX11_goOn_11 : decode cX11_goOn 11 = .ok (.iload_n 1, 1) := by decide +kernel
theorem dX11_goOn_12 : decode cX11_goOn 12 = .ok (.ifCond .ne 7, 3) := by decide +kernel
theorem dX11_goOn_15 : decode cX11_goOn 15 = .ok (.iconst 0, 1) := by decide +kernel
theorem dX11_goOn_16 : decode cX11_goOn 16 = .ok (.goto 4, 3) := by decide +kernel
theorem dX11_goOn_19 : decode cX11_goOn 19 = .ok (.iconst 1, 1) := by decide +kernel
theorem dX11_goOn_20 : decode cX11_goOn 20 = .ok (.iadd, 1) := by decide +kernel
theorem dX11_goOn_21 : decode cX11_goOn 21 = .ok (.putfield 111, 3) := by decide +kernel
theorem dX11_goOn_24 : decode cX11_goOn 24 = .ok (.iload_n 1, 1) := by decide +kernel
theorem dX11_goOn_25 : decode cX11_goOn 25 = .ok (.ifCond .ne 8, 3) := by decide +kernel
theorem dX11_goOn_28 : decode cX11_goOn 28 = .ok (.bipush (-6), 2) := by decide +kernel
theorem dX11_goOn_30 : decode cX11_goOn 30 = .ok (.goto 4, 3) := by decide +kernel
theorem dX11_goOn_33 : decode cX11_goOn 33 = .ok (.iconst 0, 1) := by decide +kernel
theorem dX11_goOn_34 : decode cX11_goOn 34 = .ok (.ireturn, 1) := by decide +kernel
theorem dX11_goOn_35 : decode cX11_goOn 35 = .ok (.iload_n 1, 1) := by decide +kernel
theorem dX11_goOn_36 : decode cX11_goOn 36 = .ok (.ifCond .ne 13, 3) := by decide +kernel
theorem dX11_goOn_39 : decode cX11_goOn 39 = .ok (.aload_n 0, 1) := by decide +kernel
theorem dX11_goOn_40 : decode cX11_goOn 40 = .ok (.getfield 26, 3) := by decide +kernel
theorem dX11_goOn_43 : decode cX11_goOn 43 = .ok (.aload_n 0, 1) := by decide +kernel
theorem dX11_goOn_44 : decode cX11_goOn 44 = .ok (.getfield 111, 3) := by decide +kernel
theorem dX11_goOn_47 : decode cX11_goOn 47 = .ok (.iconst 0, 1) := by decide +kernel
theorem dX11_goOn_48 : decode cX11_goOn 48 = .ok (.iastore, 1) := by decide +kernel
theorem dX11_goOn_49 : decode cX11_goOn 49 = .ok (.iload_n 2, 1) := by decide +kernel
theorem dX11_goOn_50 : decode cX11_goOn 50 = .ok (.bipush 49, 2) := by decide +kernel
theorem dX11_goOn_52 : decode cX11_goOn 52 = .ok (.if_icmp .ne 9, 3) := by decide +kernel
theorem dX11_goOn_55 : decode cX11_goOn 55 = .ok (.iload_n 1, 1) := by decide +kernel
theorem dX11_goOn_56 : decode cX11_goOn 56 = .ok (.ifCond .ne 5, 3) := by decide +kernel
theorem dX11_goOn_59 : decode cX11_goOn 59 = .ok (.iconst 3, 1) := by decide +kernel
theorem dX11_goOn_60 : decode cX11_goOn 60 = .ok (.ireturn, 1) := by decide +kernel
theorem dX11_goOn_61 : decode cX11_goOn 61 = .ok (.iload_n 2, 1) := by decide +kernel
theorem dX11_goOn_62 : decode cX11_goOn 62 = .ok (.i2l, 1) := by decide +kernel
theorem dX11_goOn_63 : decode cX11_goOn 63 = .ok (.ldc2_w 114, 3) := by decide +kernel
theorem dX11_goOn_66 : decode cX11_goOn 66 = .ok (.ldc2_w 116, 3) := by decide +kernel
theorem dX11_goOn_69 : decode cX11_goOn 69 = .ok (.invokestatic 64, 3) := by decide +kernel
theorem dX11_goOn_72 : decode cX11_goOn 72 = .ok (.ifCond .eq 63, 3) := by decide +kernel
theorem dX11_goOn_75 : decode cX11_goOn 75 = .ok (.iload_n 1, 1) := by decide +kernel
theorem dX11_goOn_76 : decode cX11_goOn 76 = .ok (.iconst 3, 1) := by decide +kernel
theorem dX11_goOn_77 : decode cX11_goOn 77 = .ok (.if_icmp .eq 58, 3) := by decide +kernel
theorem dX11_goOn_80 : decode cX11_goOn 80 = .ok (.aload_n 0, 1) := by decide +kernel
theorem dX11_goOn_81 : decode cX11_goOn 81 = .ok (.iload_n 2, 1) := by decide +kernel
theorem dX11_goOn_82 : decode cX11_goOn 82 = .ok (.bipush 97, 2) := by decide +kernel
theorem dX11_goOn_84 : decode cX11_goOn 84 = .ok (.isub, 1) := by decide +kernel
theorem dX11_goOn_85 : decode cX11_goOn 85 = .ok (.putfield 118, 3) := by decide +kernel
theorem dX11_goOn_88 : decode cX11_goOn 88 = .ok (.aload_n 0, 1) := by decide +kernel
theorem dX11_goOn_89 : decode cX11_goOn 89 = .ok (.getfield 26, 3) := by decide +kernel
theorem dX11_goOn_92 : decode cX11_goOn 92 = .ok (.aload_n 0, 1) := by decide +kernel
theorem dX11_goOn_93 : decode cX11_goOn 93 = .ok (.getfield 111, 3) := by decide +kernel
theorem dX11_goOn_96 : decode cX11_goOn 96 = .ok (.dup2, 1) := by decide +kernel
theorem dX11_goOn_97 : decode cX11_goOn 97 = .ok (.iaload, 1) := by decide +kernel
theorem dX11_goOn_98 : decode cX11_goOn 98 = .ok (.aload_n 0, 1) := by decide +kernel
theorem dX11_goOn_99 : decode cX11_goOn 99 = .ok (.getfield 118, 3) := by decide +kernel
theorem dX11_goOn_102 : decode cX11_goOn 102 = .ok (.invokestatic 70, 3) := by decide +kernel
theorem dX11_goOn_105 : decode cX11_goOn 105 = .ok (.iadd, 1) := by decide +kernel
theorem dX11_goOn_106 : decode cX11_goOn 106 = .ok (.iastore, 1) := by decide +kernel
theorem dX11_goOn_107 : decode cX11_goOn 107 = .ok (.aload_n 0, 1) := by decide +kernel
theorem dX11_goOn_108 : decode cX11_goOn 108 = .ok (.getfield 26, 3) := by decide +kernel
theorem dX11_goOn_111 : decode cX11_goOn 111 = .ok (.aload_n 0, 1) := by decide +kernel
theorem dX11_goOn_112 : decode cX11_goOn 112 = .ok (.getfield 111, 3) := by decide +kernel
theorem dX11_goOn_115 : decode cX11_goOn 115 = .ok (.iaload, 1) := by decide +kernel
theorem dX11_goOn_116 : decode cX11_goOn 116 = .ok (.aload_n 0, 1) := by decide +kernel
theorem dX11_goOn_117 : decode cX11_goOn 117 = .ok (.getfield 118, 3) := by decide +kernel
theorem dX11_goOn_120 : decode cX11_goOn 120 = .ok (.invokestatic 76, 3) := by decide +kernel
theorem dX11_goOn_123 : decode cX11_goOn 123 = .ok (.bipush 6, 2) := by decide +kernel
theorem dX11_goOn_125 : decode cX11_goOn 125 = .ok (.if_icmp .le 8, 3) := by decide +kernel
theorem dX11_goOn_128 : decode cX11_goOn 128 = .ok (.bipush (-6), 2) := by decide +kernel
theorem dX11_goOn_130 : decode cX11_goOn 130 = .ok (.goto 4, 3) := by decide +kernel
theorem dX11_goOn_133 : decode cX11_goOn 133 = .ok (.iconst 2, 1) := by decide +kernel
theorem dX11_goOn_134 : decode cX11_goOn 134 = .ok (.ireturn, 1) := by decide +kernel
theorem dX11_goOn_135 : decode cX11_goOn 135 = .ok (.iload_n 1, 1) := by decide +kernel
theorem dX11_goOn_136 : decode cX11_goOn 136 = .ok (.iconst 2, 1) := by decide +kernel
theorem dX11_goOn_137 : decode cX11_goOn 137 = .ok (.if_icmp .ne 49, 3) := by decide +kernel
theorem dX11_goOn_140 : decode cX11_goOn 140 = .ok (.iload_n 2, 1) := by decide +kernel
theorem dX11_goOn_141 : decode cX11_goOn 141 = .ok (.i2l, 1) := by decide +kernel
theorem dX11_goOn_142 : decode cX11_goOn 142 = .ok (.ldc2_w 121, 3) := by decide +kernel
theorem dX11_goOn_145 : decode cX11_goOn 145 = .ok (.ldc2_w 123, 3) := by decide +kernel
theorem dX11_goOn_148 : decode cX11_goOn 148 = .ok (.invokestatic 64, 3) := by decide +kernel
theorem dX11_goOn_151 : decode cX11_goOn 151 = .ok (.ifCond .eq 35, 3) := by decide +kernel
theorem dX11_goOn_154 : decode cX11_goOn 154 = .ok (.aload_n 0, 1) := by decide +kernel
theorem dX11_goOn_155 : decode cX11_goOn 155 = .ok (.getfield 26, 3) := by decide +kernel
theorem dX11_goOn_158 : decode cX11_goOn 158 = .ok (.aload_n 0, 1) := by decide +kernel
theorem dX11_goOn_159 : decode cX11_goOn 159 = .ok (.getfield 111, 3) := by decide +kernel
theorem dX11_goOn_162 : decode cX11_goOn 162 = .ok (.iaload, 1) := by decide +kernel
theorem dX11_goOn_163 : decode cX11_goOn 163 = .ok (.aload_n 0, 1) := by decide +kernel
theorem dX11_goOn_164 : decode cX11_goOn 164 = .ok (.getfield 118, 3) := by decide +kernel
theorem dX11_goOn_167 : decode cX11_goOn 167 = .ok (.invokestatic 76, 3) := by decide +kernel
theorem dX11_goOn_170 : decode cX11_goOn 170 = .ok (.iconst 1, 1) := by decide +kernel
theorem dX11_goOn_171 : decode cX11_goOn 171 = .ok (.isub, 1) := by decide +kernel
theorem dX11_goOn_172 : decode cX11_goOn 172 = .ok (.iload_n 2, 1) := by decide +kernel
theorem dX11_goOn_173 : decode cX11_goOn 173 = .ok (.iadd, 1) := by decide +kernel
theorem dX11_goOn_174 : decode cX11_goOn 174 = .ok (.bipush 48, 2) := by decide +kernel
theorem dX11_goOn_176 : decode cX11_goOn 176 = .ok (.isub, 1) := by decide +kernel
theorem dX11_goOn_177 : decode cX11_goOn 177 = .ok (.bipush 6, 2) := by decide +kernel
theorem dX11_goOn_179 : decode cX11_goOn 179 = .ok (.if_icmp .gt 7, 3) := by decide +kernel
theorem dX11_goOn_182 : decode cX11_goOn 182 = .ok (.iconst 1, 1) := by decide +kernel
theorem dX11_goOn_183 : decode cX11_goOn 183 = .ok (.goto 4, 3) := by decide +kernel
theorem dX11_goOn_186 : decode cX11_goOn 186 = .ok (.iconst 0, 1) := by decide +kernel
theorem dX11_goOn_187 : decode cX11_goOn 187 = .ok (.istore_n 3, 1) := by decide +kernel
theorem dX11_goOn_188 : decode cX11_goOn 188 = .ok (.aload_n 0, 1) := by decide +kernel
theorem dX11_goOn_189 : decode cX11_goOn 189 = .ok (.getfield 26, 3) := by decide +kernel
theorem dX11_goOn_192 : decode cX11_goOn 192 = .ok (.aload_n 0, 1) := by decide +kernel
theorem dX11_goOn_193 : decode cX11_goOn 193 = .ok (.getfield 111, 3) := by decide +kernel
theorem dX11_goOn_196 : decode cX11_goOn 196 = .ok (.dup2, 1) := by decide +kernel
theorem dX11_goOn_197 : decode cX11_goOn 197 = .ok (.iaload, 1) := by decide +kernel
theorem dX11_goOn_198 : decode cX11_goOn 198 = .ok (.iload_n 3, 1) := by decide +kernel
theorem dX11_goOn_199 : decode cX11_goOn 199 = .ok (.ifCond .eq 18, 3) := by decide +kernel
theorem dX11_goOn_202 : decode cX11_goOn 202 = .ok (.aload_n 0, 1) := by decide +kernel
theorem dX11_goOn_203 : decode cX11_goOn 203 = .ok (.getfield 118, 3) := by decide +kernel
theorem dX11_goOn_206 : decode cX11_goOn 206 = .ok (.invokestatic 70, 3) := by decide +kernel
theorem dX11_goOn_209 : decode cX11_goOn 209 = .ok (.iload_n 2, 1) := by decide +kernel
theorem dX11_goOn_210 : decode cX11_goOn 210 = .ok (.bipush 49, 2) := by decide +kernel
theorem dX11_goOn_212 : decode cX11_goOn 212 = .ok (.isub, 1) := by decide +kernel
theorem dX11_goOn_213 : decode cX11_goOn 213 = .ok (.imul, 1) := by decide +kernel
theorem dX11_goOn_214 : decode cX11_goOn 214 = .ok (.goto 4, 3) := by decide +kernel
theorem dX11_goOn_217 : decode cX11_goOn 217 = .ok (.iconst 0, 1) := by decide +kernel
theorem dX11_goOn_218 : decode cX11_goOn 218 = .ok (.iadd, 1) := by decide +kernel
theorem dX11_goOn_219 : decode cX11_goOn 219 = .ok (.iastore, 1) := by decide +kernel
theorem dX11_goOn_220 : decode cX11_goOn 220 = .ok (.iload_n 3, 1) := by decide +kernel
theorem dX11_goOn_221 : decode cX11_goOn 221 = .ok (.ifCond .eq 7, 3) := by decide +kernel
theorem dX11_goOn_224 : decode cX11_goOn 224 = .ok (.iconst 1, 1) := by decide +kernel
theorem dX11_goOn_225 : decode cX11_goOn 225 = .ok (.goto 5, 3) := by decide +kernel
theorem dX11_goOn_228 : decode cX11_goOn 228 = .ok (.bipush (-6), 2) := by decide +kernel
theorem dX11_goOn_230 : decode cX11_goOn 230 = .ok (.ireturn, 1) := by decide +kernel
theorem dX11_fault_0 : decode cX11_fault 0 = .ok (.aload_n 0, 1) := by decide +kernel
theorem dX11_fault_1 : decode cX11_fault 1 = .ok (.iconst 0, 1) := by decide +kernel
theorem dX11_fault_2 : decode cX11_fault 2 = .ok (.putfield 111, 3) := by decide +kernel
theorem dX11_fault_5 : decode cX11_fault 5 = .ok (.iconst 0, 1) := by decide +kernel
theorem dX11_fault_6 : decode cX11_fault 6 = .ok (.istore_n 1, 1) := by decide +kernel
theorem dX11_fault_7 : decode cX11_fault 7 = .ok (.iconst 0, 1) := by decide +kernel
theorem dX11_fault_8 : decode cX11_fault 8 = .ok (.istore_n 2, 1) := by decide +kernel
theorem dX11_fault_9 : decode cX11_fault 9 = .ok (.iload_n 2, 1) := by decide +kernel
theorem dX11_fault_10 : decode cX11_fault 10 = .ok (.aload_n 0, 1) := by decide +kernel
theorem dX11_fault_11 : decode cX11_fault 11 = .ok (.getfield 107, 3) := by decide +kernel
theorem dX11_fault_14 : decode cX11_fault 14 = .ok (.if_icmp .ge 27, 3) := by decide +kernel
theorem dX11_fault_17 : decode cX11_fault 17 = .ok (.aload_n 0, 1) := by decide +kernel
theorem dX11_fault_18 : decode cX11_fault 18 = .ok (.iload_n 1, 1) := by decide +kernel
theorem dX11_fault_19 : decode cX11_fault 19 = .ok (.aload_n 0, 1) := by decide +kernel
theorem dX11_fault_20 : decode cX11_fault 20 = .ok (.getfield 23, 3) := by decide +kernel
theorem dX11_fault_23 : decode cX11_fault 23 = .ok (.iload_n 2, 1) := by decide +kernel
theorem dX11_fault_24 : decode cX11_fault 24 = .ok (.iaload, 1) := by decide +kernel
theorem dX11_fault_25 : decode cX11_fault 25 = .ok (.invokevirtual 125, 3) := by decide +kernel
theorem dX11_fault_28 : decode cX11_fault 28 = .ok (.istore_n 1, 1) := by decide +kernel
theorem dX11_fault_29 : decode cX11_fault 29 = .ok (.iload_n 1, 1) := by decide +kernel
theorem dX11_fault_30 : decode cX11_fault 30 = .ok (.ifCond .ge 5, 3) := by decide +kernel
theorem dX11_fault_33 : decode cX11_fault 33 = .ok (.iload_n 2, 1) := by decide +kernel
theorem dX11_fault_34 : decode cX11_fault 34 = .ok (.ireturn, 1) := by decide +kernel
theorem dX11_fault_35 : decode cX11_fault 35 = .ok (.iinc 2 1, 3) := by decide +kernel
theorem dX11_fault_38 : decode cX11_fault 38 = .ok (.goto (-29), 3) := by decide +kernel
theorem dX11_fault_41 : decode cX11_fault 41 = .ok (.aload_n 0, 1) := by decide +kernel
theorem dX11_fault_42 : decode cX11_fault 42 = .ok (.dup, 1) := by decide +kernel
theorem dX11_fault_43 : decode cX11_fault 43 = .ok (.getfield 111, 3) := by decide +kernel
theorem dX11_fault_46 : decode cX11_fault 46 = .ok (.iload_n 1, 1) := by decide +kernel
theorem dX11_fault_47 : decode cX11_fault 47 = .ok (.ifCond .ne 7, 3) := by decide +kernel
theorem dX11_fault_50 : decode cX11_fault 50 = .ok (.iconst 0, 1) := by decide +kernel
theorem dX11_fault_51 : decode cX11_fault 51 = .ok (.goto 4, 3) := by decide +kernel
theorem dX11_fault_54 : decode cX11_fault 54 = .ok (.iconst 1, 1) := by decide +kernel
theorem dX11_fault_55 : decode cX11_fault 55 = .ok (.iadd, 1) := by decide +kernel
theorem dX11_fault_56 : decode cX11_fault 56 = .ok (.putfield 111, 3) := by decide +kernel
theorem dX11_fault_59 : decode cX11_fault 59 = .ok (.aload_n 0, 1) := by decide +kernel
theorem dX11_fault_60 : decode cX11_fault 60 = .ok (.getfield 107, 3) := by decide +kernel
theorem dX11_fault_63 : decode cX11_fault 63 = .ok (.ifCond .le 14, 3) := by decide +kernel
theorem dX11_fault_66 : decode cX11_fault 66 = .ok (.iload_n 1, 1) := by decide +kernel
theorem dX11_fault_67 : decode cX11_fault 67 = .ok (.ifCond .ne 10, 3) := by decide +kernel
theorem dX11_fault_70 : decode cX11_fault 70 = .ok (.aload_n 0, 1) := by decide +kernel
theorem dX11_fault_71 : decode cX11_fault 71 = .ok (.getfield 107, 3) := by decide +kernel
theorem dX11_fault_74 : decode cX11_fault 74 = .ok (.goto 5, 3) := by decide +kernel
theorem dX11_fault_77 : decode cX11_fault 77 = .ok (.bipush (-6), 2) := by decide +kernel
theorem dX11_fault_79 : decode cX11_fault 79 = .ok (.ireturn, 1) := by decide +kernel
theorem dX11_load_0 : decode cX11_load 0 = .ok (.iload_n 1, 1) := by decide +kernel
theorem dX11_load_1 : decode cX11_load 1 = .ok (.invokestatic 128, 3) := by decide +kernel
theorem dX11_load_4 : decode cX11_load 4 = .ok (.ifCond .ne 5, 3) := by decide +kernel
theorem dX11_load_7 : decode cX11_load 7 = .ok (.iconst (-1), 1) := by decide +kernel
theorem dX11_load_8 : decode cX11_load 8 = .ok (.ireturn, 1) := by decide +kernel
theorem dX11_load_9 : decode cX11_load 9 = .ok (.aload_n 0, 1) := by decide +kernel
theorem dX11_load_10 : decode cX11_load 10 = .ok (.invokevirtual 131, 3) := by decide +kernel
theorem dX11_load_13 : decode cX11_load 13 = .ok (.ifCond .lt 6, 3) := by decide +kernel
theorem dX11_load_16 : decode cX11_load 16 = .ok (.bipush (-5), 2) := by decide +kernel
theorem dX11_load_18 : decode cX11_load 18 = .ok (.ireturn, 1) := by decide +kernel
theorem dX11_load_19 : decode cX11_load 19 = .ok (.aload_n 0, 1) := by decide +kernel
theorem dX11_load_20 : decode cX11_load 20 = .ok (.invokevirtual 135, 3) := by decide +kernel
theorem dX11_load_23 : decode cX11_load 23 = .ok (.iconst 0, 1) := by decide +kernel
theorem dX11_load_24 : decode cX11_load 24 = .ok (.istore_n 2, 1) := by decide +kernel
theorem dX11_load_25 : decode cX11_load 25 = .ok (.iload_n 2, 1) := by decide +kernel
theorem dX11_load_26 : decode cX11_load 26 = .ok (.aload_n 0, 1) := by decide +kernel
theorem dX11_load_27 : decode cX11_load 27 = .ok (.getfield 111, 3) := by decide +kernel
theorem dX11_load_30 : decode cX11_load 30 = .ok (.if_icmp .ge 19, 3) := by decide +kernel
theorem dX11_load_33 : decode cX11_load 33 = .ok (.aload_n 0, 1) := by decide +kernel
theorem dX11_load_34 : decode cX11_load 34 = .ok (.aload_n 0, 1) := by decide +kernel
theorem dX11_load_35 : decode cX11_load 35 = .ok (.getfield 26, 3) := by decide +kernel
theorem dX11_load_38 : decode cX11_load 38 = .ok (.iload_n 2, 1) := by decide +kernel
theorem dX11_load_39 : decode cX11_load 39 = .ok (.iaload, 1) := by decide +kernel
theorem dX11_load_40 : decode cX11_load 40 = .ok (.invokevirtual 138, 3) := by decide +kernel
theorem dX11_load_43 : decode cX11_load 43 = .ok (.iinc 2 1, 3) := by decide +kernel
theorem dX11_load_46 : decode cX11_load 46 = .ok (.goto (-21), 3) := by decide +kernel
theorem dX11_load_49 : decode cX11_load 49 = .ok (.aload_n 0, 1) := by decide +kernel
theorem dX11_load_50 : decode cX11_load 50 = .ok (.iconst 0, 1) := by decide +kernel
theorem dX11_load_51 : decode cX11_load 51 = .ok (.putfield 107, 3) := by decide +kernel
theorem dX11_load_54 : decode cX11_load 54 = .ok (.aload_n 0, 1) := by decide +kernel
theorem dX11_load_55 : decode cX11_load 55 = .ok (.iload_n 1, 1) := by decide +kernel
theorem dX11_load_56 : decode cX11_load 56 = .ok (.invokevirtual 142, 3) := by decide +kernel
theorem dX11_load_59 : decode cX11_load 59 = .ok (.ireturn, 1) := by decide +kernel
theorem dX11_generator_0 : decode cX11_generator 0 = .ok (.iload_n 1, 1) := by decide +kernel
theorem dX11_generator_1 : decode cX11_generator 1 = .ok (.invokestatic 128, 3) := by decide +kernel
theorem dX11_generator_4 : decode cX11_generator 4 = .ok (.ifCond .ne 5, 3) := by decide +kernel
theorem dX11_generator_7 : decode cX11_generator 7 = .ok (.iconst (-1), 1) := by decide +kernel
theorem dX11_generator_8 : decode cX11_generator 8 = .ok (.ireturn, 1) := by decide +kernel
theorem dX11_generator_9 : decode cX11_generator 9 = .ok (.iload_n 2, 1) := by decide +kernel
theorem dX11_generator_10 : decode cX11_generator 10 = .ok (.iconst (-1), 1) := by decide +kernel
theorem dX11_generator_11 : decode cX11_generator 11 = .ok (.if_icmp .ne 12, 3) := by decide +kernel
theorem dX11_generator_14 : decode cX11_generator 14 = .ok (.aload_n 0, 1) := by decide +kernel
theorem dX11_generator_15 : decode cX11_generator 15 = .ok (.getfield 13, 3) := by decide +kernel
theorem dX11_generator_18 : decode cX11_generator 18 = .ok (.iload_n 1, 1) := by decide +kernel
theorem dX11_generator_19 : decode cX11_generator 19 = .ok (.iaload, 1) := by decide +kernel
theorem dX11_generator_20 : decode cX11_generator 20 = .ok (.goto 32, 3) := by decide +kernel
theorem dX11_generator_23 : decode cX11_generator 23 = .ok (.iload_n 2, 1) := by decide +kernel
theorem dX11_generator_24 : decode cX11_generator 24 = .ok (.i2l, 1) := by decide +kernel
theorem dX11_generator_25 : decode cX11_generator 25 = .ok (.lconst 0, 1) := by decide +kernel
theorem dX11_generator_26 : decode cX11_generator 26 = .ok (.aload_n 0, 1) := by decide +kernel
theorem dX11_generator_27 : decode cX11_generator 27 = .ok (.getfield 13, 3) := by decide +kernel
theorem dX11_generator_30 : decode cX11_generator 30 = .ok (.iload_n 1, 1) := by decide +kernel
theorem dX11_generator_31 : decode cX11_generator 31 = .ok (.iaload, 1) := by decide +kernel
theorem dX11_generator_32 : decode cX11_generator 32 = .ok (.iconst 1, 1) := by decide +kernel
theorem dX11_generator_33 : decode cX11_generator 33 = .ok (.isub, 1) := by decide +kernel
theorem dX11_generator_34 : decode cX11_generator 34 = .ok (.i2l, 1) := by decide +kernel
theorem dX11_generator_35 : decode cX11_generator 35 = .ok (.invokestatic 64, 3) := by decide +kernel
theorem dX11_generator_38 : decode cX11_generator 38 = .ok (.ifCond .eq 12, 3) := by decide +kernel
theorem dX11_generator_41 : decode cX11_generator 41 = .ok (.aload_n 0, 1) := by decide +kernel
theorem dX11_generator_42 : decode cX11_generator 42 = .ok (.iload_n 1, 1) := by decide +kernel
theorem dX11_generator_43 : decode cX11_generator 43 = .ok (.iload_n 2, 1) := by decide +kernel
theorem dX11_generator_44 : decode cX11_generator 44 = .ok (.invokevirtual 86, 3) := by decide +kernel
theorem dX11_generator_47 : decode cX11_generator 47 = .ok (.goto 5, 3) := by decide +kernel
theorem dX11_generator_50 : decode cX11_generator 50 = .ok (.bipush (-6), 2) := by decide +kernel
theorem dX11_generator_52 : decode cX11_generator 52 = .ok (.ireturn, 1) := by decide +kernel
theorem dX11_has_0 : decode cX11_has 0 = .ok (.iload_n 1, 1) := by decide +kernel
theorem dX11_has_1 : decode cX11_has 1 = .ok (.invokestatic 128, 3) := by decide +kernel
theorem dX11_has_4 : decode cX11_has 4 = .ok (.ifCond .ne 5, 3) := by decide +kernel
theorem dX11_has_7 : decode cX11_has 7 = .ok (.iconst (-1), 1) := by decide +kernel
theorem dX11_has_8 : decode cX11_has 8 = .ok (.ireturn, 1) := by decide +kernel
theorem dX11_has_9 : decode cX11_has 9 = .ok (.iload_n 2, 1) := by decide +kernel
theorem dX11_has_10 : decode cX11_has 10 = .ok (.invokestatic 145, 3) := by decide +kernel
theorem dX11_has_13 : decode cX11_has 13 = .ok (.ifCond .ne 8, 3) := by decide +kernel
theorem dX11_has_16 : decode cX11_has 16 = .ok (.bipush (-2), 2) := by decide +kernel
theorem dX11_has_18 : decode cX11_has 18 = .ok (.goto 17, 3) := by decide +kernel
theorem dX11_has_21 : decode cX11_has 21 = .ok (.aload_n 0, 1) := by decide +kernel
theorem dX11_has_22 : decode cX11_has 22 = .ok (.iload_n 1, 1) := by decide +kernel
theorem dX11_has_23 : decode cX11_has 23 = .ok (.iload_n 2, 1) := by decide +kernel
theorem dX11_has_24 : decode cX11_has 24 = .ok (.invokevirtual 148, 3) := by decide +kernel
theorem dX11_has_27 : decode cX11_has 27 = .ok (.ifCond .eq 7, 3) := by decide +kernel
theorem dX11_has_30 : decode cX11_has 30 = .ok (.iconst 1, 1) := by decide +kernel
theorem dX11_has_31 : decode cX11_has 31 = .ok (.goto 4, 3) := by decide +kernel
theorem dX11_has_34 : decode cX11_has 34 = .ok (.iconst 0, 1) := by decide +kernel
theorem dX11_has_35 : decode cX11_has 35 = .ok (.ireturn, 1) := by decide +kernel
theorem dX11_isQuotient_0 : decode cX11_isQuotient 0 = .ok (.iconst 1, 1) := by decide +kernel
theorem dX11_isQuotient_1 : decode cX11_isQuotient 1 = .ok (.istore 4, 2) := by decide +kernel
theorem dX11_isQuotient_3 : decode cX11_isQuotient 3 = .ok (.iconst 0, 1) := by decide +kernel
theorem dX11_isQuotient_4 : decode cX11_isQuotient 4 = .ok (.istore 5, 2) := by decide +kernel
theorem dX11_isQuotient_6 : decode cX11_isQuotient 6 = .ok (.iload 5, 2) := by decide +kernel
theorem dX11_isQuotient_8 : decode cX11_isQuotient 8 = .ok (.aload_n 0, 1) := by decide +kernel
theorem dX11_isQuotient_9 : decode cX11_isQuotient 9 = .ok (.getfield 13, 3) := by decide +kernel
theorem dX11_isQuotient_12 : decode cX11_isQuotient 12 = .ok (.iload_n 2, 1) := by decide +kernel
theorem dX11_isQuotient_13 : decode cX11_isQuotient 13 = .ok (.iaload, 1) := by decide +kernel
theorem dX11_isQuotient_14 : decode cX11_isQuotient 14 = .ok (.if_icmp .ge 40, 3) := by decide +kernel
theorem dX11_isQuotient_17 : decode cX11_isQuotient 17 = .ok (.iload 4, 2) := by decide +kernel
theorem dX11_isQuotient_19 : decode cX11_isQuotient 19 = .ok (.ifCond .eq 26, 3) := by decide +kernel
theorem dX11_isQuotient_22 : decode cX11_isQuotient 22 = .ok (.aload_n 0, 1) := by decide +kernel
theorem dX11_isQuotient_23 : decode cX11_isQuotient 23 = .ok (.iload_n 1, 1) := by decide +kernel
theorem dX11_isQuotient_24 : decode cX11_isQuotient 24 = .ok (.iload_n 3, 1) := by decide +kernel
theorem dX11_isQuotient_25 : decode cX11_isQuotient 25 = .ok (.aload_n 0, 1) := by decide +kernel
theorem dX11_isQuotient_26 : decode cX11_isQuotient 26 = .ok (.iload_n 2, 1) := by decide +kernel
theorem dX11_isQuotient_27 : decode cX11_isQuotient 27 = .ok (.iload 5, 2) := by decide +kernel
theorem dX11_isQuotient_29 : decode cX11_isQuotient 29 = .ok (.invokevirtual 86, 3) := by decide +kernel
theorem dX11_isQuotient_32 : decode cX11_isQuotient 32 = .ok (.invokestatic 151, 3) := by decide +kernel
theorem dX11_isQuotient_35 : decode cX11_isQuotient 35 = .ok (.invokevirtual 148, 3) := by decide +kernel
theorem dX11_isQuotient_38 : decode cX11_isQuotient 38 = .ok (.ifCond .eq 7, 3) := by decide +kernel
theorem dX11_isQuotient_41 : decode cX11_isQuotient 41 = .ok (.iconst 1, 1) := by decide +kernel
theorem dX11_isQuotient_42 : decode cX11_isQuotient 42 = .ok (.goto 4, 3) := by decide +kernel
theorem dX11_isQuotient_45 : decode cX11_isQuotient 45 = .ok (.iconst 0, 1) := by decide +kernel
theorem dX11_isQuotient_46 : decode cX11_isQuotient 46 = .ok (.istore 4, 2) := by decide +kernel
theorem dX11_isQuotient_48 : decode cX11_isQuotient 48 = .ok (.iinc 5 1, 3) := by decide +kernel
theorem dX11_isQuotient_51 : decode cX11_isQuotient 51 = .ok (.goto (-45), 3) := by decide +kernel
theorem dX11_isQuotient_54 : decode cX11_isQuotient 54 = .ok (.iload 4, 2) := by decide +kernel
theorem dX11_isQuotient_56 : decode cX11_isQuotient 56 = .ok (.ireturn, 1) := by decide +kernel
theorem dX11_isRoot_0 : decode cX11_isRoot 0 = .ok (.iconst 0, 1) := by decide +kernel
theorem dX11_isRoot_1 : decode cX11_isRoot 1 = .ok (.istore_n 3, 1) := by decide +kernel
theorem dX11_isRoot_2 : decode cX11_isRoot 2 = .ok (.iconst 0, 1) := by decide +kernel
theorem dX11_isRoot_3 : decode cX11_isRoot 3 = .ok (.istore 4, 2) := by decide +kernel
theorem dX11_isRoot_5 : decode cX11_isRoot 5 = .ok (.iload 4, 2) := by decide +kernel
theorem dX11_isRoot_7 : decode cX11_isRoot 7 = .ok (.aload_n 0, 1) := by decide +kernel
theorem dX11_isRoot_8 : decode cX11_isRoot 8 = .ok (.getfield 13, 3) := by decide +kernel
theorem dX11_isRoot_11 : decode cX11_isRoot 11 = .ok (.iload_n 1, 1) := by decide +kernel
theorem dX11_isRoot_12 : decode cX11_isRoot 12 = .ok (.iaload, 1) := by decide +kernel
theorem dX11_isRoot_13 : decode cX11_isRoot 13 = .ok (.if_icmp .ge 39, 3) := by decide +kernel
theorem dX11_isRoot_16 : decode cX11_isRoot 16 = .ok (.iload_n 3, 1) := by decide +kernel
theorem dX11_isRoot_17 : decode cX11_isRoot 17 = .ok (.ifCond .ne 23, 3) := by decide +kernel
theorem dX11_isRoot_20 : decode cX11_isRoot 20 = .ok (.aload_n 0, 1) := by decide +kernel
theorem dX11_isRoot_21 : decode cX11_isRoot 21 = .ok (.iload_n 1, 1) := by decide +kernel
theorem dX11_isRoot_22 : decode cX11_isRoot 22 = .ok (.iload 4, 2) := by decide +kernel
theorem dX11_isRoot_24 : decode cX11_isRoot 24 = .ok (.invokevirtual 86, 3) := by decide +kernel
theorem dX11_isRoot_27 : decode cX11_isRoot 27 = .ok (.invokestatic 154, 3) := by decide +kernel
theorem dX11_isRoot_30 : decode cX11_isRoot 30 = .ok (.iload_n 2, 1) := by decide +kernel
theorem dX11_isRoot_31 : decode cX11_isRoot 31 = .ok (.invokestatic 154, 3) := by decide +kernel
theorem dX11_isRoot_34 : decode cX11_isRoot 34 = .ok (.iconst (-1), 1) := by decide +kernel
theorem dX11_isRoot_35 : decode cX11_isRoot 35 = .ok (.ixor, 1) := by decide +kernel
theorem dX11_isRoot_36 : decode cX11_isRoot 36 = .ok (.iand, 1) := by decide +kernel
theorem dX11_isRoot_37 : decode cX11_isRoot 37 = .ok (.ifCond .ne 7, 3) := by decide +kernel
theorem dX11_isRoot_40 : decode cX11_isRoot 40 = .ok (.iconst 1, 1) := by decide +kernel
theorem dX11_isRoot_41 : decode cX11_isRoot 41 = .ok (.goto 4, 3) := by decide +kernel
theorem dX11_isRoot_44 : decode cX11_isRoot 44 = .ok (.iconst 0, 1) := by decide +kernel
theorem dX11_isRoot_45 : decode cX11_isRoot 45 = .ok (.istore_n 3, 1) := by decide +kernel
theorem dX11_isRoot_46 : decode cX11_isRoot 46 = .ok (.iinc 4 1, 3) := by decide +kernel
theorem dX11_isRoot_49 : decode cX11_isRoot 49 = .ok (.goto (-44), 3) := by decide +kernel
theorem dX11_isRoot_52 : decode cX11_isRoot 52 = .ok (.iload_n 3, 1) := by decide +kernel
theorem dX11_isRoot_53 : decode cX11_isRoot 53 = .ok (.ireturn, 1) := by decide +kernel
theorem dX11_isMade_0 : decode cX11_isMade 0 = .ok (.iload_n 1, 1) := by decide +kernel
theorem dX11_isMade_1 : decode cX11_isMade 1 = .ok (.tableswitch 92 0 3 #[31, 57, 92, 83], 31) := by decide +kernel
theorem dX11_isMade_32 : decode cX11_isMade 32 = .ok (.aload_n 0, 1) := by decide +kernel
theorem dX11_isMade_33 : decode cX11_isMade 33 = .ok (.iload_n 2, 1) := by decide +kernel
theorem dX11_isMade_34 : decode cX11_isMade 34 = .ok (.iload 4, 2) := by decide +kernel
theorem dX11_isMade_36 : decode cX11_isMade 36 = .ok (.invokevirtual 148, 3) := by decide +kernel
theorem dX11_isMade_39 : decode cX11_isMade 39 = .ok (.ifCond .ne 13, 3) := by decide +kernel
theorem dX11_isMade_42 : decode cX11_isMade 42 = .ok (.aload_n 0, 1) := by decide +kernel
theorem dX11_isMade_43 : decode cX11_isMade 43 = .ok (.iload_n 3, 1) := by decide +kernel
theorem dX11_isMade_44 : decode cX11_isMade 44 = .ok (.iload 4, 2) := by decide +kernel
theorem dX11_isMade_46 : decode cX11_isMade 46 = .ok (.invokevirtual 148, 3) := by decide +kernel
theorem dX11_isMade_49 : decode cX11_isMade 49 = .ok (.ifCond .eq 7, 3) := by decide +kernel
theorem dX11_isMade_52 : decode cX11_isMade 52 = .ok (.iconst 1, 1) := by decide +kernel
theorem dX11_isMade_53 : decode cX11_isMade 53 = .ok (.goto 4, 3) := by decide +kernel
theorem dX11_isMade_56 : decode cX11_isMade 56 = .ok (.iconst 0, 1) := by decide +kernel
theorem dX11_isMade_57 : decode cX11_isMade 57 = .ok (.ireturn, 1) := by decide +kernel
theorem dX11_isMade_58 : decode cX11_isMade 58 = .ok (.aload_n 0, 1) := by decide +kernel
theorem dX11_isMade_59 : decode cX11_isMade 59 = .ok (.iload_n 2, 1) := by decide +kernel
theorem dX11_isMade_60 : decode cX11_isMade 60 = .ok (.iload 4, 2) := by decide +kernel
theorem dX11_isMade_62 : decode cX11_isMade 62 = .ok (.invokevirtual 148, 3) := by decide +kernel
theorem dX11_isMade_65 : decode cX11_isMade 65 = .ok (.ifCond .eq 17, 3) := by decide +kernel
theorem dX11_isMade_68 : decode cX11_isMade 68 = .ok (.aload_n 0, 1) := by decide +kernel
theorem dX11_isMade_69 : decode cX11_isMade 69 = .ok (.iload_n 3, 1) := by decide +kernel
theorem dX11_isMade_70 : decode cX11_isMade 70 = .ok (.iload 4, 2) := by decide +kernel
theorem dX11_isMade_72 : decode cX11_isMade 72 = .ok (.invokevirtual 148, 3) := by decide +kernel
theorem dX11_isMade_75 : decode cX11_isMade 75 = .ok (.ifCond .eq 7, 3) := by decide +kernel
theorem dX11_isMade_78 : decode cX11_isMade 78 = .ok (.iconst 1, 1) := by decide +kernel
theorem dX11_isMade_79 : decode cX11_isMade 79 = .ok (.goto 4, 3) := by decide +kernel
theorem dX11_isMade_82 : decode cX11_isMade 82 = .ok (.iconst 0, 1) := by decide +kernel
theorem dX11_isMade_83 : decode cX11_isMade 83 = .ok (.ireturn, 1) := by decide +kernel
theorem dX11_isMade_84 : decode cX11_isMade 84 = .ok (.aload_n 0, 1) := by decide +kernel
theorem dX11_isMade_85 : decode cX11_isMade 85 = .ok (.iload_n 2, 1) := by decide +kernel
theorem dX11_isMade_86 : decode cX11_isMade 86 = .ok (.iload_n 3, 1) := by decide +kernel
theorem dX11_isMade_87 : decode cX11_isMade 87 = .ok (.iload 4, 2) := by decide +kernel
theorem dX11_isMade_89 : decode cX11_isMade 89 = .ok (.invokevirtual 157, 3) := by decide +kernel
theorem dX11_isMade_92 : decode cX11_isMade 92 = .ok (.ireturn, 1) := by decide +kernel
theorem dX11_isMade_93 : decode cX11_isMade 93 = .ok (.aload_n 0, 1) := by decide +kernel
theorem dX11_isMade_94 : decode cX11_isMade 94 = .ok (.iload_n 2, 1) := by decide +kernel
theorem dX11_isMade_95 : decode cX11_isMade 95 = .ok (.iload 4, 2) := by decide +kernel
theorem dX11_isMade_97 : decode cX11_isMade 97 = .ok (.invokevirtual 161, 3) := by decide +kernel
theorem dX11_isMade_100 : decode cX11_isMade 100 = .ok (.ireturn, 1) := by decide +kernel
theorem dX11_packed_0 : decode cX11_packed 0 = .ok (.iconst 0, 1) := by decide +kernel
theorem dX11_packed_1 : decode cX11_packed 1 = .ok (.istore_n 2, 1) := by decide +kernel
theorem dX11_packed_2 : decode cX11_packed 2 = .ok (.iconst 0, 1) := by decide +kernel
theorem dX11_packed_3 : decode cX11_packed 3 = .ok (.istore_n 3, 1) := by decide +kernel
theorem dX11_packed_4 : decode cX11_packed 4 = .ok (.iload_n 3, 1) := by decide +kernel
theorem dX11_packed_5 : decode cX11_packed 5 = .ok (.iconst 4, 1) := by decide +kernel
theorem dX11_packed_6 : decode cX11_packed 6 = .ok (.if_icmp .ge 26, 3) := by decide +kernel
theorem dX11_packed_9 : decode cX11_packed 9 = .ok (.bipush 16, 2) := by decide +kernel
theorem dX11_packed_11 : decode cX11_packed 11 = .ok (.iload_n 2, 1) := by decide +kernel
theorem dX11_packed_12 : decode cX11_packed 12 = .ok (.imul, 1) := by decide +kernel
theorem dX11_packed_13 : decode cX11_packed 13 = .ok (.iload_n 0, 1) := by decide +kernel
theorem dX11_packed_14 : decode cX11_packed 14 = .ok (.iload_n 3, 1) := by decide +kernel
theorem dX11_packed_15 : decode cX11_packed 15 = .ok (.invokestatic 76, 3) := by decide +kernel
theorem dX11_packed_18 : decode cX11_packed 18 = .ok (.iadd, 1) := by decide +kernel
theorem dX11_packed_19 : decode cX11_packed 19 = .ok (.iload_n 1, 1) := by decide +kernel
theorem dX11_packed_20 : decode cX11_packed 20 = .ok (.iload_n 3, 1) := by decide +kernel
theorem dX11_packed_21 : decode cX11_packed 21 = .ok (.invokestatic 76, 3) := by decide +kernel
theorem dX11_packed_24 : decode cX11_packed 24 = .ok (.iadd, 1) := by decide +kernel
theorem dX11_packed_25 : decode cX11_packed 25 = .ok (.istore_n 2, 1) := by decide +kernel
theorem dX11_packed_26 : decode cX11_packed 26 = .ok (.iinc 3 1, 3) := by decide +kernel
theorem dX11_packed_29 : decode cX11_packed 29 = .ok (.goto (-25), 3) := by decide +kernel
theorem dX11_packed_32 : decode cX11_packed 32 = .ok (.iload_n 2, 1) := by decide +kernel
theorem dX11_packed_33 : decode cX11_packed 33 = .ok (.ireturn, 1) := by decide +kernel
theorem dX11_isUnder_0 : decode cX11_isUnder 0 = .ok (.iconst 1, 1) := by decide +kernel
theorem dX11_isUnder_1 : decode cX11_isUnder 1 = .ok (.istore_n 2, 1) := by decide +kernel
theorem dX11_isUnder_2 : decode cX11_isUnder 2 = .ok (.iconst 0, 1) := by decide +kernel
theorem dX11_isUnder_3 : decode cX11_isUnder 3 = .ok (.istore_n 3, 1) := by decide +kernel
theorem dX11_isUnder_4 : decode cX11_isUnder 4 = .ok (.iload_n 3, 1) := by decide +kernel
theorem dX11_isUnder_5 : decode cX11_isUnder 5 = .ok (.iconst 4, 1) := by decide +kernel
theorem dX11_isUnder_6 : decode cX11_isUnder 6 = .ok (.if_icmp .ge 38, 3) := by decide +kernel
theorem dX11_isUnder_9 : decode cX11_isUnder 9 = .ok (.iload_n 2, 1) := by decide +kernel
theorem dX11_isUnder_10 : decode cX11_isUnder 10 = .ok (.ifCond .eq 26, 3) := by decide +kernel
theorem dX11_isUnder_13 : decode cX11_isUnder 13 = .ok (.iload_n 0, 1) := by decide +kernel
theorem dX11_isUnder_14 : decode cX11_isUnder 14 = .ok (.iconst 4, 1) := by decide +kernel
theorem dX11_isUnder_15 : decode cX11_isUnder 15 = .ok (.iload_n 3, 1) := by decide +kernel
theorem dX11_isUnder_16 : decode cX11_isUnder 16 = .ok (.imul, 1) := by decide +kernel
theorem dX11_isUnder_17 : decode cX11_isUnder 17 = .ok (.ishr, 1) := by decide +kernel
theorem dX11_isUnder_18 : decode cX11_isUnder 18 = .ok (.bipush 15, 2) := by decide +kernel
theorem dX11_isUnder_20 : decode cX11_isUnder 20 = .ok (.iand, 1) := by decide +kernel
theorem dX11_isUnder_21 : decode cX11_isUnder 21 = .ok (.iload_n 1, 1) := by decide +kernel
theorem dX11_isUnder_22 : decode cX11_isUnder 22 = .ok (.iconst 4, 1) := by decide +kernel
theorem dX11_isUnder_23 : decode cX11_isUnder 23 = .ok (.iload_n 3, 1) := by decide +kernel
theorem dX11_isUnder_24 : decode cX11_isUnder 24 = .ok (.imul, 1) := by decide +kernel
theorem dX11_isUnder_25 : decode cX11_isUnder 25 = .ok (.ishr, 1) := by decide +kernel
theorem dX11_isUnder_26 : decode cX11_isUnder 26 = .ok (.bipush 15, 2) := by decide +kernel
theorem dX11_isUnder_28 : decode cX11_isUnder 28 = .ok (.iand, 1) := by decide +kernel
theorem dX11_isUnder_29 : decode cX11_isUnder 29 = .ok (.if_icmp .gt 7, 3) := by decide +kernel
theorem dX11_isUnder_32 : decode cX11_isUnder 32 = .ok (.iconst 1, 1) := by decide +kernel
theorem dX11_isUnder_33 : decode cX11_isUnder 33 = .ok (.goto 4, 3) := by decide +kernel
theorem dX11_isUnder_36 : decode cX11_isUnder 36 = .ok (.iconst 0, 1) := by decide +kernel
theorem dX11_isUnder_37 : decode cX11_isUnder 37 = .ok (.istore_n 2, 1) := by decide +kernel
theorem dX11_isUnder_38 : decode cX11_isUnder 38 = .ok (.iinc 3 1, 3) := by decide +kernel
theorem dX11_isUnder_41 : decode cX11_isUnder 41 = .ok (.goto (-37), 3) := by decide +kernel
theorem dX11_isUnder_44 : decode cX11_isUnder 44 = .ok (.iload_n 2, 1) := by decide +kernel
theorem dX11_isUnder_45 : decode cX11_isUnder 45 = .ok (.ireturn, 1) := by decide +kernel
theorem dX11_addProduct_0 : decode cX11_addProduct 0 = .ok (.iconst 0, 1) := by decide +kernel
theorem dX11_addProduct_1 : decode cX11_addProduct 1 = .ok (.istore_n 2, 1) := by decide +kernel
theorem dX11_addProduct_2 : decode cX11_addProduct 2 = .ok (.iconst 0, 1) := by decide +kernel
theorem dX11_addProduct_3 : decode cX11_addProduct 3 = .ok (.istore_n 3, 1) := by decide +kernel
theorem dX11_addProduct_4 : decode cX11_addProduct 4 = .ok (.iload_n 3, 1) := by decide +kernel
theorem dX11_addProduct_5 : decode cX11_addProduct 5 = .ok (.aload_n 0, 1) := by decide +kernel
theorem dX11_addProduct_6 : decode cX11_addProduct 6 = .ok (.getfield 164, 3) := by decide +kernel
theorem dX11_addProduct_9 : decode cX11_addProduct 9 = .ok (.if_icmp .ge 23, 3) := by decide +kernel
theorem dX11_addProduct_12 : decode cX11_addProduct 12 = .ok (.aload_n 0, 1) := by decide +kernel
theorem dX11_addProduct_13 : decode cX11_addProduct 13 = .ok (.getfield 29, 3) := by decide +kernel
theorem dX11_addProduct_16 : decode cX11_addProduct 16 = .ok (.iload_n 3, 1) := by decide +kernel
theorem dX11_addProduct_17 : decode cX11_addProduct 17 = .ok (.iaload, 1) := by decide +kernel
theorem dX11_addProduct_18 : decode cX11_addProduct 18 = .ok (.iload_n 1, 1) := by decide +kernel
theorem dX11_addProduct_19 : decode cX11_addProduct 19 = .ok (.invokestatic 167, 3) := by decide +kernel
theorem dX11_addProduct_22 : decode cX11_addProduct 22 = .ok (.ifCond .eq 4, 3) := by decide +kernel
theorem dX11_addProduct_25 : decode cX11_addProduct 25 = .ok (.return_, 1) := by decide +kernel
theorem dX11_addProduct_26 : decode cX11_addProduct 26 = .ok (.iinc 3 1, 3) := by decide +kernel
theorem dX11_addProduct_29 : decode cX11_addProduct 29 = .ok (.goto (-25), 3) := by decide +kernel
theorem dX11_addProduct_32 : decode cX11_addProduct 32 = .ok (.iconst 0, 1) := by decide +kernel
theorem dX11_addProduct_33 : decode cX11_addProduct 33 = .ok (.istore_n 3, 1) := by decide +kernel
theorem dX11_addProduct_34 : decode cX11_addProduct 34 = .ok (.iload_n 3, 1) := by decide +kernel
theorem dX11_addProduct_35 : decode cX11_addProduct 35 = .ok (.aload_n 0, 1) := by decide +kernel
theorem dX11_addProduct_36 : decode cX11_addProduct 36 = .ok (.getfield 164, 3) := by decide +kernel
theorem dX11_addProduct_39 : decode cX11_addProduct 39 = .ok (.if_icmp .ge 42, 3) := by decide +kernel
theorem dX11_addProduct_42 : decode cX11_addProduct 42 = .ok (.aload_n 0, 1) := by decide +kernel
theorem dX11_addProduct_43 : decode cX11_addProduct 43 = .ok (.getfield 29, 3) := by decide +kernel
theorem dX11_addProduct_46 : decode cX11_addProduct 46 = .ok (.iload_n 2, 1) := by decide +kernel
theorem dX11_addProduct_47 : decode cX11_addProduct 47 = .ok (.aload_n 0, 1) := by decide +kernel
theorem dX11_addProduct_48 : decode cX11_addProduct 48 = .ok (.getfield 29, 3) := by decide +kernel
theorem dX11_addProduct_51 : decode cX11_addProduct 51 = .ok (.iload_n 3, 1) := by decide +kernel
theorem dX11_addProduct_52 : decode cX11_addProduct 52 = .ok (.iaload, 1) := by decide +kernel
theorem dX11_addProduct_53 : decode cX11_addProduct 53 = .ok (.iastore, 1) := by decide +kernel
theorem dX11_addProduct_54 : decode cX11_addProduct 54 = .ok (.iload_n 2, 1) := by decide +kernel
theorem dX11_addProduct_55 : decode cX11_addProduct 55 = .ok (.iload_n 1, 1) := by decide +kernel
theorem dX11_addProduct_56 : decode cX11_addProduct 56 = .ok (.aload_n 0, 1) := by decide +kernel
theorem dX11_addProduct_57 : decode cX11_addProduct 57 = .ok (.getfield 29, 3) := by decide +kernel
theorem dX11_addProduct_60 : decode cX11_addProduct 60 = .ok (.iload_n 3, 1) := by decide +kernel
theorem dX11_addProduct_61 : decode cX11_addProduct 61 = .ok (.iaload, 1) := by decide +kernel
theorem dX11_addProduct_62 : decode cX11_addProduct 62 = .ok (.invokestatic 167, 3) := by decide +kernel
theorem dX11_addProduct_65 : decode cX11_addProduct 65 = .ok (.ifCond .eq 7, 3) := by decide +kernel
theorem dX11_addProduct_68 : decode cX11_addProduct 68 = .ok (.iconst 0, 1) := by decide +kernel
theorem dX11_addProduct_69 : decode cX11_addProduct 69 = .ok (.goto 4, 3) := by decide +kernel
theorem dX11_addProduct_72 : decode cX11_addProduct 72 = .ok (.iconst 1, 1) := by decide +kernel
theorem dX11_addProduct_73 : decode cX11_addProduct 73 = .ok (.iadd, 1) := by decide +kernel
theorem dX11_addProduct_74 : decode cX11_addProduct 74 = .ok (.istore_n 2, 1) := by decide +kernel
theorem dX11_addProduct_75 : decode cX11_addProduct 75 = .ok (.iinc 3 1, 3) := by decide +kernel
theorem dX11_addProduct_78 : decode cX11_addProduct 78 = .ok (.goto (-44), 3) := by decide +kernel
theorem dX11_addProduct_81 : decode cX11_addProduct 81 = .ok (.aload_n 0, 1) := by decide +kernel
theorem dX11_addProduct_82 : decode cX11_addProduct 82 = .ok (.getfield 29, 3) := by decide +kernel
theorem dX11_addProduct_85 : decode cX11_addProduct 85 = .ok (.iload_n 2, 1) := by decide +kernel
theorem dX11_addProduct_86 : decode cX11_addProduct 86 = .ok (.iload_n 1, 1) := by decide +kernel
theorem dX11_addProduct_87 : decode cX11_addProduct 87 = .ok (.iastore, 1) := by decide +kernel
theorem dX11_addProduct_88 : decode cX11_addProduct 88 = .ok (.aload_n 0, 1) := by decide +kernel
theorem dX11_addProduct_89 : decode cX11_addProduct 89 = .ok (.iload_n 2, 1) := by decide +kernel
theorem dX11_addProduct_90 : decode cX11_addProduct 90 = .ok (.iconst 1, 1) := by decide +kernel
theorem dX11_addProduct_91 : decode cX11_addProduct 91 = .ok (.iadd, 1) := by decide +kernel
theorem dX11_addProduct_92 : decode cX11_addProduct 92 = .ok (.putfield 164, 3) := by decide +kernel
theorem dX11_addProduct_95 : decode cX11_addProduct 95 = .ok (.return_, 1) := by decide +kernel
theorem dX11_isHigh_0 : decode cX11_isHigh 0 = .ok (.iload_n 0, 1) := by decide +kernel
theorem dX11_isHigh_1 : decode cX11_isHigh 1 = .ok (.bipush 15, 2) := by decide +kernel
theorem dX11_isHigh_3 : decode cX11_isHigh 3 = .ok (.iand, 1) := by decide +kernel
theorem dX11_isHigh_4 : decode cX11_isHigh 4 = .ok (.bipush 6, 2) := by decide +kernel
theorem dX11_isHigh_6 : decode cX11_isHigh 6 = .ok (.if_icmp .gt 35, 3) := by decide +kernel
theorem dX11_isHigh_9 : decode cX11_isHigh 9 = .ok (.iload_n 0, 1) := by decide +kernel
theorem dX11_isHigh_10 : decode cX11_isHigh 10 = .ok (.iconst 4, 1) := by decide +kernel
theorem dX11_isHigh_11 : decode cX11_isHigh 11 = .ok (.ishr, 1) := by decide +kernel
theorem dX11_isHigh_12 : decode cX11_isHigh 12 = .ok (.bipush 15, 2) := by decide +kernel
theorem dX11_isHigh_14 : decode cX11_isHigh 14 = .ok (.iand, 1) := by decide +kernel
theorem dX11_isHigh_15 : decode cX11_isHigh 15 = .ok (.bipush 6, 2) := by decide +kernel
theorem dX11_isHigh_17 : decode cX11_isHigh 17 = .ok (.if_icmp .gt 24, 3) := by decide +kernel
theorem dX11_isHigh_20 : decode cX11_isHigh 20 = .ok (.iload_n 0, 1) := by decide +kernel
theorem dX11_isHigh_21 : decode cX11_isHigh 21 = .ok (.bipush 8, 2) := by decide +kernel
theorem dX11_isHigh_23 : decode cX11_isHigh 23 = .ok (.ishr, 1) := by decide +kernel
theorem dX11_isHigh_24 : decode cX11_isHigh 24 = .ok (.bipush 15, 2) := by decide +kernel
theorem dX11_isHigh_26 : decode cX11_isHigh 26 = .ok (.iand, 1) := by decide +kernel
theorem dX11_isHigh_27 : decode cX11_isHigh 27 = .ok (.bipush 6, 2) := by decide +kernel
theorem dX11_isHigh_29 : decode cX11_isHigh 29 = .ok (.if_icmp .gt 12, 3) := by decide +kernel
theorem dX11_isHigh_32 : decode cX11_isHigh 32 = .ok (.iload_n 0, 1) := by decide +kernel
theorem dX11_isHigh_33 : decode cX11_isHigh 33 = .ok (.bipush 12, 2) := by decide +kernel
theorem dX11_isHigh_35 : decode cX11_isHigh 35 = .ok (.ishr, 1) := by decide +kernel
theorem dX11_isHigh_36 : decode cX11_isHigh 36 = .ok (.bipush 6, 2) := by decide +kernel
theorem dX11_isHigh_38 : decode cX11_isHigh 38 = .ok (.if_icmp .le 7, 3) := by decide +kernel
theorem dX11_isHigh_41 : decode cX11_isHigh 41 = .ok (.iconst 1, 1) := by decide +kernel
theorem dX11_isHigh_42 : decode cX11_isHigh 42 = .ok (.goto 4, 3) := by decide +kernel
theorem dX11_isHigh_45 : decode cX11_isHigh 45 = .ok (.iconst 0, 1) := by decide +kernel
theorem dX11_isHigh_46 : decode cX11_isHigh 46 = .ok (.ireturn, 1) := by decide +kernel
theorem dX11_multiply_0 : decode cX11_multiply 0 = .ok (.aload_n 0, 1) := by decide +kernel
theorem dX11_multiply_1 : decode cX11_multiply 1 = .ok (.iconst 0, 1) := by decide +kernel
theorem dX11_multiply_2 : decode cX11_multiply 2 = .ok (.putfield 164, 3) := by decide +kernel
theorem dX11_multiply_5 : decode cX11_multiply 5 = .ok (.iconst 0, 1) := by decide +kernel
theorem dX11_multiply_6 : decode cX11_multiply 6 = .ok (.istore 4, 2) := by decide +kernel
theorem dX11_multiply_8 : decode cX11_multiply 8 = .ok (.iload 4, 2) := by decide +kernel
theorem dX11_multiply_10 : decode cX11_multiply 10 = .ok (.aload_n 0, 1) := by decide +kernel
theorem dX11_multiply_11 : decode cX11_multiply 11 = .ok (.getfield 13, 3) := by decide +kernel
theorem dX11_multiply_14 : decode cX11_multiply 14 = .ok (.iload_n 1, 1) := by decide +kernel
theorem dX11_multiply_15 : decode cX11_multiply 15 = .ok (.iaload, 1) := by decide +kernel
theorem dX11_multiply_16 : decode cX11_multiply 16 = .ok (.if_icmp .ge 50, 3) := by decide +kernel
theorem dX11_multiply_19 : decode cX11_multiply 19 = .ok (.iconst 0, 1) := by decide +kernel
theorem dX11_multiply_20 : decode cX11_multiply 20 = .ok (.istore 5, 2) := by decide +kernel
theorem dX11_multiply_22 : decode cX11_multiply 22 = .ok (.iload 5, 2) := by decide +kernel
theorem dX11_multiply_24 : decode cX11_multiply 24 = .ok (.aload_n 0, 1) := by decide +kernel
theorem dX11_multiply_25 : decode cX11_multiply 25 = .ok (.getfield 13, 3) := by decide +kernel
theorem dX11_multiply_28 : decode cX11_multiply 28 = .ok (.iload_n 2, 1) := by decide +kernel
theorem dX11_multiply_29 : decode cX11_multiply 29 = .ok (.iaload, 1) := by decide +kernel
theorem dX11_multiply_30 : decode cX11_multiply 30 = .ok (.if_icmp .ge 30, 3) := by decide +kernel
theorem dX11_multiply_33 : decode cX11_multiply 33 = .ok (.aload_n 0, 1) := by decide +kernel
theorem dX11_multiply_34 : decode cX11_multiply 34 = .ok (.aload_n 0, 1) := by decide +kernel
theorem dX11_multiply_35 : decode cX11_multiply 35 = .ok (.iload_n 1, 1) := by decide +kernel
theorem dX11_multiply_36 : decode cX11_multiply 36 = .ok (.iload 4, 2) := by decide +kernel
theorem dX11_multiply_38 : decode cX11_multiply 38 = .ok (.invokevirtual 86, 3) := by decide +kernel
theorem dX11_multiply_41 : decode cX11_multiply 41 = .ok (.aload_n 0, 1) := by decide +kernel
theorem dX11_multiply_42 : decode cX11_multiply 42 = .ok (.iload_n 2, 1) := by decide +kernel
theorem dX11_multiply_43 : decode cX11_multiply 43 = .ok (.iload 5, 2) := by decide +kernel
theorem dX11_multiply_45 : decode cX11_multiply 45 = .ok (.invokevirtual 86, 3) := by decide +kernel
theorem dX11_multiply_48 : decode cX11_multiply 48 = .ok (.invokestatic 170, 3) := by decide +kernel
theorem dX11_multiply_51 : decode cX11_multiply 51 = .ok (.invokevirtual 173, 3) := by decide +kernel
theorem dX11_multiply_54 : decode cX11_multiply 54 = .ok (.iinc 5 1, 3) := by decide +kernel
theorem dX11_multiply_57 : decode cX11_multiply 57 = .ok (.goto (-35), 3) := by decide +kernel
theorem dX11_multiply_60 : decode cX11_multiply 60 = .ok (.iinc 4 1, 3) := by decide +kernel
theorem dX11_multiply_63 : decode cX11_multiply 63 = .ok (.goto (-55), 3) := by decide +kernel
theorem dX11_multiply_66 : decode cX11_multiply 66 = .ok (.aload_n 0, 1) := by decide +kernel
theorem dX11_multiply_67 : decode cX11_multiply 67 = .ok (.invokevirtual 135, 3) := by decide +kernel
theorem dX11_multiply_70 : decode cX11_multiply 70 = .ok (.iconst 0, 1) := by decide +kernel
theorem dX11_multiply_71 : decode cX11_multiply 71 = .ok (.istore 4, 2) := by decide +kernel
theorem dX11_multiply_73 : decode cX11_multiply 73 = .ok (.iload 4, 2) := by decide +kernel
theorem dX11_multiply_75 : decode cX11_multiply 75 = .ok (.aload_n 0, 1) := by decide +kernel
theorem dX11_multiply_76 : decode cX11_multiply 76 = .ok (.getfield 164, 3) := by decide +kernel
theorem dX11_multiply_79 : decode cX11_multiply 79 = .ok (.if_icmp .ge 25, 3) := by decide +kernel
theorem dX11_multiply_82 : decode cX11_multiply 82 = .ok (.aload_n 0, 1) := by decide +kernel
theorem dX11_multiply_83 : decode cX11_multiply 83 = .ok (.getfield 29, 3) := by decide +kernel
theorem dX11_multiply_86 : decode cX11_multiply 86 = .ok (.iload 4, 2) := by decide +kernel
theorem dX11_multiply_88 : decode cX11_multiply 88 = .ok (.iaload, 1) := by decide +kernel
theorem dX11_multiply_89 : decode cX11_multiply 89 = .ok (.invokestatic 176, 3) := by decide +kernel
theorem dX11_multiply_92 : decode cX11_multiply 92 = .ok (.ifCond .eq 6, 3) := by decide +kernel
theorem dX11_multiply_95 : decode cX11_multiply 95 = .ok (.bipush (-3), 2) := by decide +kernel
theorem dX11_multiply_97 : decode cX11_multiply 97 = .ok (.ireturn, 1) := by decide +kernel
theorem dX11_multiply_98 : decode cX11_multiply 98 = .ok (.iinc 4 1, 3) := by decide +kernel
theorem dX11_multiply_101 : decode cX11_multiply 101 = .ok (.goto (-28), 3) := by decide +kernel
theorem dX11_multiply_104 : decode cX11_multiply 104 = .ok (.aload_n 0, 1) := by decide +kernel
theorem dX11_multiply_105 : decode cX11_multiply 105 = .ok (.getfield 164, 3) := by decide +kernel
theorem dX11_multiply_108 : decode cX11_multiply 108 = .ok (.bipush 40, 2) := by decide +kernel
theorem dX11_multiply_110 : decode cX11_multiply 110 = .ok (.if_icmp .le 6, 3) := by decide +kernel
theorem dX11_multiply_113 : decode cX11_multiply 113 = .ok (.bipush (-4), 2) := by decide +kernel
theorem dX11_multiply_115 : decode cX11_multiply 115 = .ok (.ireturn, 1) := by decide +kernel
theorem dX11_multiply_116 : decode cX11_multiply 116 = .ok (.iconst 0, 1) := by decide +kernel
theorem dX11_multiply_117 : decode cX11_multiply 117 = .ok (.istore 4, 2) := by decide +kernel
theorem dX11_multiply_119 : decode cX11_multiply 119 = .ok (.iload 4, 2) := by decide +kernel
theorem dX11_multiply_121 : decode cX11_multiply 121 = .ok (.aload_n 0, 1) := by decide +kernel
theorem dX11_multiply_122 : decode cX11_multiply 122 = .ok (.getfield 164, 3) := by decide +kernel
theorem dX11_multiply_125 : decode cX11_multiply 125 = .ok (.if_icmp .ge 71, 3) := by decide +kernel
theorem dX11_multiply_128 : decode cX11_multiply 128 = .ok (.aload_n 0, 1) := by decide +kernel
theorem dX11_multiply_129 : decode cX11_multiply 129 = .ok (.aload_n 0, 1) := by decide +kernel
theorem dX11_multiply_130 : decode cX11_multiply 130 = .ok (.getfield 29, 3) := by decide +kernel
theorem dX11_multiply_133 : decode cX11_multiply 133 = .ok (.iload 4, 2) := by decide +kernel
theorem dX11_multiply_135 : decode cX11_multiply 135 = .ok (.iaload, 1) := by decide +kernel
theorem dX11_multiply_136 : decode cX11_multiply 136 = .ok (.bipush 12, 2) := by decide +kernel
theorem dX11_multiply_138 : decode cX11_multiply 138 = .ok (.ishr, 1) := by decide +kernel
theorem dX11_multiply_139 : decode cX11_multiply 139 = .ok (.sipush 1000, 3) := by decide +kernel
theorem dX11_multiply_142 : decode cX11_multiply 142 = .ok (.imul, 1) := by decide +kernel
theorem dX11_multiply_143 : decode cX11_multiply 143 = .ok (.aload_n 0, 1) := by decide +kernel
theorem dX11_multiply_144 : decode cX11_multiply 144 = .ok (.getfield 29, 3) := by decide +kernel
theorem dX11_multiply_147 : decode cX11_multiply 147 = .ok (.iload 4, 2) := by decide +kernel
theorem dX11_multiply_149 : decode cX11_multiply 149 = .ok (.iaload, 1) := by decide +kernel
theorem dX11_multiply_150 : decode cX11_multiply 150 = .ok (.bipush 8, 2) := by decide +kernel
theorem dX11_multiply_152 : decode cX11_multiply 152 = .ok (.ishr, 1) := by decide +kernel
theorem dX11_multiply_153 : decode cX11_multiply 153 = .ok (.bipush 15, 2) := by decide +kernel
theorem dX11_multiply_155 : decode cX11_multiply 155 = .ok (.iand, 1) := by decide +kernel
theorem dX11_multiply_156 : decode cX11_multiply 156 = .ok (.bipush 100, 2) := by decide +kernel
theorem dX11_multiply_158 : decode cX11_multiply 158 = .ok (.imul, 1) := by decide +kernel
theorem dX11_multiply_159 : decode cX11_multiply 159 = .ok (.iadd, 1) := by decide +kernel
theorem dX11_multiply_160 : decode cX11_multiply 160 = .ok (.aload_n 0, 1) := by decide +kernel
theorem dX11_multiply_161 : decode cX11_multiply 161 = .ok (.getfield 29, 3) := by decide +kernel
theorem dX11_multiply_164 : decode cX11_multiply 164 = .ok (.iload 4, 2) := by decide +kernel
theorem dX11_multiply_166 : decode cX11_multiply 166 = .ok (.iaload, 1) := by decide +kernel
theorem dX11_multiply_167 : decode cX11_multiply 167 = .ok (.iconst 4, 1) := by decide +kernel
theorem dX11_multiply_168 : decode cX11_multiply 168 = .ok (.ishr, 1) := by decide +kernel
theorem dX11_multiply_169 : decode cX11_multiply 169 = .ok (.bipush 15, 2) := by decide +kernel
theorem dX11_multiply_171 : decode cX11_multiply 171 = .ok (.iand, 1) := by decide +kernel
theorem dX11_multiply_172 : decode cX11_multiply 172 = .ok (.bipush 10, 2) := by decide +kernel
theorem dX11_multiply_174 : decode cX11_multiply 174 = .ok (.imul, 1) := by decide +kernel
theorem dX11_multiply_175 : decode cX11_multiply 175 = .ok (.iadd, 1) := by decide +kernel
theorem dX11_multiply_176 : decode cX11_multiply 176 = .ok (.aload_n 0, 1) := by decide +kernel
theorem dX11_multiply_177 : decode cX11_multiply 177 = .ok (.getfield 29, 3) := by decide +kernel
theorem dX11_multiply_180 : decode cX11_multiply 180 = .ok (.iload 4, 2) := by decide +kernel
theorem dX11_multiply_182 : decode cX11_multiply 182 = .ok (.iaload, 1) := by decide +kernel
theorem dX11_multiply_183 : decode cX11_multiply 183 = .ok (.bipush 15, 2) := by decide +kernel
theorem dX11_multiply_185 : decode cX11_multiply 185 = .ok (.iand, 1) := by decide +kernel
theorem dX11_multiply_186 : decode cX11_multiply 186 = .ok (.iadd, 1) := by decide +kernel
theorem dX11_multiply_187 : decode cX11_multiply 187 = .ok (.invokevirtual 138, 3) := by decide +kernel
theorem dX11_multiply_190 : decode cX11_multiply 190 = .ok (.iinc 4 1, 3) := by decide +kernel
theorem dX11_multiply_193 : decode cX11_multiply 193 = .ok (.goto (-74), 3) := by decide +kernel
theorem dX11_multiply_196 : decode cX11_multiply 196 = .ok (.aload_n 0, 1) := by decide +kernel
theorem dX11_multiply_197 : decode cX11_multiply 197 = .ok (.iload_n 3, 1) := by decide +kernel
theorem dX11_multiply_198 : decode cX11_multiply 198 = .ok (.invokevirtual 142, 3) := by decide +kernel
theorem dX11_multiply_201 : decode cX11_multiply 201 = .ok (.ireturn, 1) := by decide +kernel
theorem dX11_make_0 : decode cX11_make 0 = .ok (.iload_n 2, 1) := by decide +kernel
theorem dX11_make_1 : decode cX11_make 1 = .ok (.invokestatic 128, 3) := by decide +kernel
theorem dX11_make_4 : decode cX11_make 4 = .ok (.ifCond .eq 18, 3) := by decide +kernel
theorem dX11_make_7 : decode cX11_make 7 = .ok (.iload_n 3, 1) := by decide +kernel
theorem dX11_make_8 : decode cX11_make 8 = .ok (.invokestatic 128, 3) := by decide +kernel
theorem dX11_make_11 : decode cX11_make 11 = .ok (.ifCond .eq 11, 3) := by decide +kernel
theorem dX11_make_14 : decode cX11_make 14 = .ok (.iload 4, 2) := by decide +kernel
theorem dX11_make_16 : decode cX11_make 16 = .ok (.invokestatic 128, 3) := by decide +kernel
theorem dX11_make_19 : decode cX11_make 19 = .ok (.ifCond .ne 5, 3) := by decide +kernel
theorem dX11_make_22 : decode cX11_make 22 = .ok (.iconst (-1), 1) := by decide +kernel
theorem dX11_make_23 : decode cX11_make 23 = .ok (.ireturn, 1) := by decide +kernel
theorem dX11_make_24 : decode cX11_make 24 = .ok (.iload_n 1, 1) := by decide +kernel
theorem dX11_make_25 : decode cX11_make 25 = .ok (.i2l, 1) := by decide +kernel
theorem dX11_make_26 : decode cX11_make 26 = .ok (.lconst 0, 1) := by decide +kernel
theorem dX11_make_27 : decode cX11_make 27 = .ok (.ldc2_w 179, 3) := by decide +kernel
theorem dX11_make_30 : decode cX11_make 30 = .ok (.invokestatic 64, 3) := by decide +kernel
theorem dX11_make_33 : decode cX11_make 33 = .ok (.ifCond .ne 6, 3) := by decide +kernel
theorem dX11_make_36 : decode cX11_make 36 = .ok (.bipush (-2), 2) := by decide +kernel
theorem dX11_make_38 : decode cX11_make 38 = .ok (.ireturn, 1) := by decide +kernel
theorem dX11_make_39 : decode cX11_make 39 = .ok (.iload_n 1, 1) := by decide +kernel
theorem dX11_make_40 : decode cX11_make 40 = .ok (.iconst 2, 1) := by decide +kernel
theorem dX11_make_41 : decode cX11_make 41 = .ok (.if_icmp .ne 12, 3) := by decide +kernel
theorem dX11_make_44 : decode cX11_make 44 = .ok (.aload_n 0, 1) := by decide +kernel
theorem dX11_make_45 : decode cX11_make 45 = .ok (.iload_n 2, 1) := by decide +kernel
theorem dX11_make_46 : decode cX11_make 46 = .ok (.iload_n 3, 1) := by decide +kernel
theorem dX11_make_47 : decode cX11_make 47 = .ok (.iload 4, 2) := by decide +kernel
theorem dX11_make_49 : decode cX11_make 49 = .ok (.invokevirtual 181, 3) := by decide +kernel
theorem dX11_make_52 : decode cX11_make 52 = .ok (.ireturn, 1) := by decide +kernel
theorem dX11_make_53 : decode cX11_make 53 = .ok (.iconst 0, 1) := by decide +kernel
theorem dX11_make_54 : decode cX11_make 54 = .ok (.istore 5, 2) := by decide +kernel
theorem dX11_make_56 : decode cX11_make 56 = .ok (.iload 5, 2) := by decide +kernel
theorem dX11_make_58 : decode cX11_make 58 = .ok (.sipush 2401, 3) := by decide +kernel
theorem dX11_make_61 : decode cX11_make 61 = .ok (.if_icmp .ge 28, 3) := by decide +kernel
theorem dX11_make_64 : decode cX11_make 64 = .ok (.aload_n 0, 1) := by decide +kernel
theorem dX11_make_65 : decode cX11_make 65 = .ok (.getfield 19, 3) := by decide +kernel
theorem dX11_make_68 : decode cX11_make 68 = .ok (.iload 5, 2) := by decide +kernel
theorem dX11_make_70 : decode cX11_make 70 = .ok (.aload_n 0, 1) := by decide +kernel
theorem dX11_make_71 : decode cX11_make 71 = .ok (.iload_n 1, 1) := by decide +kernel
theorem dX11_make_72 : decode cX11_make 72 = .ok (.iload_n 2, 1) := by decide +kernel
theorem dX11_make_73 : decode cX11_make 73 = .ok (.iload_n 3, 1) := by decide +kernel
theorem dX11_make_74 : decode cX11_make 74 = .ok (.iload 5, 2) := by decide +kernel
theorem dX11_make_76 : decode cX11_make 76 = .ok (.invokestatic 93, 3) := by decide +kernel
theorem dX11_make_79 : decode cX11_make 79 = .ok (.invokevirtual 185, 3) := by decide +kernel
theorem dX11_make_82 : decode cX11_make 82 = .ok (.bastore, 1) := by decide +kernel
theorem dX11_make_83 : decode cX11_make 83 = .ok (.iinc 5 1, 3) := by decide +kernel
theorem dX11_make_86 : decode cX11_make 86 = .ok (.goto (-30), 3) := by decide +kernel
theorem dX11_make_89 : decode cX11_make 89 = .ok (.aload_n 0, 1) := by decide +kernel
theorem dX11_make_90 : decode cX11_make 90 = .ok (.iload 4, 2) := by decide +kernel
theorem dX11_make_92 : decode cX11_make 92 = .ok (.invokevirtual 142, 3) := by decide +kernel
theorem dX11_make_95 : decode cX11_make 95 = .ok (.ireturn, 1) := by decide +kernel
theorem dX11_isWithin_0 : decode cX11_isWithin 0 = .ok (.iconst 1, 1) := by decide +kernel
theorem dX11_isWithin_1 : decode cX11_isWithin 1 = .ok (.istore_n 3, 1) := by decide +kernel
theorem dX11_isWithin_2 : decode cX11_isWithin 2 = .ok (.iconst 0, 1) := by decide +kernel
theorem dX11_isWithin_3 : decode cX11_isWithin 3 = .ok (.istore 4, 2) := by decide +kernel
theorem dX11_isWithin_5 : decode cX11_isWithin 5 = .ok (.iload 4, 2) := by decide +kernel
theorem dX11_isWithin_7 : decode cX11_isWithin 7 = .ok (.aload_n 0, 1) := by decide +kernel
theorem dX11_isWithin_8 : decode cX11_isWithin 8 = .ok (.getfield 13, 3) := by decide +kernel
theorem dX11_isWithin_11 : decode cX11_isWithin 11 = .ok (.iload_n 1, 1) := by decide +kernel
theorem dX11_isWithin_12 : decode cX11_isWithin 12 = .ok (.iaload, 1) := by decide +kernel
theorem dX11_isWithin_13 : decode cX11_isWithin 13 = .ok (.if_icmp .ge 34, 3) := by decide +kernel
theorem dX11_isWithin_16 : decode cX11_isWithin 16 = .ok (.iload_n 3, 1) := by decide +kernel
theorem dX11_isWithin_17 : decode cX11_isWithin 17 = .ok (.ifCond .eq 22, 3) := by decide +kernel
theorem dX11_isWithin_20 : decode cX11_isWithin 20 = .ok (.aload_n 0, 1) := by decide +kernel
theorem dX11_isWithin_21 : decode cX11_isWithin 21 = .ok (.iload_n 2, 1) := by decide +kernel
theorem dX11_isWithin_22 : decode cX11_isWithin 22 = .ok (.aload_n 0, 1) := by decide +kernel
theorem dX11_isWithin_23 : decode cX11_isWithin 23 = .ok (.iload_n 1, 1) := by decide +kernel
theorem dX11_isWithin_24 : decode cX11_isWithin 24 = .ok (.iload 4, 2) := by decide +kernel
theorem dX11_isWithin_26 : decode cX11_isWithin 26 = .ok (.invokevirtual 86, 3) := by decide +kernel
theorem dX11_isWithin_29 : decode cX11_isWithin 29 = .ok (.invokevirtual 148, 3) := by decide +kernel
theorem dX11_isWithin_32 : decode cX11_isWithin 32 = .ok (.ifCond .eq 7, 3) := by decide +kernel
theorem dX11_isWithin_35 : decode cX11_isWithin 35 = .ok (.iconst 1, 1) := by decide +kernel
theorem dX11_isWithin_36 : decode cX11_isWithin 36 = .ok (.goto 4, 3) := by decide +kernel
theorem dX11_isWithin_39 : decode cX11_isWithin 39 = .ok (.iconst 0, 1) := by decide +kernel
theorem dX11_isWithin_40 : decode cX11_isWithin 40 = .ok (.istore_n 3, 1) := by decide +kernel
theorem dX11_isWithin_41 : decode cX11_isWithin 41 = .ok (.iinc 4 1, 3) := by decide +kernel
theorem dX11_isWithin_44 : decode cX11_isWithin 44 = .ok (.goto (-39), 3) := by decide +kernel
theorem dX11_isWithin_47 : decode cX11_isWithin 47 = .ok (.iload_n 3, 1) := by decide +kernel
theorem dX11_isWithin_48 : decode cX11_isWithin 48 = .ok (.ireturn, 1) := by decide +kernel
theorem dX11_compare_0 : decode cX11_compare 0 = .ok (.iload_n 1, 1) := by decide +kernel
theorem dX11_compare_1 : decode cX11_compare 1 = .ok (.invokestatic 128, 3) := by decide +kernel
theorem dX11_compare_4 : decode cX11_compare 4 = .ok (.ifCond .eq 10, 3) := by decide +kernel
theorem dX11_compare_7 : decode cX11_compare 7 = .ok (.iload_n 2, 1) := by decide +kernel
theorem dX11_compare_8 : decode cX11_compare 8 = .ok (.invokestatic 128, 3) := by decide +kernel
theorem dX11_compare_11 : decode cX11_compare 11 = .ok (.ifCond .ne 5, 3) := by decide +kernel
theorem dX11_compare_14 : decode cX11_compare 14 = .ok (.iconst (-1), 1) := by decide +kernel
theorem dX11_compare_15 : decode cX11_compare 15 = .ok (.ireturn, 1) := by decide +kernel
theorem dX11_compare_16 : decode cX11_compare 16 = .ok (.aload_n 0, 1) := by decide +kernel
theorem dX11_compare_17 : decode cX11_compare 17 = .ok (.iload_n 1, 1) := by decide +kernel
theorem dX11_compare_18 : decode cX11_compare 18 = .ok (.iload_n 2, 1) := by decide +kernel
theorem dX11_compare_19 : decode cX11_compare 19 = .ok (.invokevirtual 189, 3) := by decide +kernel
theorem dX11_compare_22 : decode cX11_compare 22 = .ok (.ifCond .eq 20, 3) := by decide +kernel
theorem dX11_compare_25 : decode cX11_compare 25 = .ok (.aload_n 0, 1) := by decide +kernel
theorem dX11_compare_26 : decode cX11_compare 26 = .ok (.iload_n 2, 1) := by decide +kernel
theorem dX11_compare_27 : decode cX11_compare 27 = .ok (.iload_n 1, 1) := by decide +kernel
theorem dX11_compare_28 : decode cX11_compare 28 = .ok (.invokevirtual 189, 3) := by decide +kernel
theorem dX11_compare_31 : decode cX11_compare 31 = .ok (.ifCond .eq 7, 3) := by decide +kernel
theorem dX11_compare_34 : decode cX11_compare 34 = .ok (.iconst 0, 1) := by decide +kernel
theorem dX11_compare_35 : decode cX11_compare 35 = .ok (.goto 21, 3) := by decide +kernel
theorem dX11_compare_38 : decode cX11_compare 38 = .ok (.iconst 1, 1) := by decide +kernel
theorem dX11_compare_39 : decode cX11_compare 39 = .ok (.goto 17, 3) := by decide +kernel
theorem dX11_compare_42 : decode cX11_compare 42 = .ok (.aload_n 0, 1) := by decide +kernel
theorem dX11_compare_43 : decode cX11_compare 43 = .ok (.iload_n 2, 1) := by decide +kernel
theorem dX11_compare_44 : decode cX11_compare 44 = .ok (.iload_n 1, 1) := by decide +kernel
theorem dX11_compare_45 : decode cX11_compare 45 = .ok (.invokevirtual 189, 3) := by decide +kernel
theorem dX11_compare_48 : decode cX11_compare 48 = .ok (.ifCond .eq 7, 3) := by decide +kernel
theorem dX11_compare_51 : decode cX11_compare 51 = .ok (.iconst 2, 1) := by decide +kernel
theorem dX11_compare_52 : decode cX11_compare 52 = .ok (.goto 4, 3) := by decide +kernel
theorem dX11_compare_55 : decode cX11_compare 55 = .ok (.iconst 3, 1) := by decide +kernel
theorem dX11_compare_56 : decode cX11_compare 56 = .ok (.ireturn, 1) := by decide +kernel
theorem dX11_findStandard_0 : decode cX11_findStandard 0 = .ok (.iconst 0, 1) := by decide +kernel
theorem dX11_findStandard_1 : decode cX11_findStandard 1 = .ok (.istore_n 2, 1) := by decide +kernel
theorem dX11_findStandard_2 : decode cX11_findStandard 2 = .ok (.iload_n 2, 1) := by decide +kernel
theorem dX11_findStandard_3 : decode cX11_findStandard 3 = .ok (.sipush 2401, 3) := by decide +kernel
theorem dX11_findStandard_6 : decode cX11_findStandard 6 = .ok (.if_icmp .ge 32, 3) := by decide +kernel
theorem dX11_findStandard_9 : decode cX11_findStandard 9 = .ok (.aload_n 0, 1) := by decide +kernel
theorem dX11_findStandard_10 : decode cX11_findStandard 10 = .ok (.getfield 32, 3) := by decide +kernel
theorem dX11_findStandard_13 : decode cX11_findStandard 13 = .ok (.iload_n 2, 1) := by decide +kernel
theorem dX11_findStandard_14 : decode cX11_findStandard 14 = .ok (.aload_n 0, 1) := by decide +kernel
theorem dX11_findStandard_15 : decode cX11_findStandard 15 = .ok (.iload_n 1, 1) := by decide +kernel
theorem dX11_findStandard_16 : decode cX11_findStandard 16 = .ok (.iload_n 2, 1) := by decide +kernel
theorem dX11_findStandard_17 : decode cX11_findStandard 17 = .ok (.invokestatic 93, 3) := by decide +kernel
theorem dX11_findStandard_20 : decode cX11_findStandard 20 = .ok (.invokevirtual 148, 3) := by decide +kernel
theorem dX11_findStandard_23 : decode cX11_findStandard 23 = .ok (.ifCond .ne 7, 3) := by decide +kernel
theorem dX11_findStandard_26 : decode cX11_findStandard 26 = .ok (.iconst 1, 1) := by decide +kernel
theorem dX11_findStandard_27 : decode cX11_findStandard 27 = .ok (.goto 4, 3) := by decide +kernel
theorem dX11_findStandard_30 : decode cX11_findStandard 30 = .ok (.iconst 0, 1) := by decide +kernel
theorem dX11_findStandard_31 : decode cX11_findStandard 31 = .ok (.bastore, 1) := by decide +kernel
theorem dX11_findStandard_32 : decode cX11_findStandard 32 = .ok (.iinc 2 1, 3) := by decide +kernel
theorem dX11_findStandard_35 : decode cX11_findStandard 35 = .ok (.goto (-33), 3) := by decide +kernel
theorem dX11_findStandard_38 : decode cX11_findStandard 38 = .ok (.return_, 1) := by decide +kernel
theorem dX11_isHighest_0 : decode cX11_isHighest 0 = .ok (.iload_n 1, 1) := by decide +kernel
theorem dX11_isHighest_1 : decode cX11_isHighest 1 = .ok (.invokestatic 93, 3) := by decide +kernel
theorem dX11_isHighest_4 : decode cX11_isHighest 4 = .ok (.istore_n 2, 1) := by decide +kernel
theorem dX11_isHighest_5 : decode cX11_isHighest 5 = .ok (.aload_n 0, 1) := by decide +kernel
theorem dX11_isHighest_6 : decode cX11_isHighest 6 = .ok (.getfield 32, 3) := by decide +kernel
theorem dX11_isHighest_9 : decode cX11_isHighest 9 = .ok (.iload_n 1, 1) := by decide +kernel
theorem dX11_isHighest_10 : decode cX11_isHighest 10 = .ok (.baload, 1) := by decide +kernel
theorem dX11_isHighest_11 : decode cX11_isHighest 11 = .ok (.istore_n 3, 1) := by decide +kernel
theorem dX11_isHighest_12 : decode cX11_isHighest 12 = .ok (.iconst 0, 1) := by decide +kernel
theorem dX11_isHighest_13 : decode cX11_isHighest 13 = .ok (.istore 4, 2) := by decide +kernel
theorem dX11_isHighest_15 : decode cX11_isHighest 15 = .ok (.iload 4, 2) := by decide +kernel
theorem dX11_isHighest_17 : decode cX11_isHighest 17 = .ok (.iconst 4, 1) := by decide +kernel
theorem dX11_isHighest_18 : decode cX11_isHighest 18 = .ok (.if_icmp .ge 48, 3) := by decide +kernel
theorem dX11_isHighest_21 : decode cX11_isHighest 21 = .ok (.iload_n 3, 1) := by decide +kernel
theorem dX11_isHighest_22 : decode cX11_isHighest 22 = .ok (.ifCond .eq 36, 3) := by decide +kernel
theorem dX11_isHighest_25 : decode cX11_isHighest 25 = .ok (.iload_n 2, 1) := by decide +kernel
theorem dX11_isHighest_26 : decode cX11_isHighest 26 = .ok (.iload 4, 2) := by decide +kernel
theorem dX11_isHighest_28 : decode cX11_isHighest 28 = .ok (.invokestatic 76, 3) := by decide +kernel
theorem dX11_isHighest_31 : decode cX11_isHighest 31 = .ok (.bipush 6, 2) := by decide +kernel
theorem dX11_isHighest_33 : decode cX11_isHighest 33 = .ok (.if_icmp .eq 21, 3) := by decide +kernel
theorem dX11_isHighest_36 : decode cX11_isHighest 36 = .ok (.aload_n 0, 1) := by decide +kernel
theorem dX11_isHighest_37 : decode cX11_isHighest 37 = .ok (.getfield 32, 3) := by decide +kernel
theorem dX11_isHighest_40 : decode cX11_isHighest 40 = .ok (.iload_n 2, 1) := by decide +kernel
theorem dX11_isHighest_41 : decode cX11_isHighest 41 = .ok (.iload 4, 2) := by decide +kernel
theorem dX11_isHighest_43 : decode cX11_isHighest 43 = .ok (.invokestatic 70, 3) := by decide +kernel
theorem dX11_isHighest_46 : decode cX11_isHighest 46 = .ok (.iadd, 1) := by decide +kernel
theorem dX11_isHighest_47 : decode cX11_isHighest 47 = .ok (.invokestatic 96, 3) := by decide +kernel
theorem dX11_isHighest_50 : decode cX11_isHighest 50 = .ok (.baload, 1) := by decide +kernel
theorem dX11_isHighest_51 : decode cX11_isHighest 51 = .ok (.ifCond .ne 7, 3) := by decide +kernel
theorem dX11_isHighest_54 : decode cX11_isHighest 54 = .ok (.iconst 1, 1) := by decide +kernel
theorem dX11_isHighest_55 : decode cX11_isHighest 55 = .ok (.goto 4, 3) := by decide +kernel
theorem dX11_isHighest_58 : decode cX11_isHighest 58 = .ok (.iconst 0, 1) := by decide +kernel
theorem dX11_isHighest_59 : decode cX11_isHighest 59 = .ok (.istore_n 3, 1) := by decide +kernel
theorem dX11_isHighest_60 : decode cX11_isHighest 60 = .ok (.iinc 4 1, 3) := by decide +kernel
theorem dX11_isHighest_63 : decode cX11_isHighest 63 = .ok (.goto (-48), 3) := by decide +kernel
theorem dX11_isHighest_66 : decode cX11_isHighest 66 = .ok (.iload_n 3, 1) := by decide +kernel
theorem dX11_isHighest_67 : decode cX11_isHighest 67 = .ok (.ireturn, 1) := by decide +kernel
theorem dX11_partBy_0 : decode cX11_partBy 0 = .ok (.iconst 0, 1) := by decide +kernel
theorem dX11_partBy_1 : decode cX11_partBy 1 = .ok (.istore_n 1, 1) := by decide +kernel
theorem dX11_partBy_2 : decode cX11_partBy 2 = .ok (.iconst 0, 1) := by decide +kernel
theorem dX11_partBy_3 : decode cX11_partBy 3 = .ok (.istore_n 2, 1) := by decide +kernel
theorem dX11_partBy_4 : decode cX11_partBy 4 = .ok (.iload_n 2, 1) := by decide +kernel
theorem dX11_partBy_5 : decode cX11_partBy 5 = .ok (.iconst 4, 1) := by decide +kernel
theorem dX11_partBy_6 : decode cX11_partBy 6 = .ok (.if_icmp .ge 38, 3) := by decide +kernel
theorem dX11_partBy_9 : decode cX11_partBy 9 = .ok (.iload_n 1, 1) := by decide +kernel
theorem dX11_partBy_10 : decode cX11_partBy 10 = .ok (.iload_n 0, 1) := by decide +kernel
theorem dX11_partBy_11 : decode cX11_partBy 11 = .ok (.iload_n 2, 1) := by decide +kernel
theorem dX11_partBy_12 : decode cX11_partBy 12 = .ok (.invokestatic 76, 3) := by decide +kernel
theorem dX11_partBy_15 : decode cX11_partBy 15 = .ok (.bipush 6, 2) := by decide +kernel
theorem dX11_partBy_17 : decode cX11_partBy 17 = .ok (.if_icmp .ne 7, 3) := by decide +kernel
theorem dX11_partBy_20 : decode cX11_partBy 20 = .ok (.iconst 0, 1) := by decide +kernel
theorem dX11_partBy_21 : decode cX11_partBy 21 = .ok (.goto 15, 3) := by decide +kernel
theorem dX11_partBy_24 : decode cX11_partBy 24 = .ok (.iload_n 2, 1) := by decide +kernel
theorem dX11_partBy_25 : decode cX11_partBy 25 = .ok (.invokestatic 70, 3) := by decide +kernel
theorem dX11_partBy_28 : decode cX11_partBy 28 = .ok (.iload_n 0, 1) := by decide +kernel
theorem dX11_partBy_29 : decode cX11_partBy 29 = .ok (.iload_n 2, 1) := by decide +kernel
theorem dX11_partBy_30 : decode cX11_partBy 30 = .ok (.invokestatic 76, 3) := by decide +kernel
theorem dX11_partBy_33 : decode cX11_partBy 33 = .ok (.iconst 1, 1) := by decide +kernel
theorem dX11_partBy_34 : decode cX11_partBy 34 = .ok (.iadd, 1) := by decide +kernel
theorem dX11_partBy_35 : decode cX11_partBy 35 = .ok (.imul, 1) := by decide +kernel
theorem dX11_partBy_36 : decode cX11_partBy 36 = .ok (.iadd, 1) := by decide +kernel
theorem dX11_partBy_37 : decode cX11_partBy 37 = .ok (.istore_n 1, 1) := by decide +kernel
theorem dX11_partBy_38 : decode cX11_partBy 38 = .ok (.iinc 2 1, 3) := by decide +kernel
theorem dX11_partBy_41 : decode cX11_partBy 41 = .ok (.goto (-37), 3) := by decide +kernel
theorem dX11_partBy_44 : decode cX11_partBy 44 = .ok (.iload_n 1, 1) := by decide +kernel
theorem dX11_partBy_45 : decode cX11_partBy 45 = .ok (.ireturn, 1) := by decide +kernel
theorem dX11_findParts_0 : decode cX11_findParts 0 = .ok (.aload_n 0, 1) := by decide +kernel
theorem dX11_findParts_1 : decode cX11_findParts 1 = .ok (.iload_n 1, 1) := by decide +kernel
theorem dX11_findParts_2 : decode cX11_findParts 2 = .ok (.invokevirtual 192, 3) := by decide +kernel
theorem dX11_findParts_5 : decode cX11_findParts 5 = .ok (.aload_n 0, 1) := by decide +kernel
theorem dX11_findParts_6 : decode cX11_findParts 6 = .ok (.iconst 0, 1) := by decide +kernel
theorem dX11_findParts_7 : decode cX11_findParts 7 = .ok (.putfield 195, 3) := by decide +kernel
theorem dX11_findParts_10 : decode cX11_findParts 10 = .ok (.iconst 0, 1) := by decide +kernel
theorem dX11_findParts_11 : decode cX11_findParts 11 = .ok (.istore_n 2, 1) := by decide +kernel
theorem dX11_findParts_12 : decode cX11_findParts 12 = .ok (.iload_n 2, 1) := by decide +kernel
theorem dX11_findParts_13 : decode cX11_findParts 13 = .ok (.sipush 2401, 3) := by decide +kernel
theorem dX11_findParts_16 : decode cX11_findParts 16 = .ok (.if_icmp .ge 28, 3) := by decide +kernel
theorem dX11_findParts_19 : decode cX11_findParts 19 = .ok (.aload_n 0, 1) := by decide +kernel
theorem dX11_findParts_20 : decode cX11_findParts 20 = .ok (.iload_n 2, 1) := by decide +kernel
theorem dX11_findParts_21 : decode cX11_findParts 21 = .ok (.invokevirtual 198, 3) := by decide +kernel
theorem dX11_findParts_24 : decode cX11_findParts 24 = .ok (.ifCond .eq 14, 3) := by decide +kernel
theorem dX11_findParts_27 : decode cX11_findParts 27 = .ok (.aload_n 0, 1) := by decide +kernel
theorem dX11_findParts_28 : decode cX11_findParts 28 = .ok (.iload_n 2, 1) := by decide +kernel
theorem dX11_findParts_29 : decode cX11_findParts 29 = .ok (.invokestatic 93, 3) := by decide +kernel
theorem dX11_findParts_32 : decode cX11_findParts 32 = .ok (.invokestatic 201, 3) := by decide +kernel
theorem dX11_findParts_35 : decode cX11_findParts 35 = .ok (.invokevirtual 204, 3) := by decide +kernel
theorem dX11_findParts_38 : decode cX11_findParts 38 = .ok (.iinc 2 1, 3) := by decide +kernel
theorem dX11_findParts_41 : decode cX11_findParts 41 = .ok (.goto (-29), 3) := by decide +kernel
theorem dX11_findParts_44 : decode cX11_findParts 44 = .ok (.return_, 1) := by decide +kernel
theorem dX11_layPart_0 : decode cX11_layPart 0 = .ok (.aload_n 0, 1) := by decide +kernel
theorem dX11_layPart_1 : decode cX11_layPart 1 = .ok (.getfield 195, 3) := by decide +kernel
theorem dX11_layPart_4 : decode cX11_layPart 4 = .ok (.istore_n 2, 1) := by decide +kernel
theorem dX11_layPart_5 : decode cX11_layPart 5 = .ok (.iload_n 2, 1) := by decide +kernel
theorem dX11_layPart_6 : decode cX11_layPart 6 = .ok (.ifCond .le 35, 3) := by decide +kernel
theorem dX11_layPart_9 : decode cX11_layPart 9 = .ok (.aload_n 0, 1) := by decide +kernel
theorem dX11_layPart_10 : decode cX11_layPart 10 = .ok (.getfield 35, 3) := by decide +kernel
theorem dX11_layPart_13 : decode cX11_layPart 13 = .ok (.iload_n 2, 1) := by decide +kernel
theorem dX11_layPart_14 : decode cX11_layPart 14 = .ok (.iconst 1, 1) := by decide +kernel
theorem dX11_layPart_15 : decode cX11_layPart 15 = .ok (.isub, 1) := by decide +kernel
theorem dX11_layPart_16 : decode cX11_layPart 16 = .ok (.iaload, 1) := by decide +kernel
theorem dX11_layPart_17 : decode cX11_layPart 17 = .ok (.iload_n 1, 1) := by decide +kernel
theorem dX11_layPart_18 : decode cX11_layPart 18 = .ok (.if_icmp .le 23, 3) := by decide +kernel
theorem dX11_layPart_21 : decode cX11_layPart 21 = .ok (.aload_n 0, 1) := by decide +kernel
theorem dX11_layPart_22 : decode cX11_layPart 22 = .ok (.getfield 35, 3) := by decide +kernel
theorem dX11_layPart_25 : decode cX11_layPart 25 = .ok (.iload_n 2, 1) := by decide +kernel
theorem dX11_layPart_26 : decode cX11_layPart 26 = .ok (.aload_n 0, 1) := by decide +kernel
theorem dX11_layPart_27 : decode cX11_layPart 27 = .ok (.getfield 35, 3) := by decide +kernel
theorem dX11_layPart_30 : decode cX11_layPart 30 = .ok (.iload_n 2, 1) := by decide +kernel
theorem dX11_layPart_31 : decode cX11_layPart 31 = .ok (.iconst 1, 1) := by decide +kernel
theorem dX11_layPart_32 : decode cX11_layPart 32 = .ok (.isub, 1) := by decide +kernel
theorem dX11_layPart_33 : decode cX11_layPart 33 = .ok (.iaload, 1) := by decide +kernel
theorem dX11_layPart_34 : decode cX11_layPart 34 = .ok (.iastore, 1) := by decide +kernel
theorem dX11_layPart_35 : decode cX11_layPart 35 = .ok (.iinc 2 (-1), 3) := by decide +kernel
theorem dX11_layPart_38 : decode cX11_layPart 38 = .ok (.goto (-33), 3) := by decide +kernel
theorem dX11_layPart_41 : decode cX11_layPart 41 = .ok (.aload_n 0, 1) := by decide +kernel
theorem dX11_layPart_42 : decode cX11_layPart 42 = .ok (.getfield 35, 3) := by decide +kernel
theorem dX11_layPart_45 : decode cX11_layPart 45 = .ok (.iload_n 2, 1) := by decide +kernel
theorem dX11_layPart_46 : decode cX11_layPart 46 = .ok (.iload_n 1, 1) := by decide +kernel
theorem dX11_layPart_47 : decode cX11_layPart 47 = .ok (.iastore, 1) := by decide +kernel
theorem dX11_layPart_48 : decode cX11_layPart 48 = .ok (.aload_n 0, 1) := by decide +kernel
theorem dX11_layPart_49 : decode cX11_layPart 49 = .ok (.dup, 1) := by decide +kernel
theorem dX11_layPart_50 : decode cX11_layPart 50 = .ok (.getfield 195, 3) := by decide +kernel
theorem dX11_layPart_53 : decode cX11_layPart 53 = .ok (.iconst 1, 1) := by decide +kernel
theorem dX11_layPart_54 : decode cX11_layPart 54 = .ok (.iadd, 1) := by decide +kernel
theorem dX11_layPart_55 : decode cX11_layPart 55 = .ok (.putfield 195, 3) := by decide +kernel
theorem dX11_layPart_58 : decode cX11_layPart 58 = .ok (.return_, 1) := by decide +kernel
theorem dX11_part_0 : decode cX11_part 0 = .ok (.iload_n 1, 1) := by decide +kernel
theorem dX11_part_1 : decode cX11_part 1 = .ok (.invokestatic 128, 3) := by decide +kernel
theorem dX11_part_4 : decode cX11_part 4 = .ok (.ifCond .ne 5, 3) := by decide +kernel
theorem dX11_part_7 : decode cX11_part 7 = .ok (.iconst (-1), 1) := by decide +kernel
theorem dX11_part_8 : decode cX11_part 8 = .ok (.ireturn, 1) := by decide +kernel
theorem dX11_part_9 : decode cX11_part 9 = .ok (.aload_n 0, 1) := by decide +kernel
theorem dX11_part_10 : decode cX11_part 10 = .ok (.iload_n 1, 1) := by decide +kernel
theorem dX11_part_11 : decode cX11_part 11 = .ok (.invokevirtual 207, 3) := by decide +kernel
theorem dX11_part_14 : decode cX11_part 14 = .ok (.iload_n 2, 1) := by decide +kernel
theorem dX11_part_15 : decode cX11_part 15 = .ok (.iconst (-1), 1) := by decide +kernel
theorem dX11_part_16 : decode cX11_part 16 = .ok (.if_icmp .ne 10, 3) := by decide +kernel
theorem dX11_part_19 : decode cX11_part 19 = .ok (.aload_n 0, 1) := by decide +kernel
theorem dX11_part_20 : decode cX11_part 20 = .ok (.getfield 195, 3) := by decide +kernel
theorem dX11_part_23 : decode cX11_part 23 = .ok (.goto 30, 3) := by decide +kernel
theorem dX11_part_26 : decode cX11_part 26 = .ok (.iload_n 2, 1) := by decide +kernel
theorem dX11_part_27 : decode cX11_part 27 = .ok (.i2l, 1) := by decide +kernel
theorem dX11_part_28 : decode cX11_part 28 = .ok (.lconst 0, 1) := by decide +kernel
theorem dX11_part_29 : decode cX11_part 29 = .ok (.aload_n 0, 1) := by decide +kernel
theorem dX11_part_30 : decode cX11_part 30 = .ok (.getfield 195, 3) := by decide +kernel
theorem dX11_part_33 : decode cX11_part 33 = .ok (.iconst 1, 1) := by decide +kernel
theorem dX11_part_34 : decode cX11_part 34 = .ok (.isub, 1) := by decide +kernel
theorem dX11_part_35 : decode cX11_part 35 = .ok (.i2l, 1) := by decide +kernel
theorem dX11_part_36 : decode cX11_part 36 = .ok (.invokestatic 64, 3) := by decide +kernel
theorem dX11_part_39 : decode cX11_part 39 = .ok (.ifCond .eq 12, 3) := by decide +kernel
theorem dX11_part_42 : decode cX11_part 42 = .ok (.aload_n 0, 1) := by decide +kernel
theorem dX11_part_43 : decode cX11_part 43 = .ok (.getfield 35, 3) := by decide +kernel
theorem dX11_part_46 : decode cX11_part 46 = .ok (.iload_n 2, 1) := by decide +kernel
theorem dX11_part_47 : decode cX11_part 47 = .ok (.iaload, 1) := by decide +kernel
theorem dX11_part_48 : decode cX11_part 48 = .ok (.goto 5, 3) := by decide +kernel
theorem dX11_part_51 : decode cX11_part 51 = .ok (.bipush (-6), 2) := by decide +kernel
theorem dX11_part_53 : decode cX11_part 53 = .ok (.ireturn, 1) := by decide +kernel
theorem dX11_primesOf_0 : decode cX11_primesOf 0 = .ok (.aload_n 0, 1) := by decide +kernel
theorem dX11_primesOf_1 : decode cX11_primesOf 1 = .ok (.iload_n 1, 1) := by decide +kernel
theorem dX11_primesOf_2 : decode cX11_primesOf 2 = .ok (.invokevirtual 207, 3) := by decide +kernel
theorem dX11_primesOf_5 : decode cX11_primesOf 5 = .ok (.iconst 0, 1) := by decide +kernel
theorem dX11_primesOf_6 : decode cX11_primesOf 6 = .ok (.istore_n 2, 1) := by decide +kernel
theorem dX11_primesOf_7 : decode cX11_primesOf 7 = .ok (.iconst 0, 1) := by decide +kernel
theorem dX11_primesOf_8 : decode cX11_primesOf 8 = .ok (.istore_n 3, 1) := by decide +kernel
theorem dX11_primesOf_9 : decode cX11_primesOf 9 = .ok (.iload_n 3, 1) := by decide +kernel
theorem dX11_primesOf_10 : decode cX11_primesOf 10 = .ok (.aload_n 0, 1) := by decide +kernel
theorem dX11_primesOf_11 : decode cX11_primesOf 11 = .ok (.getfield 195, 3) := by decide +kernel
theorem dX11_primesOf_14 : decode cX11_primesOf 14 = .ok (.if_icmp .ge 23, 3) := by decide +kernel
theorem dX11_primesOf_17 : decode cX11_primesOf 17 = .ok (.iload_n 2, 1) := by decide +kernel
theorem dX11_primesOf_18 : decode cX11_primesOf 18 = .ok (.iconst 1, 1) := by decide +kernel
theorem dX11_primesOf_19 : decode cX11_primesOf 19 = .ok (.aload_n 0, 1) := by decide +kernel
theorem dX11_primesOf_20 : decode cX11_primesOf 20 = .ok (.getfield 35, 3) := by decide +kernel
theorem dX11_primesOf_23 : decode cX11_primesOf 23 = .ok (.iload_n 3, 1) := by decide +kernel
theorem dX11_primesOf_24 : decode cX11_primesOf 24 = .ok (.iaload, 1) := by decide +kernel
theorem dX11_primesOf_25 : decode cX11_primesOf 25 = .ok (.invokestatic 154, 3) := by decide +kernel
theorem dX11_primesOf_28 : decode cX11_primesOf 28 = .ok (.ishl, 1) := by decide +kernel
theorem dX11_primesOf_29 : decode cX11_primesOf 29 = .ok (.ior, 1) := by decide +kernel
theorem dX11_primesOf_30 : decode cX11_primesOf 30 = .ok (.istore_n 2, 1) := by decide +kernel
theorem dX11_primesOf_31 : decode cX11_primesOf 31 = .ok (.iinc 3 1, 3) := by decide +kernel
theorem dX11_primesOf_34 : decode cX11_primesOf 34 = .ok (.goto (-25), 3) := by decide +kernel
theorem dX11_primesOf_37 : decode cX11_primesOf 37 = .ok (.iload_n 2, 1) := by decide +kernel
theorem dX11_primesOf_38 : decode cX11_primesOf 38 = .ok (.ireturn, 1) := by decide +kernel
theorem dX11_prime_0 : decode cX11_prime 0 = .ok (.iload_n 1, 1) := by decide +kernel
theorem dX11_prime_1 : decode cX11_prime 1 = .ok (.invokestatic 128, 3) := by decide +kernel
theorem dX11_prime_4 : decode cX11_prime 4 = .ok (.ifCond .ne 5, 3) := by decide +kernel
theorem dX11_prime_7 : decode cX11_prime 7 = .ok (.iconst (-1), 1) := by decide +kernel
theorem dX11_prime_8 : decode cX11_prime 8 = .ok (.ireturn, 1) := by decide +kernel
theorem dX11_prime_9 : decode cX11_prime 9 = .ok (.aload_n 0, 1) := by decide +kernel
theorem dX11_prime_10 : decode cX11_prime 10 = .ok (.iload_n 1, 1) := by decide +kernel
theorem dX11_prime_11 : decode cX11_prime 11 = .ok (.invokevirtual 210, 3) := by decide +kernel
theorem dX11_prime_14 : decode cX11_prime 14 = .ok (.istore_n 3, 1) := by decide +kernel
theorem dX11_prime_15 : decode cX11_prime 15 = .ok (.iconst 0, 1) := by decide +kernel
theorem dX11_prime_16 : decode cX11_prime 16 = .ok (.istore 4, 2) := by decide +kernel
theorem dX11_prime_18 : decode cX11_prime 18 = .ok (.iconst 0, 1) := by decide +kernel
theorem dX11_prime_19 : decode cX11_prime 19 = .ok (.istore 5, 2) := by decide +kernel
theorem dX11_prime_21 : decode cX11_prime 21 = .ok (.iload 5, 2) := by decide +kernel
theorem dX11_prime_23 : decode cX11_prime 23 = .ok (.bipush 16, 2) := by decide +kernel
theorem dX11_prime_25 : decode cX11_prime 25 = .ok (.if_icmp .ge 31, 3) := by decide +kernel
theorem dX11_prime_28 : decode cX11_prime 28 = .ok (.iload_n 3, 1) := by decide +kernel
theorem dX11_prime_29 : decode cX11_prime 29 = .ok (.iload 5, 2) := by decide +kernel
theorem dX11_prime_31 : decode cX11_prime 31 = .ok (.ishr, 1) := by decide +kernel
theorem dX11_prime_32 : decode cX11_prime 32 = .ok (.iconst 1, 1) := by decide +kernel
theorem dX11_prime_33 : decode cX11_prime 33 = .ok (.iand, 1) := by decide +kernel
theorem dX11_prime_34 : decode cX11_prime 34 = .ok (.iconst 1, 1) := by decide +kernel
theorem dX11_prime_35 : decode cX11_prime 35 = .ok (.if_icmp .ne 15, 3) := by decide +kernel
theorem dX11_prime_38 : decode cX11_prime 38 = .ok (.iload 4, 2) := by decide +kernel
theorem dX11_prime_40 : decode cX11_prime 40 = .ok (.iload_n 2, 1) := by decide +kernel
theorem dX11_prime_41 : decode cX11_prime 41 = .ok (.if_icmp .ne 6, 3) := by decide +kernel
theorem dX11_prime_44 : decode cX11_prime 44 = .ok (.iload 5, 2) := by decide +kernel
theorem dX11_prime_46 : decode cX11_prime 46 = .ok (.ireturn, 1) := by decide +kernel
theorem dX11_prime_47 : decode cX11_prime 47 = .ok (.iinc 4 1, 3) := by decide +kernel
theorem dX11_prime_50 : decode cX11_prime 50 = .ok (.iinc 5 1, 3) := by decide +kernel
theorem dX11_prime_53 : decode cX11_prime 53 = .ok (.goto (-32), 3) := by decide +kernel
theorem dX11_prime_56 : decode cX11_prime 56 = .ok (.iload_n 2, 1) := by decide +kernel
theorem dX11_prime_57 : decode cX11_prime 57 = .ok (.iconst (-1), 1) := by decide +kernel
theorem dX11_prime_58 : decode cX11_prime 58 = .ok (.if_icmp .ne 8, 3) := by decide +kernel
theorem dX11_prime_61 : decode cX11_prime 61 = .ok (.iload 4, 2) := by decide +kernel
theorem dX11_prime_63 : decode cX11_prime 63 = .ok (.goto 5, 3) := by decide +kernel
theorem dX11_prime_66 : decode cX11_prime 66 = .ok (.bipush (-6), 2) := by decide +kernel
theorem dX11_prime_68 : decode cX11_prime 68 = .ok (.ireturn, 1) := by decide +kernel
theorem dX11_isInPart_0 : decode cX11_isInPart 0 = .ok (.iconst 0, 1) := by decide +kernel
theorem dX11_isInPart_1 : decode cX11_isInPart 1 = .ok (.istore_n 2, 1) := by decide +kernel
theorem dX11_isInPart_2 : decode cX11_isInPart 2 = .ok (.iconst 0, 1) := by decide +kernel
theorem dX11_isInPart_3 : decode cX11_isInPart 3 = .ok (.istore_n 3, 1) := by decide +kernel
theorem dX11_isInPart_4 : decode cX11_isInPart 4 = .ok (.iload_n 3, 1) := by decide +kernel
theorem dX11_isInPart_5 : decode cX11_isInPart 5 = .ok (.iconst 4, 1) := by decide +kernel
theorem dX11_isInPart_6 : decode cX11_isInPart 6 = .ok (.if_icmp .ge 40, 3) := by decide +kernel
theorem dX11_isInPart_9 : decode cX11_isInPart 9 = .ok (.iload_n 2, 1) := by decide +kernel
theorem dX11_isInPart_10 : decode cX11_isInPart 10 = .ok (.ifCond .ne 24, 3) := by decide +kernel
theorem dX11_isInPart_13 : decode cX11_isInPart 13 = .ok (.iload_n 0, 1) := by decide +kernel
theorem dX11_isInPart_14 : decode cX11_isInPart 14 = .ok (.iload_n 3, 1) := by decide +kernel
theorem dX11_isInPart_15 : decode cX11_isInPart 15 = .ok (.invokestatic 76, 3) := by decide +kernel
theorem dX11_isInPart_18 : decode cX11_isInPart 18 = .ok (.ifCond .le 20, 3) := by decide +kernel
theorem dX11_isInPart_21 : decode cX11_isInPart 21 = .ok (.iload_n 1, 1) := by decide +kernel
theorem dX11_isInPart_22 : decode cX11_isInPart 22 = .ok (.iload_n 3, 1) := by decide +kernel
theorem dX11_isInPart_23 : decode cX11_isInPart 23 = .ok (.invokestatic 76, 3) := by decide +kernel
theorem dX11_isInPart_26 : decode cX11_isInPart 26 = .ok (.iload_n 0, 1) := by decide +kernel
theorem dX11_isInPart_27 : decode cX11_isInPart 27 = .ok (.iload_n 3, 1) := by decide +kernel
theorem dX11_isInPart_28 : decode cX11_isInPart 28 = .ok (.invokestatic 76, 3) := by decide +kernel
theorem dX11_isInPart_31 : decode cX11_isInPart 31 = .ok (.if_icmp .lt 7, 3) := by decide +kernel
theorem dX11_isInPart_34 : decode cX11_isInPart 34 = .ok (.iconst 1, 1) := by decide +kernel
theorem dX11_isInPart_35 : decode cX11_isInPart 35 = .ok (.goto 4, 3) := by decide +kernel
theorem dX11_isInPart_38 : decode cX11_isInPart 38 = .ok (.iconst 0, 1) := by decide +kernel
theorem dX11_isInPart_39 : decode cX11_isInPart 39 = .ok (.istore_n 2, 1) := by decide +kernel
theorem dX11_isInPart_40 : decode cX11_isInPart 40 = .ok (.iinc 3 1, 3) := by decide +kernel
theorem dX11_isInPart_43 : decode cX11_isInPart 43 = .ok (.goto (-39), 3) := by decide +kernel
theorem dX11_isInPart_46 : decode cX11_isInPart 46 = .ok (.iload_n 2, 1) := by decide +kernel
theorem dX11_isInPart_47 : decode cX11_isInPart 47 = .ok (.ireturn, 1) := by decide +kernel
theorem dX11_primary_0 : decode cX11_primary 0 = .ok (.iload_n 1, 1) := by decide +kernel
theorem dX11_primary_1 : decode cX11_primary 1 = .ok (.invokestatic 128, 3) := by decide +kernel
theorem dX11_primary_4 : decode cX11_primary 4 = .ok (.ifCond .eq 10, 3) := by decide +kernel
theorem dX11_primary_7 : decode cX11_primary 7 = .ok (.iload_n 3, 1) := by decide +kernel
theorem dX11_primary_8 : decode cX11_primary 8 = .ok (.invokestatic 128, 3) := by decide +kernel
theorem dX11_primary_11 : decode cX11_primary 11 = .ok (.ifCond .ne 5, 3) := by decide +kernel
theorem dX11_primary_14 : decode cX11_primary 14 = .ok (.iconst (-1), 1) := by decide +kernel
theorem dX11_primary_15 : decode cX11_primary 15 = .ok (.ireturn, 1) := by decide +kernel
theorem dX11_primary_16 : decode cX11_primary 16 = .ok (.iload_n 2, 1) := by decide +kernel
theorem dX11_primary_17 : decode cX11_primary 17 = .ok (.i2l, 1) := by decide +kernel
theorem dX11_primary_18 : decode cX11_primary 18 = .ok (.lconst 0, 1) := by decide +kernel
theorem dX11_primary_19 : decode cX11_primary 19 = .ok (.ldc2_w 213, 3) := by decide +kernel
theorem dX11_primary_22 : decode cX11_primary 22 = .ok (.invokestatic 64, 3) := by decide +kernel
theorem dX11_primary_25 : decode cX11_primary 25 = .ok (.ifCond .eq 15, 3) := by decide +kernel
theorem dX11_primary_28 : decode cX11_primary 28 = .ok (.aload_n 0, 1) := by decide +kernel
theorem dX11_primary_29 : decode cX11_primary 29 = .ok (.iload_n 1, 1) := by decide +kernel
theorem dX11_primary_30 : decode cX11_primary 30 = .ok (.invokevirtual 210, 3) := by decide +kernel
theorem dX11_primary_33 : decode cX11_primary 33 = .ok (.iload_n 2, 1) := by decide +kernel
theorem dX11_primary_34 : decode cX11_primary 34 = .ok (.ishr, 1) := by decide +kernel
theorem dX11_primary_35 : decode cX11_primary 35 = .ok (.iconst 1, 1) := by decide +kernel
theorem dX11_primary_36 : decode cX11_primary 36 = .ok (.iand, 1) := by decide +kernel
theorem dX11_primary_37 : decode cX11_primary 37 = .ok (.ifCond .ne 6, 3) := by decide +kernel
theorem dX11_primary_40 : decode cX11_primary 40 = .ok (.bipush (-3), 2) := by decide +kernel
theorem dX11_primary_42 : decode cX11_primary 42 = .ok (.ireturn, 1) := by decide +kernel
theorem dX11_primary_43 : decode cX11_primary 43 = .ok (.iconst 0, 1) := by decide +kernel
theorem dX11_primary_44 : decode cX11_primary 44 = .ok (.istore 4, 2) := by decide +kernel
theorem dX11_primary_46 : decode cX11_primary 46 = .ok (.iload 4, 2) := by decide +kernel
theorem dX11_primary_48 : decode cX11_primary 48 = .ok (.sipush 2401, 3) := by decide +kernel
theorem dX11_primary_51 : decode cX11_primary 51 = .ok (.if_icmp .ge 89, 3) := by decide +kernel
theorem dX11_primary_54 : decode cX11_primary 54 = .ok (.aload_n 0, 1) := by decide +kernel
theorem dX11_primary_55 : decode cX11_primary 55 = .ok (.getfield 19, 3) := by decide +kernel
theorem dX11_primary_58 : decode cX11_primary 58 = .ok (.iload 4, 2) := by decide +kernel
theorem dX11_primary_60 : decode cX11_primary 60 = .ok (.iconst 1, 1) := by decide +kernel
theorem dX11_primary_61 : decode cX11_primary 61 = .ok (.bastore, 1) := by decide +kernel
theorem dX11_primary_62 : decode cX11_primary 62 = .ok (.iconst 0, 1) := by decide +kernel
theorem dX11_primary_63 : decode cX11_primary 63 = .ok (.istore 5, 2) := by decide +kernel
theorem dX11_primary_65 : decode cX11_primary 65 = .ok (.iload 5, 2) := by decide +kernel
theorem dX11_primary_67 : decode cX11_primary 67 = .ok (.aload_n 0, 1) := by decide +kernel
theorem dX11_primary_68 : decode cX11_primary 68 = .ok (.getfield 195, 3) := by decide +kernel
theorem dX11_primary_71 : decode cX11_primary 71 = .ok (.if_icmp .ge 63, 3) := by decide +kernel
theorem dX11_primary_74 : decode cX11_primary 74 = .ok (.aload_n 0, 1) := by decide +kernel
theorem dX11_primary_75 : decode cX11_primary 75 = .ok (.getfield 19, 3) := by decide +kernel
theorem dX11_primary_78 : decode cX11_primary 78 = .ok (.iload 4, 2) := by decide +kernel
theorem dX11_primary_80 : decode cX11_primary 80 = .ok (.aload_n 0, 1) := by decide +kernel
theorem dX11_primary_81 : decode cX11_primary 81 = .ok (.getfield 19, 3) := by decide +kernel
theorem dX11_primary_84 : decode cX11_primary 84 = .ok (.iload 4, 2) := by decide +kernel
theorem dX11_primary_86 : decode cX11_primary 86 = .ok (.baload, 1) := by decide +kernel
theorem dX11_primary_87 : decode cX11_primary 87 = .ok (.ifCond .eq 39, 3) := by decide +kernel
theorem dX11_primary_90 : decode cX11_primary 90 = .ok (.aload_n 0, 1) := by decide +kernel
theorem dX11_primary_91 : decode cX11_primary 91 = .ok (.getfield 35, 3) := by decide +kernel
theorem dX11_primary_94 : decode cX11_primary 94 = .ok (.iload 5, 2) := by decide +kernel
theorem dX11_primary_96 : decode cX11_primary 96 = .ok (.iaload, 1) := by decide +kernel
theorem dX11_primary_97 : decode cX11_primary 97 = .ok (.invokestatic 154, 3) := by decide +kernel
theorem dX11_primary_100 : decode cX11_primary 100 = .ok (.iload_n 2, 1) := by decide +kernel
theorem dX11_primary_101 : decode cX11_primary 101 = .ok (.if_icmp .ne 21, 3) := by decide +kernel
theorem dX11_primary_104 : decode cX11_primary 104 = .ok (.aload_n 0, 1) := by decide +kernel
theorem dX11_primary_105 : decode cX11_primary 105 = .ok (.getfield 35, 3) := by decide +kernel
theorem dX11_primary_108 : decode cX11_primary 108 = .ok (.iload 5, 2) := by decide +kernel
theorem dX11_primary_110 : decode cX11_primary 110 = .ok (.iaload, 1) := by decide +kernel
theorem dX11_primary_111 : decode cX11_primary 111 = .ok (.iload 4, 2) := by decide +kernel
theorem dX11_primary_113 : decode cX11_primary 113 = .ok (.invokestatic 93, 3) := by decide +kernel
theorem dX11_primary_116 : decode cX11_primary 116 = .ok (.invokestatic 215, 3) := by decide +kernel
theorem dX11_primary_119 : decode cX11_primary 119 = .ok (.ifCond .eq 7, 3) := by decide +kernel
theorem dX11_primary_122 : decode cX11_primary 122 = .ok (.iconst 1, 1) := by decide +kernel
theorem dX11_primary_123 : decode cX11_primary 123 = .ok (.goto 4, 3) := by decide +kernel
theorem dX11_primary_126 : decode cX11_primary 126 = .ok (.iconst 0, 1) := by decide +kernel
theorem dX11_primary_127 : decode cX11_primary 127 = .ok (.bastore, 1) := by decide +kernel
theorem dX11_primary_128 : decode cX11_primary 128 = .ok (.iinc 5 1, 3) := by decide +kernel
theorem dX11_primary_131 : decode cX11_primary 131 = .ok (.goto (-66), 3) := by decide +kernel
theorem dX11_primary_134 : decode cX11_primary 134 = .ok (.iinc 4 1, 3) := by decide +kernel
theorem dX11_primary_137 : decode cX11_primary 137 = .ok (.goto (-91), 3) := by decide +kernel
theorem dX11_primary_140 : decode cX11_primary 140 = .ok (.aload_n 0, 1) := by decide +kernel
theorem dX11_primary_141 : decode cX11_primary 141 = .ok (.iload_n 3, 1) := by decide +kernel
theorem dX11_primary_142 : decode cX11_primary 142 = .ok (.invokevirtual 142, 3) := by decide +kernel
theorem dX11_primary_145 : decode cX11_primary 145 = .ok (.ireturn, 1) := by decide +kernel
theorem dX11_dualBy_0 : decode cX11_dualBy 0 = .ok (.iconst 0, 1) := by decide +kernel
theorem dX11_dualBy_1 : decode cX11_dualBy 1 = .ok (.istore_n 2, 1) := by decide +kernel
theorem dX11_dualBy_2 : decode cX11_dualBy 2 = .ok (.iconst 0, 1) := by decide +kernel
theorem dX11_dualBy_3 : decode cX11_dualBy 3 = .ok (.istore_n 3, 1) := by decide +kernel
theorem dX11_dualBy_4 : decode cX11_dualBy 4 = .ok (.iload_n 3, 1) := by decide +kernel
theorem dX11_dualBy_5 : decode cX11_dualBy 5 = .ok (.iconst 4, 1) := by decide +kernel
theorem dX11_dualBy_6 : decode cX11_dualBy 6 = .ok (.if_icmp .ge 42, 3) := by decide +kernel
theorem dX11_dualBy_9 : decode cX11_dualBy 9 = .ok (.iload_n 2, 1) := by decide +kernel
theorem dX11_dualBy_10 : decode cX11_dualBy 10 = .ok (.iload_n 0, 1) := by decide +kernel
theorem dX11_dualBy_11 : decode cX11_dualBy 11 = .ok (.iload_n 3, 1) := by decide +kernel
theorem dX11_dualBy_12 : decode cX11_dualBy 12 = .ok (.invokestatic 76, 3) := by decide +kernel
theorem dX11_dualBy_15 : decode cX11_dualBy 15 = .ok (.ifCond .ne 7, 3) := by decide +kernel
theorem dX11_dualBy_18 : decode cX11_dualBy 18 = .ok (.iconst 0, 1) := by decide +kernel
theorem dX11_dualBy_19 : decode cX11_dualBy 19 = .ok (.goto 21, 3) := by decide +kernel
theorem dX11_dualBy_22 : decode cX11_dualBy 22 = .ok (.iload_n 3, 1) := by decide +kernel
theorem dX11_dualBy_23 : decode cX11_dualBy 23 = .ok (.invokestatic 70, 3) := by decide +kernel
theorem dX11_dualBy_26 : decode cX11_dualBy 26 = .ok (.iload_n 1, 1) := by decide +kernel
theorem dX11_dualBy_27 : decode cX11_dualBy 27 = .ok (.iload_n 3, 1) := by decide +kernel
theorem dX11_dualBy_28 : decode cX11_dualBy 28 = .ok (.invokestatic 76, 3) := by decide +kernel
theorem dX11_dualBy_31 : decode cX11_dualBy 31 = .ok (.iconst 1, 1) := by decide +kernel
theorem dX11_dualBy_32 : decode cX11_dualBy 32 = .ok (.iadd, 1) := by decide +kernel
theorem dX11_dualBy_33 : decode cX11_dualBy 33 = .ok (.iload_n 0, 1) := by decide +kernel
theorem dX11_dualBy_34 : decode cX11_dualBy 34 = .ok (.iload_n 3, 1) := by decide +kernel
theorem dX11_dualBy_35 : decode cX11_dualBy 35 = .ok (.invokestatic 76, 3) := by decide +kernel
theorem dX11_dualBy_38 : decode cX11_dualBy 38 = .ok (.isub, 1) := by decide +kernel
theorem dX11_dualBy_39 : decode cX11_dualBy 39 = .ok (.imul, 1) := by decide +kernel
theorem dX11_dualBy_40 : decode cX11_dualBy 40 = .ok (.iadd, 1) := by decide +kernel
theorem dX11_dualBy_41 : decode cX11_dualBy 41 = .ok (.istore_n 2, 1) := by decide +kernel
theorem dX11_dualBy_42 : decode cX11_dualBy 42 = .ok (.iinc 3 1, 3) := by decide +kernel
theorem dX11_dualBy_45 : decode cX11_dualBy 45 = .ok (.goto (-41), 3) := by decide +kernel
theorem dX11_dualBy_48 : decode cX11_dualBy 48 = .ok (.iload_n 2, 1) := by decide +kernel
theorem dX11_dualBy_49 : decode cX11_dualBy 49 = .ok (.ireturn, 1) := by decide +kernel
theorem dX11_dual_0 : decode cX11_dual 0 = .ok (.iload_n 1, 1) := by decide +kernel
theorem dX11_dual_1 : decode cX11_dual 1 = .ok (.invokestatic 128, 3) := by decide +kernel
theorem dX11_dual_4 : decode cX11_dual 4 = .ok (.ifCond .eq 10, 3) := by decide +kernel
theorem dX11_dual_7 : decode cX11_dual 7 = .ok (.iload_n 3, 1) := by decide +kernel
theorem dX11_dual_8 : decode cX11_dual 8 = .ok (.invokestatic 128, 3) := by decide +kernel
theorem dX11_dual_11 : decode cX11_dual 11 = .ok (.ifCond .ne 5, 3) := by decide +kernel
theorem dX11_dual_14 : decode cX11_dual 14 = .ok (.iconst (-1), 1) := by decide +kernel
theorem dX11_dual_15 : decode cX11_dual 15 = .ok (.ireturn, 1) := by decide +kernel
theorem dX11_dual_16 : decode cX11_dual 16 = .ok (.iload_n 2, 1) := by decide +kernel
theorem dX11_dual_17 : decode cX11_dual 17 = .ok (.invokestatic 145, 3) := by decide +kernel
theorem dX11_dual_20 : decode cX11_dual 20 = .ok (.ifCond .ne 6, 3) := by decide +kernel
theorem dX11_dual_23 : decode cX11_dual 23 = .ok (.bipush (-2), 2) := by decide +kernel
theorem dX11_dual_25 : decode cX11_dual 25 = .ok (.ireturn, 1) := by decide +kernel
theorem dX11_dual_26 : decode cX11_dual 26 = .ok (.iconst 0, 1) := by decide +kernel
theorem dX11_dual_27 : decode cX11_dual 27 = .ok (.istore 4, 2) := by decide +kernel
theorem dX11_dual_29 : decode cX11_dual 29 = .ok (.iload 4, 2) := by decide +kernel
theorem dX11_dual_31 : decode cX11_dual 31 = .ok (.aload_n 0, 1) := by decide +kernel
theorem dX11_dual_32 : decode cX11_dual 32 = .ok (.getfield 13, 3) := by decide +kernel
theorem dX11_dual_35 : decode cX11_dual 35 = .ok (.iload_n 1, 1) := by decide +kernel
theorem dX11_dual_36 : decode cX11_dual 36 = .ok (.iaload, 1) := by decide +kernel
theorem dX11_dual_37 : decode cX11_dual 37 = .ok (.if_icmp .ge 26, 3) := by decide +kernel
theorem dX11_dual_40 : decode cX11_dual 40 = .ok (.aload_n 0, 1) := by decide +kernel
theorem dX11_dual_41 : decode cX11_dual 41 = .ok (.iload_n 1, 1) := by decide +kernel
theorem dX11_dual_42 : decode cX11_dual 42 = .ok (.iload 4, 2) := by decide +kernel
theorem dX11_dual_44 : decode cX11_dual 44 = .ok (.invokevirtual 86, 3) := by decide +kernel
theorem dX11_dual_47 : decode cX11_dual 47 = .ok (.iload_n 2, 1) := by decide +kernel
theorem dX11_dual_48 : decode cX11_dual 48 = .ok (.invokestatic 89, 3) := by decide +kernel
theorem dX11_dual_51 : decode cX11_dual 51 = .ok (.ifCond .ne 6, 3) := by decide +kernel
theorem dX11_dual_54 : decode cX11_dual 54 = .ok (.bipush (-3), 2) := by decide +kernel
theorem dX11_dual_56 : decode cX11_dual 56 = .ok (.ireturn, 1) := by decide +kernel
theorem dX11_dual_57 : decode cX11_dual 57 = .ok (.iinc 4 1, 3) := by decide +kernel
theorem dX11_dual_60 : decode cX11_dual 60 = .ok (.goto (-31), 3) := by decide +kernel
theorem dX11_dual_63 : decode cX11_dual 63 = .ok (.aload_n 0, 1) := by decide +kernel
theorem dX11_dual_64 : decode cX11_dual 64 = .ok (.iload_n 1, 1) := by decide +kernel
theorem dX11_dual_65 : decode cX11_dual 65 = .ok (.invokevirtual 207, 3) := by decide +kernel
theorem dX11_dual_68 : decode cX11_dual 68 = .ok (.aload_n 0, 1) := by decide +kernel
theorem dX11_dual_69 : decode cX11_dual 69 = .ok (.invokevirtual 135, 3) := by decide +kernel
theorem dX11_dual_72 : decode cX11_dual 72 = .ok (.iconst 0, 1) := by decide +kernel
theorem dX11_dual_73 : decode cX11_dual 73 = .ok (.istore 4, 2) := by decide +kernel
theorem dX11_dual_75 : decode cX11_dual 75 = .ok (.iload 4, 2) := by decide +kernel
theorem dX11_dual_77 : decode cX11_dual 77 = .ok (.aload_n 0, 1) := by decide +kernel
theorem dX11_dual_78 : decode cX11_dual 78 = .ok (.getfield 195, 3) := by decide +kernel
theorem dX11_dual_81 : decode cX11_dual 81 = .ok (.if_icmp .ge 24, 3) := by decide +kernel
theorem dX11_dual_84 : decode cX11_dual 84 = .ok (.aload_n 0, 1) := by decide +kernel
theorem dX11_dual_85 : decode cX11_dual 85 = .ok (.aload_n 0, 1) := by decide +kernel
theorem dX11_dual_86 : decode cX11_dual 86 = .ok (.getfield 35, 3) := by decide +kernel
theorem dX11_dual_89 : decode cX11_dual 89 = .ok (.iload 4, 2) := by decide +kernel
theorem dX11_dual_91 : decode cX11_dual 91 = .ok (.iaload, 1) := by decide +kernel
theorem dX11_dual_92 : decode cX11_dual 92 = .ok (.iload_n 2, 1) := by decide +kernel
theorem dX11_dual_93 : decode cX11_dual 93 = .ok (.invokestatic 218, 3) := by decide +kernel
theorem dX11_dual_96 : decode cX11_dual 96 = .ok (.invokevirtual 138, 3) := by decide +kernel
theorem dX11_dual_99 : decode cX11_dual 99 = .ok (.iinc 4 1, 3) := by decide +kernel
theorem dX11_dual_102 : decode cX11_dual 102 = .ok (.goto (-27), 3) := by decide +kernel
theorem dX11_dual_105 : decode cX11_dual 105 = .ok (.aload_n 0, 1) := by decide +kernel
theorem dX11_dual_106 : decode cX11_dual 106 = .ok (.iload_n 3, 1) := by decide +kernel
theorem dX11_dual_107 : decode cX11_dual 107 = .ok (.invokevirtual 142, 3) := by decide +kernel
theorem dX11_dual_110 : decode cX11_dual 110 = .ok (.ireturn, 1) := by decide +kernel
theorem dX11_choose_0 : decode cX11_choose 0 = .ok (.iconst 1, 1) := by decide +kernel
theorem dX11_choose_1 : decode cX11_choose 1 = .ok (.istore_n 2, 1) := by decide +kernel
theorem dX11_choose_2 : decode cX11_choose 2 = .ok (.iconst 0, 1) := by decide +kernel
theorem dX11_choose_3 : decode cX11_choose 3 = .ok (.istore_n 3, 1) := by decide +kernel
theorem dX11_choose_4 : decode cX11_choose 4 = .ok (.iload_n 3, 1) := by decide +kernel
theorem dX11_choose_5 : decode cX11_choose 5 = .ok (.iload_n 1, 1) := by decide +kernel
theorem dX11_choose_6 : decode cX11_choose 6 = .ok (.if_icmp .ge 19, 3) := by decide +kernel
theorem dX11_choose_9 : decode cX11_choose 9 = .ok (.iload_n 2, 1) := by decide +kernel
theorem dX11_choose_10 : decode cX11_choose 10 = .ok (.iload_n 0, 1) := by decide +kernel
theorem dX11_choose_11 : decode cX11_choose 11 = .ok (.iload_n 3, 1) := by decide +kernel
theorem dX11_choose_12 : decode cX11_choose 12 = .ok (.isub, 1) := by decide +kernel
theorem dX11_choose_13 : decode cX11_choose 13 = .ok (.imul, 1) := by decide +kernel
theorem dX11_choose_14 : decode cX11_choose 14 = .ok (.iload_n 3, 1) := by decide +kernel
theorem dX11_choose_15 : decode cX11_choose 15 = .ok (.iconst 1, 1) := by decide +kernel
theorem dX11_choose_16 : decode cX11_choose 16 = .ok (.iadd, 1) := by decide +kernel
theorem dX11_choose_17 : decode cX11_choose 17 = .ok (.idiv, 1) := by decide +kernel
theorem dX11_choose_18 : decode cX11_choose 18 = .ok (.istore_n 2, 1) := by decide +kernel
theorem dX11_choose_19 : decode cX11_choose 19 = .ok (.iinc 3 1, 3) := by decide +kernel
theorem dX11_choose_22 : decode cX11_choose 22 = .ok (.goto (-18), 3) := by decide +kernel
theorem dX11_choose_25 : decode cX11_choose 25 = .ok (.iload_n 2, 1) := by decide +kernel
theorem dX11_choose_26 : decode cX11_choose 26 = .ok (.ireturn, 1) := by decide +kernel
theorem dX11_standsFor_0 : decode cX11_standsFor 0 = .ok (.iconst 0, 1) := by decide +kernel
theorem dX11_standsFor_1 : decode cX11_standsFor 1 = .ok (.istore_n 2, 1) := by decide +kernel
theorem dX11_standsFor_2 : decode cX11_standsFor 2 = .ok (.iconst 0, 1) := by decide +kernel
theorem dX11_standsFor_3 : decode cX11_standsFor 3 = .ok (.istore_n 3, 1) := by decide +kernel
theorem dX11_standsFor_4 : decode cX11_standsFor 4 = .ok (.iconst 0, 1) := by decide +kernel
theorem dX11_standsFor_5 : decode cX11_standsFor 5 = .ok (.istore 4, 2) := by decide +kernel
theorem dX11_standsFor_7 : decode cX11_standsFor 7 = .ok (.iload 4, 2) := by decide +kernel
theorem dX11_standsFor_9 : decode cX11_standsFor 9 = .ok (.iconst 4, 1) := by decide +kernel
theorem dX11_standsFor_10 : decode cX11_standsFor 10 = .ok (.if_icmp .ge 37, 3) := by decide +kernel
theorem dX11_standsFor_13 : decode cX11_standsFor 13 = .ok (.iload_n 2, 1) := by decide +kernel
theorem dX11_standsFor_14 : decode cX11_standsFor 14 = .ok (.iload_n 0, 1) := by decide +kernel
theorem dX11_standsFor_15 : decode cX11_standsFor 15 = .ok (.iload 4, 2) := by decide +kernel
theorem dX11_standsFor_17 : decode cX11_standsFor 17 = .ok (.invokestatic 76, 3) := by decide +kernel
theorem dX11_standsFor_20 : decode cX11_standsFor 20 = .ok (.iadd, 1) := by decide +kernel
theorem dX11_standsFor_21 : decode cX11_standsFor 21 = .ok (.istore_n 2, 1) := by decide +kernel
theorem dX11_standsFor_22 : decode cX11_standsFor 22 = .ok (.iload_n 3, 1) := by decide +kernel
theorem dX11_standsFor_23 : decode cX11_standsFor 23 = .ok (.iload_n 0, 1) := by decide +kernel
theorem dX11_standsFor_24 : decode cX11_standsFor 24 = .ok (.iload 4, 2) := by decide +kernel
theorem dX11_standsFor_26 : decode cX11_standsFor 26 = .ok (.invokestatic 76, 3) := by decide +kernel
theorem dX11_standsFor_29 : decode cX11_standsFor 29 = .ok (.bipush 6, 2) := by decide +kernel
theorem dX11_standsFor_31 : decode cX11_standsFor 31 = .ok (.if_icmp .ne 7, 3) := by decide +kernel
theorem dX11_standsFor_34 : decode cX11_standsFor 34 = .ok (.iconst 1, 1) := by decide +kernel
theorem dX11_standsFor_35 : decode cX11_standsFor 35 = .ok (.goto 4, 3) := by decide +kernel
theorem dX11_standsFor_38 : decode cX11_standsFor 38 = .ok (.iconst 0, 1) := by decide +kernel
theorem dX11_standsFor_39 : decode cX11_standsFor 39 = .ok (.iadd, 1) := by decide +kernel
theorem dX11_standsFor_40 : decode cX11_standsFor 40 = .ok (.istore_n 3, 1) := by decide +kernel
theorem dX11_standsFor_41 : decode cX11_standsFor 41 = .ok (.iinc 4 1, 3) := by decide +kernel
theorem dX11_standsFor_44 : decode cX11_standsFor 44 = .ok (.goto (-37), 3) := by decide +kernel
theorem dX11_standsFor_47 : decode cX11_standsFor 47 = .ok (.iload_n 3, 1) := by decide +kernel
theorem dX11_standsFor_48 : decode cX11_standsFor 48 = .ok (.ifCond .ne 14, 3) := by decide +kernel
theorem dX11_standsFor_51 : decode cX11_standsFor 51 = .ok (.iload_n 2, 1) := by decide +kernel
theorem dX11_standsFor_52 : decode cX11_standsFor 52 = .ok (.iload_n 1, 1) := by decide +kernel
theorem dX11_standsFor_53 : decode cX11_standsFor 53 = .ok (.if_icmp .ne 7, 3) := by decide +kernel
theorem dX11_standsFor_56 : decode cX11_standsFor 56 = .ok (.iconst 1, 1) := by decide +kernel
theorem dX11_standsFor_57 : decode cX11_standsFor 57 = .ok (.goto 4, 3) := by decide +kernel
theorem dX11_standsFor_60 : decode cX11_standsFor 60 = .ok (.iconst 0, 1) := by decide +kernel
theorem dX11_standsFor_61 : decode cX11_standsFor 61 = .ok (.ireturn, 1) := by decide +kernel
theorem dX11_standsFor_62 : decode cX11_standsFor 62 = .ok (.iload_n 2, 1) := by decide +kernel
theorem dX11_standsFor_63 : decode cX11_standsFor 63 = .ok (.iload_n 1, 1) := by decide +kernel
theorem dX11_standsFor_64 : decode cX11_standsFor 64 = .ok (.if_icmp .le 7, 3) := by decide +kernel
theorem dX11_standsFor_67 : decode cX11_standsFor 67 = .ok (.iconst 0, 1) := by decide +kernel
theorem dX11_standsFor_68 : decode cX11_standsFor 68 = .ok (.goto 16, 3) := by decide +kernel
theorem dX11_standsFor_71 : decode cX11_standsFor 71 = .ok (.iload_n 1, 1) := by decide +kernel
theorem dX11_standsFor_72 : decode cX11_standsFor 72 = .ok (.iload_n 2, 1) := by decide +kernel
theorem dX11_standsFor_73 : decode cX11_standsFor 73 = .ok (.isub, 1) := by decide +kernel
theorem dX11_standsFor_74 : decode cX11_standsFor 74 = .ok (.iload_n 3, 1) := by decide +kernel
theorem dX11_standsFor_75 : decode cX11_standsFor 75 = .ok (.iadd, 1) := by decide +kernel
theorem dX11_standsFor_76 : decode cX11_standsFor 76 = .ok (.iconst 1, 1) := by decide +kernel
theorem dX11_standsFor_77 : decode cX11_standsFor 77 = .ok (.isub, 1) := by decide +kernel
theorem dX11_standsFor_78 : decode cX11_standsFor 78 = .ok (.iload_n 3, 1) := by decide +kernel
theorem dX11_standsFor_79 : decode cX11_standsFor 79 = .ok (.iconst 1, 1) := by decide +kernel
theorem dX11_standsFor_80 : decode cX11_standsFor 80 = .ok (.isub, 1) := by decide +kernel
theorem dX11_standsFor_81 : decode cX11_standsFor 81 = .ok (.invokestatic 221, 3) := by decide +kernel
theorem dX11_standsFor_84 : decode cX11_standsFor 84 = .ok (.ireturn, 1) := by decide +kernel
theorem dX11_countOf_0 : decode cX11_countOf 0 = .ok (.iconst 0, 1) := by decide +kernel
theorem dX11_countOf_1 : decode cX11_countOf 1 = .ok (.istore_n 2, 1) := by decide +kernel
theorem dX11_countOf_2 : decode cX11_countOf 2 = .ok (.iconst 0, 1) := by decide +kernel
theorem dX11_countOf_3 : decode cX11_countOf 3 = .ok (.istore_n 3, 1) := by decide +kernel
theorem dX11_countOf_4 : decode cX11_countOf 4 = .ok (.iload_n 3, 1) := by decide +kernel
theorem dX11_countOf_5 : decode cX11_countOf 5 = .ok (.sipush 2401, 3) := by decide +kernel
theorem dX11_countOf_8 : decode cX11_countOf 8 = .ok (.if_icmp .ge 37, 3) := by decide +kernel
theorem dX11_countOf_11 : decode cX11_countOf 11 = .ok (.iload_n 1, 1) := by decide +kernel
theorem dX11_countOf_12 : decode cX11_countOf 12 = .ok (.ifCond .lt 33, 3) := by decide +kernel
theorem dX11_countOf_15 : decode cX11_countOf 15 = .ok (.iload_n 2, 1) := by decide +kernel
theorem dX11_countOf_16 : decode cX11_countOf 16 = .ok (.aload_n 0, 1) := by decide +kernel
theorem dX11_countOf_17 : decode cX11_countOf 17 = .ok (.getfield 32, 3) := by decide +kernel
theorem dX11_countOf_20 : decode cX11_countOf 20 = .ok (.iload_n 3, 1) := by decide +kernel
theorem dX11_countOf_21 : decode cX11_countOf 21 = .ok (.baload, 1) := by decide +kernel
theorem dX11_countOf_22 : decode cX11_countOf 22 = .ok (.ifCond .eq 14, 3) := by decide +kernel
theorem dX11_countOf_25 : decode cX11_countOf 25 = .ok (.iload_n 3, 1) := by decide +kernel
theorem dX11_countOf_26 : decode cX11_countOf 26 = .ok (.invokestatic 93, 3) := by decide +kernel
theorem dX11_countOf_29 : decode cX11_countOf 29 = .ok (.iload_n 1, 1) := by decide +kernel
theorem dX11_countOf_30 : decode cX11_countOf 30 = .ok (.invokestatic 224, 3) := by decide +kernel
theorem dX11_countOf_33 : decode cX11_countOf 33 = .ok (.goto 4, 3) := by decide +kernel
theorem dX11_countOf_36 : decode cX11_countOf 36 = .ok (.iconst 0, 1) := by decide +kernel
theorem dX11_countOf_37 : decode cX11_countOf 37 = .ok (.iadd, 1) := by decide +kernel
theorem dX11_countOf_38 : decode cX11_countOf 38 = .ok (.istore_n 2, 1) := by decide +kernel
theorem dX11_countOf_39 : decode cX11_countOf 39 = .ok (.iinc 3 1, 3) := by decide +kernel
theorem dX11_countOf_42 : decode cX11_countOf 42 = .ok (.goto (-38), 3) := by decide +kernel
theorem dX11_countOf_45 : decode cX11_countOf 45 = .ok (.iload_n 2, 1) := by decide +kernel
theorem dX11_countOf_46 : decode cX11_countOf 46 = .ok (.ireturn, 1) := by decide +kernel
theorem dX11_count_0 : decode cX11_count 0 = .ok (.iload_n 1, 1) := by decide +kernel
theorem dX11_count_1 : decode cX11_count 1 = .ok (.invokestatic 128, 3) := by decide +kernel
theorem dX11_count_4 : decode cX11_count 4 = .ok (.ifCond .ne 5, 3) := by decide +kernel
theorem dX11_count_7 : decode cX11_count 7 = .ok (.iconst (-1), 1) := by decide +kernel
theorem dX11_count_8 : decode cX11_count 8 = .ok (.ireturn, 1) := by decide +kernel
theorem dX11_count_9 : decode cX11_count 9 = .ok (.iload_n 2, 1) := by decide +kernel
theorem dX11_count_10 : decode cX11_count 10 = .ok (.i2l, 1) := by decide +kernel
theorem dX11_count_11 : decode cX11_count 11 = .ok (.lconst 0, 1) := by decide +kernel
theorem dX11_count_12 : decode cX11_count 12 = .ok (.ldc2_w 227, 3) := by decide +kernel
theorem dX11_count_15 : decode cX11_count 15 = .ok (.invokestatic 64, 3) := by decide +kernel
theorem dX11_count_18 : decode cX11_count 18 = .ok (.ifCond .ne 6, 3) := by decide +kernel
theorem dX11_count_21 : decode cX11_count 21 = .ok (.bipush (-2), 2) := by decide +kernel
theorem dX11_count_23 : decode cX11_count 23 = .ok (.ireturn, 1) := by decide +kernel
theorem dX11_count_24 : decode cX11_count 24 = .ok (.aload_n 0, 1) := by decide +kernel
theorem dX11_count_25 : decode cX11_count 25 = .ok (.iload_n 1, 1) := by decide +kernel
theorem dX11_count_26 : decode cX11_count 26 = .ok (.invokevirtual 192, 3) := by decide +kernel
theorem dX11_count_29 : decode cX11_count 29 = .ok (.aload_n 0, 1) := by decide +kernel
theorem dX11_count_30 : decode cX11_count 30 = .ok (.iload_n 2, 1) := by decide +kernel
theorem dX11_count_31 : decode cX11_count 31 = .ok (.invokevirtual 229, 3) := by decide +kernel
theorem dX11_count_34 : decode cX11_count 34 = .ok (.ireturn, 1) := by decide +kernel
theorem dX11_series_0 : decode cX11_series 0 = .ok (.iload_n 1, 1) := by decide +kernel
theorem dX11_series_1 : decode cX11_series 1 = .ok (.invokestatic 128, 3) := by decide +kernel
theorem dX11_series_4 : decode cX11_series 4 = .ok (.ifCond .ne 6, 3) := by decide +kernel
theorem dX11_series_7 : decode cX11_series 7 = .ok (.ldc 232, 2) := by decide +kernel
theorem dX11_series_9 : decode cX11_series 9 = .ok (.ireturn, 1) := by decide +kernel
theorem dX11_series_10 : decode cX11_series 10 = .ok (.iload_n 2, 1) := by decide +kernel
theorem dX11_series_11 : decode cX11_series 11 = .ok (.i2l, 1) := by decide +kernel
theorem dX11_series_12 : decode cX11_series 12 = .ok (.lconst 0, 1) := by decide +kernel
theorem dX11_series_13 : decode cX11_series 13 = .ok (.ldc2_w 227, 3) := by decide +kernel
theorem dX11_series_16 : decode cX11_series 16 = .ok (.invokestatic 64, 3) := by decide +kernel
theorem dX11_series_19 : decode cX11_series 19 = .ok (.ifCond .ne 6, 3) := by decide +kernel
theorem dX11_series_22 : decode cX11_series 22 = .ok (.ldc 233, 2) := by decide +kernel
theorem dX11_series_24 : decode cX11_series 24 = .ok (.ireturn, 1) := by decide +kernel
theorem dX11_series_25 : decode cX11_series 25 = .ok (.aload_n 0, 1) := by decide +kernel
theorem dX11_series_26 : decode cX11_series 26 = .ok (.iload_n 1, 1) := by decide +kernel
theorem dX11_series_27 : decode cX11_series 27 = .ok (.invokevirtual 192, 3) := by decide +kernel
theorem dX11_series_30 : decode cX11_series 30 = .ok (.aload_n 0, 1) := by decide +kernel
theorem dX11_series_31 : decode cX11_series 31 = .ok (.iload_n 2, 1) := by decide +kernel
theorem dX11_series_32 : decode cX11_series 32 = .ok (.invokevirtual 229, 3) := by decide +kernel
theorem dX11_series_35 : decode cX11_series 35 = .ok (.iconst 4, 1) := by decide +kernel
theorem dX11_series_36 : decode cX11_series 36 = .ok (.aload_n 0, 1) := by decide +kernel
theorem dX11_series_37 : decode cX11_series 37 = .ok (.iload_n 2, 1) := by decide +kernel
theorem dX11_series_38 : decode cX11_series 38 = .ok (.iconst 1, 1) := by decide +kernel
theorem dX11_series_39 : decode cX11_series 39 = .ok (.isub, 1) := by decide +kernel
theorem dX11_series_40 : decode cX11_series 40 = .ok (.invokevirtual 229, 3) := by decide +kernel
theorem dX11_series_43 : decode cX11_series 43 = .ok (.imul, 1) := by decide +kernel
theorem dX11_series_44 : decode cX11_series 44 = .ok (.isub, 1) := by decide +kernel
theorem dX11_series_45 : decode cX11_series 45 = .ok (.bipush 6, 2) := by decide +kernel
theorem dX11_series_47 : decode cX11_series 47 = .ok (.aload_n 0, 1) := by decide +kernel
theorem dX11_series_48 : decode cX11_series 48 = .ok (.iload_n 2, 1) := by decide +kernel
theorem dX11_series_49 : decode cX11_series 49 = .ok (.iconst 2, 1) := by decide +kernel
theorem dX11_series_50 : decode cX11_series 50 = .ok (.isub, 1) := by decide +kernel
theorem dX11_series_51 : decode cX11_series 51 = .ok (.invokevirtual 229, 3) := by decide +kernel
theorem dX11_series_54 : decode cX11_series 54 = .ok (.imul, 1) := by decide +kernel
theorem dX11_series_55 : decode cX11_series 55 = .ok (.iadd, 1) := by decide +kernel
theorem dX11_series_56 : decode cX11_series 56 = .ok (.iconst 4, 1) := by decide +kernel
theorem dX11_series_57 : decode cX11_series 57 = .ok (.aload_n 0, 1) := by decide +kernel
theorem dX11_series_58 : decode cX11_series 58 = .ok (.iload_n 2, 1) := by decide +kernel
theorem dX11_series_59 : decode cX11_series 59 = .ok (.iconst 3, 1) := by decide +kernel
theorem dX11_series_60 : decode cX11_series 60 = .ok (.isub, 1) := by decide +kernel
theorem dX11_series_61 : decode cX11_series 61 = .ok (.invokevirtual 229, 3) := by decide +kernel
theorem dX11_series_64 : decode cX11_series 64 = .ok (.imul, 1) := by decide +kernel
theorem dX11_series_65 : decode cX11_series 65 = .ok (.isub, 1) := by decide +kernel
theorem dX11_series_66 : decode cX11_series 66 = .ok (.aload_n 0, 1) := by decide +kernel
theorem dX11_series_67 : decode cX11_series 67 = .ok (.iload_n 2, 1) := by decide +kernel
theorem dX11_series_68 : decode cX11_series 68 = .ok (.iconst 4, 1) := by decide +kernel
theorem dX11_series_69 : decode cX11_series 69 = .ok (.isub, 1) := by decide +kernel
theorem dX11_series_70 : decode cX11_series 70 = .ok (.invokevirtual 229, 3) := by decide +kernel
theorem dX11_series_73 : decode cX11_series 73 = .ok (.iadd, 1) := by decide +kernel
theorem dX11_series_74 : decode cX11_series 74 = .ok (.ireturn, 1) := by decide +kernel
theorem dX11_dimension_0 : decode cX11_dimension 0 = .ok (.bipush (-6), 2) := by decide +kernel
theorem dX11_dimension_2 : decode cX11_dimension 2 = .ok (.istore_n 1, 1) := by decide +kernel
theorem dX11_dimension_3 : decode cX11_dimension 3 = .ok (.iconst 0, 1) := by decide +kernel
theorem dX11_dimension_4 : decode cX11_dimension 4 = .ok (.istore_n 2, 1) := by decide +kernel
theorem dX11_dimension_5 : decode cX11_dimension 5 = .ok (.iload_n 2, 1) := by decide +kernel
theorem dX11_dimension_6 : decode cX11_dimension 6 = .ok (.aload_n 0, 1) := by decide +kernel
theorem dX11_dimension_7 : decode cX11_dimension 7 = .ok (.getfield 195, 3) := by decide +kernel
theorem dX11_dimension_10 : decode cX11_dimension 10 = .ok (.if_icmp .ge 28, 3) := by decide +kernel
theorem dX11_dimension_13 : decode cX11_dimension 13 = .ok (.iload_n 1, 1) := by decide +kernel
theorem dX11_dimension_14 : decode cX11_dimension 14 = .ok (.iconst 4, 1) := by decide +kernel
theorem dX11_dimension_15 : decode cX11_dimension 15 = .ok (.aload_n 0, 1) := by decide +kernel
theorem dX11_dimension_16 : decode cX11_dimension 16 = .ok (.getfield 35, 3) := by decide +kernel
theorem dX11_dimension_19 : decode cX11_dimension 19 = .ok (.iload_n 2, 1) := by decide +kernel
theorem dX11_dimension_20 : decode cX11_dimension 20 = .ok (.iaload, 1) := by decide +kernel
theorem dX11_dimension_21 : decode cX11_dimension 21 = .ok (.invokestatic 154, 3) := by decide +kernel
theorem dX11_dimension_24 : decode cX11_dimension 24 = .ok (.invokestatic 234, 3) := by decide +kernel
theorem dX11_dimension_27 : decode cX11_dimension 27 = .ok (.isub, 1) := by decide +kernel
theorem dX11_dimension_28 : decode cX11_dimension 28 = .ok (.invokestatic 80, 3) := by decide +kernel
theorem dX11_dimension_31 : decode cX11_dimension 31 = .ok (.istore_n 1, 1) := by decide +kernel
theorem dX11_dimension_32 : decode cX11_dimension 32 = .ok (.iinc 2 1, 3) := by decide +kernel
theorem dX11_dimension_35 : decode cX11_dimension 35 = .ok (.goto (-30), 3) := by decide +kernel
theorem dX11_dimension_38 : decode cX11_dimension 38 = .ok (.iload_n 1, 1) := by decide +kernel
theorem dX11_dimension_39 : decode cX11_dimension 39 = .ok (.ireturn, 1) := by decide +kernel
theorem dX11_sizeOf_0 : decode cX11_sizeOf 0 = .ok (.aload_n 0, 1) := by decide +kernel
theorem dX11_sizeOf_1 : decode cX11_sizeOf 1 = .ok (.iload_n 1, 1) := by decide +kernel
theorem dX11_sizeOf_2 : decode cX11_sizeOf 2 = .ok (.invokevirtual 207, 3) := by decide +kernel
theorem dX11_sizeOf_5 : decode cX11_sizeOf 5 = .ok (.aload_n 0, 1) := by decide +kernel
theorem dX11_sizeOf_6 : decode cX11_sizeOf 6 = .ok (.invokevirtual 237, 3) := by decide +kernel
theorem dX11_sizeOf_9 : decode cX11_sizeOf 9 = .ok (.ifCond .le 6, 3) := by decide +kernel
theorem dX11_sizeOf_12 : decode cX11_sizeOf 12 = .ok (.bipush (-6), 2) := by decide +kernel
theorem dX11_sizeOf_14 : decode cX11_sizeOf 14 = .ok (.ireturn, 1) := by decide +kernel
theorem dX11_sizeOf_15 : decode cX11_sizeOf 15 = .ok (.iconst 0, 1) := by decide +kernel
theorem dX11_sizeOf_16 : decode cX11_sizeOf 16 = .ok (.istore_n 2, 1) := by decide +kernel
theorem dX11_sizeOf_17 : decode cX11_sizeOf 17 = .ok (.iconst 0, 1) := by decide +kernel
theorem dX11_sizeOf_18 : decode cX11_sizeOf 18 = .ok (.istore_n 3, 1) := by decide +kernel
theorem dX11_sizeOf_19 : decode cX11_sizeOf 19 = .ok (.iload_n 3, 1) := by decide +kernel
theorem dX11_sizeOf_20 : decode cX11_sizeOf 20 = .ok (.sipush 2401, 3) := by decide +kernel
theorem dX11_sizeOf_23 : decode cX11_sizeOf 23 = .ok (.if_icmp .ge 26, 3) := by decide +kernel
theorem dX11_sizeOf_26 : decode cX11_sizeOf 26 = .ok (.iload_n 2, 1) := by decide +kernel
theorem dX11_sizeOf_27 : decode cX11_sizeOf 27 = .ok (.aload_n 0, 1) := by decide +kernel
theorem dX11_sizeOf_28 : decode cX11_sizeOf 28 = .ok (.getfield 32, 3) := by decide +kernel
theorem dX11_sizeOf_31 : decode cX11_sizeOf 31 = .ok (.iload_n 3, 1) := by decide +kernel
theorem dX11_sizeOf_32 : decode cX11_sizeOf 32 = .ok (.baload, 1) := by decide +kernel
theorem dX11_sizeOf_33 : decode cX11_sizeOf 33 = .ok (.ifCond .eq 7, 3) := by decide +kernel
theorem dX11_sizeOf_36 : decode cX11_sizeOf 36 = .ok (.iconst 1, 1) := by decide +kernel
theorem dX11_sizeOf_37 : decode cX11_sizeOf 37 = .ok (.goto 4, 3) := by decide +kernel
theorem dX11_sizeOf_40 : decode cX11_sizeOf 40 = .ok (.iconst 0, 1) := by decide +kernel
theorem dX11_sizeOf_41 : decode cX11_sizeOf 41 = .ok (.iadd, 1) := by decide +kernel
theorem dX11_sizeOf_42 : decode cX11_sizeOf 42 = .ok (.istore_n 2, 1) := by decide +kernel
theorem dX11_sizeOf_43 : decode cX11_sizeOf 43 = .ok (.iinc 3 1, 3) := by decide +kernel
theorem dX11_sizeOf_46 : decode cX11_sizeOf 46 = .ok (.goto (-27), 3) := by decide +kernel
theorem dX11_sizeOf_49 : decode cX11_sizeOf 49 = .ok (.iload_n 2, 1) := by decide +kernel
theorem dX11_sizeOf_50 : decode cX11_sizeOf 50 = .ok (.ireturn, 1) := by decide +kernel
theorem dX11_isLeaf_0 : decode cX11_isLeaf 0 = .ok (.iconst 1, 1) := by decide +kernel
theorem dX11_isLeaf_1 : decode cX11_isLeaf 1 = .ok (.istore_n 1, 1) := by decide +kernel
theorem dX11_isLeaf_2 : decode cX11_isLeaf 2 = .ok (.iconst 0, 1) := by decide +kernel
theorem dX11_isLeaf_3 : decode cX11_isLeaf 3 = .ok (.istore_n 2, 1) := by decide +kernel
theorem dX11_isLeaf_4 : decode cX11_isLeaf 4 = .ok (.iload_n 2, 1) := by decide +kernel
theorem dX11_isLeaf_5 : decode cX11_isLeaf 5 = .ok (.aload_n 0, 1) := by decide +kernel
theorem dX11_isLeaf_6 : decode cX11_isLeaf 6 = .ok (.getfield 240, 3) := by decide +kernel
theorem dX11_isLeaf_9 : decode cX11_isLeaf 9 = .ok (.if_icmp .ge 59, 3) := by decide +kernel
theorem dX11_isLeaf_12 : decode cX11_isLeaf 12 = .ok (.iload_n 2, 1) := by decide +kernel
theorem dX11_isLeaf_13 : decode cX11_isLeaf 13 = .ok (.iconst 1, 1) := by decide +kernel
theorem dX11_isLeaf_14 : decode cX11_isLeaf 14 = .ok (.iadd, 1) := by decide +kernel
theorem dX11_isLeaf_15 : decode cX11_isLeaf 15 = .ok (.istore_n 3, 1) := by decide +kernel
theorem dX11_isLeaf_16 : decode cX11_isLeaf 16 = .ok (.iload_n 3, 1) := by decide +kernel
theorem dX11_isLeaf_17 : decode cX11_isLeaf 17 = .ok (.aload_n 0, 1) := by decide +kernel
theorem dX11_isLeaf_18 : decode cX11_isLeaf 18 = .ok (.getfield 240, 3) := by decide +kernel
theorem dX11_isLeaf_21 : decode cX11_isLeaf 21 = .ok (.if_icmp .ge 41, 3) := by decide +kernel
theorem dX11_isLeaf_24 : decode cX11_isLeaf 24 = .ok (.iload_n 1, 1) := by decide +kernel
theorem dX11_isLeaf_25 : decode cX11_isLeaf 25 = .ok (.ifCond .eq 29, 3) := by decide +kernel
theorem dX11_isLeaf_28 : decode cX11_isLeaf 28 = .ok (.aload_n 0, 1) := by decide +kernel
theorem dX11_isLeaf_29 : decode cX11_isLeaf 29 = .ok (.getfield 47, 3) := by decide +kernel
theorem dX11_isLeaf_32 : decode cX11_isLeaf 32 = .ok (.iload_n 2, 1) := by decide +kernel
theorem dX11_isLeaf_33 : decode cX11_isLeaf 33 = .ok (.iaload, 1) := by decide +kernel
theorem dX11_isLeaf_34 : decode cX11_isLeaf 34 = .ok (.invokestatic 154, 3) := by decide +kernel
theorem dX11_isLeaf_37 : decode cX11_isLeaf 37 = .ok (.aload_n 0, 1) := by decide +kernel
theorem dX11_isLeaf_38 : decode cX11_isLeaf 38 = .ok (.getfield 47, 3) := by decide +kernel
theorem dX11_isLeaf_41 : decode cX11_isLeaf 41 = .ok (.iload_n 3, 1) := by decide +kernel
theorem dX11_isLeaf_42 : decode cX11_isLeaf 42 = .ok (.iaload, 1) := by decide +kernel
theorem dX11_isLeaf_43 : decode cX11_isLeaf 43 = .ok (.invokestatic 154, 3) := by decide +kernel
theorem dX11_isLeaf_46 : decode cX11_isLeaf 46 = .ok (.iand, 1) := by decide +kernel
theorem dX11_isLeaf_47 : decode cX11_isLeaf 47 = .ok (.ifCond .ne 7, 3) := by decide +kernel
theorem dX11_isLeaf_50 : decode cX11_isLeaf 50 = .ok (.iconst 1, 1) := by decide +kernel
theorem dX11_isLeaf_51 : decode cX11_isLeaf 51 = .ok (.goto 4, 3) := by decide +kernel
theorem dX11_isLeaf_54 : decode cX11_isLeaf 54 = .ok (.iconst 0, 1) := by decide +kernel
theorem dX11_isLeaf_55 : decode cX11_isLeaf 55 = .ok (.istore_n 1, 1) := by decide +kernel
theorem dX11_isLeaf_56 : decode cX11_isLeaf 56 = .ok (.iinc 3 1, 3) := by decide +kernel
theorem dX11_isLeaf_59 : decode cX11_isLeaf 59 = .ok (.goto (-43), 3) := by decide +kernel
theorem dX11_isLeaf_62 : decode cX11_isLeaf 62 = .ok (.iinc 2 1, 3) := by decide +kernel
theorem dX11_isLeaf_65 : decode cX11_isLeaf 65 = .ok (.goto (-61), 3) := by decide +kernel
theorem dX11_isLeaf_68 : decode cX11_isLeaf 68 = .ok (.iload_n 1, 1) := by decide +kernel
theorem dX11_isLeaf_69 : decode cX11_isLeaf 69 = .ok (.ireturn, 1) := by decide +kernel
theorem dX11_pivot_0 : decode cX11_pivot 0 = .ok (.iconst 0, 1) := by decide +kernel
theorem dX11_pivot_1 : decode cX11_pivot 1 = .ok (.istore_n 1, 1) := by decide +kernel
theorem dX11_pivot_2 : decode cX11_pivot 2 = .ok (.iconst (-1), 1) := by decide +kernel
theorem dX11_pivot_3 : decode cX11_pivot 3 = .ok (.istore_n 2, 1) := by decide +kernel
theorem dX11_pivot_4 : decode cX11_pivot 4 = .ok (.iconst 0, 1) := by decide +kernel
theorem dX11_pivot_5 : decode cX11_pivot 5 = .ok (.istore_n 3, 1) := by decide +kernel
theorem dX11_pivot_6 : decode cX11_pivot 6 = .ok (.iload_n 3, 1) := by decide +kernel
theorem dX11_pivot_7 : decode cX11_pivot 7 = .ok (.iconst 4, 1) := by decide +kernel
theorem dX11_pivot_8 : decode cX11_pivot 8 = .ok (.if_icmp .ge 73, 3) := by decide +kernel
theorem dX11_pivot_11 : decode cX11_pivot 11 = .ok (.iconst 0, 1) := by decide +kernel
theorem dX11_pivot_12 : decode cX11_pivot 12 = .ok (.istore 4, 2) := by decide +kernel
theorem dX11_pivot_14 : decode cX11_pivot 14 = .ok (.iconst 0, 1) := by decide +kernel
theorem dX11_pivot_15 : decode cX11_pivot 15 = .ok (.istore 5, 2) := by decide +kernel
theorem dX11_pivot_17 : decode cX11_pivot 17 = .ok (.iload 5, 2) := by decide +kernel
theorem dX11_pivot_19 : decode cX11_pivot 19 = .ok (.aload_n 0, 1) := by decide +kernel
theorem dX11_pivot_20 : decode cX11_pivot 20 = .ok (.getfield 240, 3) := by decide +kernel
theorem dX11_pivot_23 : decode cX11_pivot 23 = .ok (.if_icmp .ge 33, 3) := by decide +kernel
theorem dX11_pivot_26 : decode cX11_pivot 26 = .ok (.iload 4, 2) := by decide +kernel
theorem dX11_pivot_28 : decode cX11_pivot 28 = .ok (.aload_n 0, 1) := by decide +kernel
theorem dX11_pivot_29 : decode cX11_pivot 29 = .ok (.getfield 47, 3) := by decide +kernel
theorem dX11_pivot_32 : decode cX11_pivot 32 = .ok (.iload 5, 2) := by decide +kernel
theorem dX11_pivot_34 : decode cX11_pivot 34 = .ok (.iaload, 1) := by decide +kernel
theorem dX11_pivot_35 : decode cX11_pivot 35 = .ok (.iload_n 3, 1) := by decide +kernel
theorem dX11_pivot_36 : decode cX11_pivot 36 = .ok (.invokestatic 76, 3) := by decide +kernel
theorem dX11_pivot_39 : decode cX11_pivot 39 = .ok (.ifCond .le 7, 3) := by decide +kernel
theorem dX11_pivot_42 : decode cX11_pivot 42 = .ok (.iconst 1, 1) := by decide +kernel
theorem dX11_pivot_43 : decode cX11_pivot 43 = .ok (.goto 4, 3) := by decide +kernel
theorem dX11_pivot_46 : decode cX11_pivot 46 = .ok (.iconst 0, 1) := by decide +kernel
theorem dX11_pivot_47 : decode cX11_pivot 47 = .ok (.iadd, 1) := by decide +kernel
theorem dX11_pivot_48 : decode cX11_pivot 48 = .ok (.istore 4, 2) := by decide +kernel
theorem dX11_pivot_50 : decode cX11_pivot 50 = .ok (.iinc 5 1, 3) := by decide +kernel
theorem dX11_pivot_53 : decode cX11_pivot 53 = .ok (.goto (-36), 3) := by decide +kernel
theorem dX11_pivot_56 : decode cX11_pivot 56 = .ok (.iload 4, 2) := by decide +kernel
theorem dX11_pivot_58 : decode cX11_pivot 58 = .ok (.iload_n 2, 1) := by decide +kernel
theorem dX11_pivot_59 : decode cX11_pivot 59 = .ok (.if_icmp .le 7, 3) := by decide +kernel
theorem dX11_pivot_62 : decode cX11_pivot 62 = .ok (.iload_n 3, 1) := by decide +kernel
theorem dX11_pivot_63 : decode cX11_pivot 63 = .ok (.goto 4, 3) := by decide +kernel
theorem dX11_pivot_66 : decode cX11_pivot 66 = .ok (.iload_n 1, 1) := by decide +kernel
theorem dX11_pivot_67 : decode cX11_pivot 67 = .ok (.istore_n 1, 1) := by decide +kernel
theorem dX11_pivot_68 : decode cX11_pivot 68 = .ok (.iload_n 2, 1) := by decide +kernel
theorem dX11_pivot_69 : decode cX11_pivot 69 = .ok (.iload 4, 2) := by decide +kernel
theorem dX11_pivot_71 : decode cX11_pivot 71 = .ok (.invokestatic 80, 3) := by decide +kernel
theorem dX11_pivot_74 : decode cX11_pivot 74 = .ok (.istore_n 2, 1) := by decide +kernel
theorem dX11_pivot_75 : decode cX11_pivot 75 = .ok (.iinc 3 1, 3) := by decide +kernel
theorem dX11_pivot_78 : decode cX11_pivot 78 = .ok (.goto (-72), 3) := by decide +kernel
theorem dX11_pivot_81 : decode cX11_pivot 81 = .ok (.iload_n 1, 1) := by decide +kernel
theorem dX11_pivot_82 : decode cX11_pivot 82 = .ok (.ireturn, 1) := by decide +kernel
theorem dX11_push_0 : decode cX11_push 0 = .ok (.aload_n 0, 1) := by decide +kernel
theorem dX11_push_1 : decode cX11_push 1 = .ok (.getfield 38, 3) := by decide +kernel
theorem dX11_push_4 : decode cX11_push 4 = .ok (.bipush 40, 2) := by decide +kernel
theorem dX11_push_6 : decode cX11_push 6 = .ok (.aload_n 0, 1) := by decide +kernel
theorem dX11_push_7 : decode cX11_push 7 = .ok (.getfield 243, 3) := by decide +kernel
theorem dX11_push_10 : decode cX11_push 10 = .ok (.imul, 1) := by decide +kernel
theorem dX11_push_11 : decode cX11_push 11 = .ok (.aload_n 0, 1) := by decide +kernel
theorem dX11_push_12 : decode cX11_push 12 = .ok (.getfield 41, 3) := by decide +kernel
theorem dX11_push_15 : decode cX11_push 15 = .ok (.aload_n 0, 1) := by decide +kernel
theorem dX11_push_16 : decode cX11_push 16 = .ok (.getfield 243, 3) := by decide +kernel
theorem dX11_push_19 : decode cX11_push 19 = .ok (.iaload, 1) := by decide +kernel
theorem dX11_push_20 : decode cX11_push 20 = .ok (.iadd, 1) := by decide +kernel
theorem dX11_push_21 : decode cX11_push 21 = .ok (.iload_n 1, 1) := by decide +kernel
theorem dX11_push_22 : decode cX11_push 22 = .ok (.iastore, 1) := by decide +kernel
theorem dX11_push_23 : decode cX11_push 23 = .ok (.aload_n 0, 1) := by decide +kernel
theorem dX11_push_24 : decode cX11_push 24 = .ok (.getfield 41, 3) := by decide +kernel
theorem dX11_push_27 : decode cX11_push 27 = .ok (.aload_n 0, 1) := by decide +kernel
theorem dX11_push_28 : decode cX11_push 28 = .ok (.getfield 243, 3) := by decide +kernel
theorem dX11_push_31 : decode cX11_push 31 = .ok (.dup2, 1) := by decide +kernel
theorem dX11_push_32 : decode cX11_push 32 = .ok (.iaload, 1) := by decide +kernel
theorem dX11_push_33 : decode cX11_push 33 = .ok (.iconst 1, 1) := by decide +kernel
theorem dX11_push_34 : decode cX11_push 34 = .ok (.iadd, 1) := by decide +kernel
theorem dX11_push_35 : decode cX11_push 35 = .ok (.iastore, 1) := by decide +kernel
theorem dX11_push_36 : decode cX11_push 36 = .ok (.return_, 1) := by decide +kernel
theorem dX11_opens_0 : decode cX11_opens 0 = .ok (.aload_n 0, 1) := by decide +kernel
theorem dX11_opens_1 : decode cX11_opens 1 = .ok (.getfield 41, 3) := by decide +kernel
theorem dX11_opens_4 : decode cX11_opens 4 = .ok (.aload_n 0, 1) := by decide +kernel
theorem dX11_opens_5 : decode cX11_opens 5 = .ok (.getfield 243, 3) := by decide +kernel
theorem dX11_opens_8 : decode cX11_opens 8 = .ok (.iconst 0, 1) := by decide +kernel
theorem dX11_opens_9 : decode cX11_opens 9 = .ok (.iastore, 1) := by decide +kernel
theorem dX11_opens_10 : decode cX11_opens 10 = .ok (.aload_n 0, 1) := by decide +kernel
theorem dX11_opens_11 : decode cX11_opens 11 = .ok (.getfield 44, 3) := by decide +kernel
theorem dX11_opens_14 : decode cX11_opens 14 = .ok (.aload_n 0, 1) := by decide +kernel
theorem dX11_opens_15 : decode cX11_opens 15 = .ok (.getfield 243, 3) := by decide +kernel
theorem dX11_opens_18 : decode cX11_opens 18 = .ok (.iload_n 1, 1) := by decide +kernel
theorem dX11_opens_19 : decode cX11_opens 19 = .ok (.iastore, 1) := by decide +kernel
theorem dX11_opens_20 : decode cX11_opens 20 = .ok (.return_, 1) := by decide +kernel
theorem dX11_pushSum_0 : decode cX11_pushSum 0 = .ok (.aload_n 0, 1) := by decide +kernel
theorem dX11_pushSum_1 : decode cX11_pushSum 1 = .ok (.iload_n 2, 1) := by decide +kernel
theorem dX11_pushSum_2 : decode cX11_pushSum 2 = .ok (.invokevirtual 246, 3) := by decide +kernel
theorem dX11_pushSum_5 : decode cX11_pushSum 5 = .ok (.aload_n 0, 1) := by decide +kernel
theorem dX11_pushSum_6 : decode cX11_pushSum 6 = .ok (.iload_n 1, 1) := by decide +kernel
theorem dX11_pushSum_7 : decode cX11_pushSum 7 = .ok (.invokestatic 70, 3) := by decide +kernel
theorem dX11_pushSum_10 : decode cX11_pushSum 10 = .ok (.invokevirtual 249, 3) := by decide +kernel
theorem dX11_pushSum_13 : decode cX11_pushSum 13 = .ok (.iconst 0, 1) := by decide +kernel
theorem dX11_pushSum_14 : decode cX11_pushSum 14 = .ok (.istore_n 3, 1) := by decide +kernel
theorem dX11_pushSum_15 : decode cX11_pushSum 15 = .ok (.iload_n 3, 1) := by decide +kernel
theorem dX11_pushSum_16 : decode cX11_pushSum 16 = .ok (.aload_n 0, 1) := by decide +kernel
theorem dX11_pushSum_17 : decode cX11_pushSum 17 = .ok (.getfield 240, 3) := by decide +kernel
theorem dX11_pushSum_20 : decode cX11_pushSum 20 = .ok (.if_icmp .ge 32, 3) := by decide +kernel
theorem dX11_pushSum_23 : decode cX11_pushSum 23 = .ok (.aload_n 0, 1) := by decide +kernel
theorem dX11_pushSum_24 : decode cX11_pushSum 24 = .ok (.getfield 47, 3) := by decide +kernel
theorem dX11_pushSum_27 : decode cX11_pushSum 27 = .ok (.iload_n 3, 1) := by decide +kernel
theorem dX11_pushSum_28 : decode cX11_pushSum 28 = .ok (.iaload, 1) := by decide +kernel
theorem dX11_pushSum_29 : decode cX11_pushSum 29 = .ok (.iload_n 1, 1) := by decide +kernel
theorem dX11_pushSum_30 : decode cX11_pushSum 30 = .ok (.invokestatic 76, 3) := by decide +kernel
theorem dX11_pushSum_33 : decode cX11_pushSum 33 = .ok (.ifCond .ne 13, 3) := by decide +kernel
theorem dX11_pushSum_36 : decode cX11_pushSum 36 = .ok (.aload_n 0, 1) := by decide +kernel
theorem dX11_pushSum_37 : decode cX11_pushSum 37 = .ok (.aload_n 0, 1) := by decide +kernel
theorem dX11_pushSum_38 : decode cX11_pushSum 38 = .ok (.getfield 47, 3) := by decide +kernel
theorem dX11_pushSum_41 : decode cX11_pushSum 41 = .ok (.iload_n 3, 1) := by decide +kernel
theorem dX11_pushSum_42 : decode cX11_pushSum 42 = .ok (.iaload, 1) := by decide +kernel
theorem dX11_pushSum_43 : decode cX11_pushSum 43 = .ok (.invokevirtual 249, 3) := by decide +kernel
theorem dX11_pushSum_46 : decode cX11_pushSum 46 = .ok (.iinc 3 1, 3) := by decide +kernel
theorem dX11_pushSum_49 : decode cX11_pushSum 49 = .ok (.goto (-34), 3) := by decide +kernel
theorem dX11_pushSum_52 : decode cX11_pushSum 52 = .ok (.aload_n 0, 1) := by decide +kernel
theorem dX11_pushSum_53 : decode cX11_pushSum 53 = .ok (.dup, 1) := by decide +kernel
theorem dX11_pushSum_54 : decode cX11_pushSum 54 = .ok (.getfield 243, 3) := by decide +kernel
theorem dX11_pushSum_57 : decode cX11_pushSum 57 = .ok (.iconst 1, 1) := by decide +kernel
theorem dX11_pushSum_58 : decode cX11_pushSum 58 = .ok (.iadd, 1) := by decide +kernel
theorem dX11_pushSum_59 : decode cX11_pushSum 59 = .ok (.putfield 243, 3) := by decide +kernel
theorem dX11_pushSum_62 : decode cX11_pushSum 62 = .ok (.return_, 1) := by decide +kernel
theorem dX11_lessened_0 : decode cX11_lessened 0 = .ok (.iload_n 0, 1) := by decide +kernel
theorem dX11_lessened_1 : decode cX11_lessened 1 = .ok (.iload_n 1, 1) := by decide +kernel
theorem dX11_lessened_2 : decode cX11_lessened 2 = .ok (.invokestatic 76, 3) := by decide +kernel
theorem dX11_lessened_5 : decode cX11_lessened 5 = .ok (.ifCond .le 12, 3) := by decide +kernel
theorem dX11_lessened_8 : decode cX11_lessened 8 = .ok (.iload_n 0, 1) := by decide +kernel
theorem dX11_lessened_9 : decode cX11_lessened 9 = .ok (.iload_n 1, 1) := by decide +kernel
theorem dX11_lessened_10 : decode cX11_lessened 10 = .ok (.invokestatic 70, 3) := by decide +kernel
theorem dX11_lessened_13 : decode cX11_lessened 13 = .ok (.isub, 1) := by decide +kernel
theorem dX11_lessened_14 : decode cX11_lessened 14 = .ok (.goto 4, 3) := by decide +kernel
theorem dX11_lessened_17 : decode cX11_lessened 17 = .ok (.iload_n 0, 1) := by decide +kernel
theorem dX11_lessened_18 : decode cX11_lessened 18 = .ok (.ireturn, 1) := by decide +kernel
theorem dX11_isTooMuch_0 : decode cX11_isTooMuch 0 = .ok (.aload_n 0, 1) := by decide +kernel
theorem dX11_isTooMuch_1 : decode cX11_isTooMuch 1 = .ok (.getfield 47, 3) := by decide +kernel
theorem dX11_isTooMuch_4 : decode cX11_isTooMuch 4 = .ok (.iload_n 1, 1) := by decide +kernel
theorem dX11_isTooMuch_5 : decode cX11_isTooMuch 5 = .ok (.iaload, 1) := by decide +kernel
theorem dX11_isTooMuch_6 : decode cX11_isTooMuch 6 = .ok (.iload_n 2, 1) := by decide +kernel
theorem dX11_isTooMuch_7 : decode cX11_isTooMuch 7 = .ok (.invokestatic 252, 3) := by decide +kernel
theorem dX11_isTooMuch_10 : decode cX11_isTooMuch 10 = .ok (.istore_n 3, 1) := by decide +kernel
theorem dX11_isTooMuch_11 : decode cX11_isTooMuch 11 = .ok (.iconst 0, 1) := by decide +kernel
theorem dX11_isTooMuch_12 : decode cX11_isTooMuch 12 = .ok (.istore 4, 2) := by decide +kernel
theorem dX11_isTooMuch_14 : decode cX11_isTooMuch 14 = .ok (.iconst 0, 1) := by decide +kernel
theorem dX11_isTooMuch_15 : decode cX11_isTooMuch 15 = .ok (.istore 5, 2) := by decide +kernel
theorem dX11_isTooMuch_17 : decode cX11_isTooMuch 17 = .ok (.iload 5, 2) := by decide +kernel
theorem dX11_isTooMuch_19 : decode cX11_isTooMuch 19 = .ok (.aload_n 0, 1) := by decide +kernel
theorem dX11_isTooMuch_20 : decode cX11_isTooMuch 20 = .ok (.getfield 240, 3) := by decide +kernel
theorem dX11_isTooMuch_23 : decode cX11_isTooMuch 23 = .ok (.if_icmp .ge 61, 3) := by decide +kernel
theorem dX11_isTooMuch_26 : decode cX11_isTooMuch 26 = .ok (.aload_n 0, 1) := by decide +kernel
theorem dX11_isTooMuch_27 : decode cX11_isTooMuch 27 = .ok (.getfield 47, 3) := by decide +kernel
theorem dX11_isTooMuch_30 : decode cX11_isTooMuch 30 = .ok (.iload 5, 2) := by decide +kernel
theorem dX11_isTooMuch_32 : decode cX11_isTooMuch 32 = .ok (.iaload, 1) := by decide +kernel
theorem dX11_isTooMuch_33 : decode cX11_isTooMuch 33 = .ok (.iload_n 2, 1) := by decide +kernel
theorem dX11_isTooMuch_34 : decode cX11_isTooMuch 34 = .ok (.invokestatic 252, 3) := by decide +kernel
theorem dX11_isTooMuch_37 : decode cX11_isTooMuch 37 = .ok (.istore 6, 2) := by decide +kernel
theorem dX11_isTooMuch_39 : decode cX11_isTooMuch 39 = .ok (.iload 4, 2) := by decide +kernel
theorem dX11_isTooMuch_41 : decode cX11_isTooMuch 41 = .ok (.ifCond .ne 30, 3) := by decide +kernel
theorem dX11_isTooMuch_44 : decode cX11_isTooMuch 44 = .ok (.iload 5, 2) := by decide +kernel
theorem dX11_isTooMuch_46 : decode cX11_isTooMuch 46 = .ok (.iload_n 1, 1) := by decide +kernel
theorem dX11_isTooMuch_47 : decode cX11_isTooMuch 47 = .ok (.if_icmp .eq 28, 3) := by decide +kernel
theorem dX11_isTooMuch_50 : decode cX11_isTooMuch 50 = .ok (.iload 6, 2) := by decide +kernel
theorem dX11_isTooMuch_52 : decode cX11_isTooMuch 52 = .ok (.iload_n 3, 1) := by decide +kernel
theorem dX11_isTooMuch_53 : decode cX11_isTooMuch 53 = .ok (.invokestatic 89, 3) := by decide +kernel
theorem dX11_isTooMuch_56 : decode cX11_isTooMuch 56 = .ok (.ifCond .eq 19, 3) := by decide +kernel
theorem dX11_isTooMuch_59 : decode cX11_isTooMuch 59 = .ok (.iload 6, 2) := by decide +kernel
theorem dX11_isTooMuch_61 : decode cX11_isTooMuch 61 = .ok (.iload_n 3, 1) := by decide +kernel
theorem dX11_isTooMuch_62 : decode cX11_isTooMuch 62 = .ok (.if_icmp .ne 9, 3) := by decide +kernel
theorem dX11_isTooMuch_65 : decode cX11_isTooMuch 65 = .ok (.iload 5, 2) := by decide +kernel
theorem dX11_isTooMuch_67 : decode cX11_isTooMuch 67 = .ok (.iload_n 1, 1) := by decide +kernel
theorem dX11_isTooMuch_68 : decode cX11_isTooMuch 68 = .ok (.if_icmp .ge 7, 3) := by decide +kernel
theorem dX11_isTooMuch_71 : decode cX11_isTooMuch 71 = .ok (.iconst 1, 1) := by decide +kernel
theorem dX11_isTooMuch_72 : decode cX11_isTooMuch 72 = .ok (.goto 4, 3) := by decide +kernel
theorem dX11_isTooMuch_75 : decode cX11_isTooMuch 75 = .ok (.iconst 0, 1) := by decide +kernel
theorem dX11_isTooMuch_76 : decode cX11_isTooMuch 76 = .ok (.istore 4, 2) := by decide +kernel
theorem dX11_isTooMuch_78 : decode cX11_isTooMuch 78 = .ok (.iinc 5 1, 3) := by decide +kernel
theorem dX11_isTooMuch_81 : decode cX11_isTooMuch 81 = .ok (.goto (-64), 3) := by decide +kernel
theorem dX11_isTooMuch_84 : decode cX11_isTooMuch 84 = .ok (.iload 4, 2) := by decide +kernel
theorem dX11_isTooMuch_86 : decode cX11_isTooMuch 86 = .ok (.ireturn, 1) := by decide +kernel
theorem dX11_pushQuotient_0 : decode cX11_pushQuotient 0 = .ok (.aload_n 0, 1) := by decide +kernel
theorem dX11_pushQuotient_1 : decode cX11_pushQuotient 1 = .ok (.iload_n 2, 1) := by decide +kernel
theorem dX11_pushQuotient_2 : decode cX11_pushQuotient 2 = .ok (.invokevirtual 246, 3) := by decide +kernel
theorem dX11_pushQuotient_5 : decode cX11_pushQuotient 5 = .ok (.iconst 0, 1) := by decide +kernel
theorem dX11_pushQuotient_6 : decode cX11_pushQuotient 6 = .ok (.istore_n 3, 1) := by decide +kernel
theorem dX11_pushQuotient_7 : decode cX11_pushQuotient 7 = .ok (.iload_n 3, 1) := by decide +kernel
theorem dX11_pushQuotient_8 : decode cX11_pushQuotient 8 = .ok (.aload_n 0, 1) := by decide +kernel
theorem dX11_pushQuotient_9 : decode cX11_pushQuotient 9 = .ok (.getfield 240, 3) := by decide +kernel
theorem dX11_pushQuotient_12 : decode cX11_pushQuotient 12 = .ok (.if_icmp .ge 32, 3) := by decide +kernel
theorem dX11_pushQuotient_15 : decode cX11_pushQuotient 15 = .ok (.aload_n 0, 1) := by decide +kernel
theorem dX11_pushQuotient_16 : decode cX11_pushQuotient 16 = .ok (.iload_n 3, 1) := by decide +kernel
theorem dX11_pushQuotient_17 : decode cX11_pushQuotient 17 = .ok (.iload_n 1, 1) := by decide +kernel
theorem dX11_pushQuotient_18 : decode cX11_pushQuotient 18 = .ok (.invokevirtual 255, 3) := by decide +kernel
theorem dX11_pushQuotient_21 : decode cX11_pushQuotient 21 = .ok (.ifCond .ne 17, 3) := by decide +kernel
theorem dX11_pushQuotient_24 : decode cX11_pushQuotient 24 = .ok (.aload_n 0, 1) := by decide +kernel
theorem dX11_pushQuotient_25 : decode cX11_pushQuotient 25 = .ok (.aload_n 0, 1) := by decide +kernel
theorem dX11_pushQuotient_26 : decode cX11_pushQuotient 26 = .ok (.getfield 47, 3) := by decide +kernel
theorem dX11_pushQuotient_29 : decode cX11_pushQuotient 29 = .ok (.iload_n 3, 1) := by decide +kernel
theorem dX11_pushQuotient_30 : decode cX11_pushQuotient 30 = .ok (.iaload, 1) := by decide +kernel
theorem dX11_pushQuotient_31 : decode cX11_pushQuotient 31 = .ok (.iload_n 1, 1) := by decide +kernel
theorem dX11_pushQuotient_32 : decode cX11_pushQuotient 32 = .ok (.invokestatic 252, 3) := by decide +kernel
theorem dX11_pushQuotient_35 : decode cX11_pushQuotient 35 = .ok (.invokevirtual 249, 3) := by decide +kernel
theorem dX11_pushQuotient_38 : decode cX11_pushQuotient 38 = .ok (.iinc 3 1, 3) := by decide +kernel
theorem dX11_pushQuotient_41 : decode cX11_pushQuotient 41 = .ok (.goto (-34), 3) := by decide +kernel
theorem dX11_pushQuotient_44 : decode cX11_pushQuotient 44 = .ok (.aload_n 0, 1) := by decide +kernel
theorem dX11_pushQuotient_45 : decode cX11_pushQuotient 45 = .ok (.dup, 1) := by decide +kernel
theorem dX11_pushQuotient_46 : decode cX11_pushQuotient 46 = .ok (.getfield 243, 3) := by decide +kernel
theorem dX11_pushQuotient_49 : decode cX11_pushQuotient 49 = .ok (.iconst 1, 1) := by decide +kernel
theorem dX11_pushQuotient_50 : decode cX11_pushQuotient 50 = .ok (.iadd, 1) := by decide +kernel
theorem dX11_pushQuotient_51 : decode cX11_pushQuotient 51 = .ok (.putfield 243, 3) := by decide +kernel
theorem dX11_pushQuotient_54 : decode cX11_pushQuotient 54 = .ok (.return_, 1) := by decide +kernel
theorem dX11_popList_0 : decode cX11_popList 0 = .ok (.aload_n 0, 1) := by decide +kernel
theorem dX11_popList_1 : decode cX11_popList 1 = .ok (.dup, 1) := by decide +kernel
theorem dX11_popList_2 : decode cX11_popList 2 = .ok (.getfield 243, 3) := by decide +kernel
theorem dX11_popList_5 : decode cX11_popList 5 = .ok (.iconst 1, 1) := by decide +kernel
theorem dX11_popList_6 : decode cX11_popList 6 = .ok (.isub, 1) := by decide +kernel
theorem dX11_popList_7 : decode cX11_popList 7 = .ok (.putfield 243, 3) := by decide +kernel
theorem dX11_popList_10 : decode cX11_popList 10 = .ok (.aload_n 0, 1) := by decide +kernel
theorem dX11_popList_11 : decode cX11_popList 11 = .ok (.aload_n 0, 1) := by decide +kernel
theorem dX11_popList_12 : decode cX11_popList 12 = .ok (.getfield 41, 3) := by decide +kernel
theorem dX11_popList_15 : decode cX11_popList 15 = .ok (.aload_n 0, 1) := by decide +kernel
theorem dX11_popList_16 : decode cX11_popList 16 = .ok (.getfield 243, 3) := by decide +kernel
theorem dX11_popList_19 : decode cX11_popList 19 = .ok (.iaload, 1) := by decide +kernel
theorem dX11_popList_20 : decode cX11_popList 20 = .ok (.putfield 240, 3) := by decide +kernel
theorem dX11_popList_23 : decode cX11_popList 23 = .ok (.iconst 0, 1) := by decide +kernel
theorem dX11_popList_24 : decode cX11_popList 24 = .ok (.istore_n 1, 1) := by decide +kernel
theorem dX11_popList_25 : decode cX11_popList 25 = .ok (.iload_n 1, 1) := by decide +kernel
theorem dX11_popList_26 : decode cX11_popList 26 = .ok (.aload_n 0, 1) := by decide +kernel
theorem dX11_popList_27 : decode cX11_popList 27 = .ok (.getfield 240, 3) := by decide +kernel
theorem dX11_popList_30 : decode cX11_popList 30 = .ok (.if_icmp .ge 29, 3) := by decide +kernel
theorem dX11_popList_33 : decode cX11_popList 33 = .ok (.aload_n 0, 1) := by decide +kernel
theorem dX11_popList_34 : decode cX11_popList 34 = .ok (.getfield 47, 3) := by decide +kernel
theorem dX11_popList_37 : decode cX11_popList 37 = .ok (.iload_n 1, 1) := by decide +kernel
theorem dX11_popList_38 : decode cX11_popList 38 = .ok (.aload_n 0, 1) := by decide +kernel
theorem dX11_popList_39 : decode cX11_popList 39 = .ok (.getfield 38, 3) := by decide +kernel
theorem dX11_popList_42 : decode cX11_popList 42 = .ok (.bipush 40, 2) := by decide +kernel
theorem dX11_popList_44 : decode cX11_popList 44 = .ok (.aload_n 0, 1) := by decide +kernel
theorem dX11_popList_45 : decode cX11_popList 45 = .ok (.getfield 243, 3) := by decide +kernel
theorem dX11_popList_48 : decode cX11_popList 48 = .ok (.imul, 1) := by decide +kernel
theorem dX11_popList_49 : decode cX11_popList 49 = .ok (.iload_n 1, 1) := by decide +kernel
theorem dX11_popList_50 : decode cX11_popList 50 = .ok (.iadd, 1) := by decide +kernel
theorem dX11_popList_51 : decode cX11_popList 51 = .ok (.iaload, 1) := by decide +kernel
theorem dX11_popList_52 : decode cX11_popList 52 = .ok (.iastore, 1) := by decide +kernel
theorem dX11_popList_53 : decode cX11_popList 53 = .ok (.iinc 1 1, 3) := by decide +kernel
theorem dX11_popList_56 : decode cX11_popList 56 = .ok (.goto (-31), 3) := by decide +kernel
theorem dX11_popList_59 : decode cX11_popList 59 = .ok (.return_, 1) := by decide +kernel
theorem dX11_findTree_0 : decode cX11_findTree 0 = .ok (.aload_n 0, 1) := by decide +kernel
theorem dX11_findTree_1 : decode cX11_findTree 1 = .ok (.iconst 0, 1) := by decide +kernel
theorem dX11_findTree_2 : decode cX11_findTree 2 = .ok (.putfield 243, 3) := by decide +kernel
theorem dX11_findTree_5 : decode cX11_findTree 5 = .ok (.aload_n 0, 1) := by decide +kernel
theorem dX11_findTree_6 : decode cX11_findTree 6 = .ok (.iconst 0, 1) := by decide +kernel
theorem dX11_findTree_7 : decode cX11_findTree 7 = .ok (.invokevirtual 246, 3) := by decide +kernel
theorem dX11_findTree_10 : decode cX11_findTree 10 = .ok (.iconst 0, 1) := by decide +kernel
theorem dX11_findTree_11 : decode cX11_findTree 11 = .ok (.istore_n 2, 1) := by decide +kernel
theorem dX11_findTree_12 : decode cX11_findTree 12 = .ok (.iload_n 2, 1) := by decide +kernel
theorem dX11_findTree_13 : decode cX11_findTree 13 = .ok (.aload_n 0, 1) := by decide +kernel
theorem dX11_findTree_14 : decode cX11_findTree 14 = .ok (.getfield 13, 3) := by decide +kernel
theorem dX11_findTree_17 : decode cX11_findTree 17 = .ok (.iload_n 1, 1) := by decide +kernel
theorem dX11_findTree_18 : decode cX11_findTree 18 = .ok (.iaload, 1) := by decide +kernel
theorem dX11_findTree_19 : decode cX11_findTree 19 = .ok (.if_icmp .ge 19, 3) := by decide +kernel
theorem dX11_findTree_22 : decode cX11_findTree 22 = .ok (.aload_n 0, 1) := by decide +kernel
theorem dX11_findTree_23 : decode cX11_findTree 23 = .ok (.aload_n 0, 1) := by decide +kernel
theorem dX11_findTree_24 : decode cX11_findTree 24 = .ok (.iload_n 1, 1) := by decide +kernel
theorem dX11_findTree_25 : decode cX11_findTree 25 = .ok (.iload_n 2, 1) := by decide +kernel
theorem dX11_findTree_26 : decode cX11_findTree 26 = .ok (.invokevirtual 86, 3) := by decide +kernel
theorem dX11_findTree_29 : decode cX11_findTree 29 = .ok (.invokevirtual 249, 3) := by decide +kernel
theorem dX11_findTree_32 : decode cX11_findTree 32 = .ok (.iinc 2 1, 3) := by decide +kernel
theorem dX11_findTree_35 : decode cX11_findTree 35 = .ok (.goto (-23), 3) := by decide +kernel
theorem dX11_findTree_38 : decode cX11_findTree 38 = .ok (.aload_n 0, 1) := by decide +kernel
theorem dX11_findTree_39 : decode cX11_findTree 39 = .ok (.iconst 1, 1) := by decide +kernel
theorem dX11_findTree_40 : decode cX11_findTree 40 = .ok (.putfield 243, 3) := by decide +kernel
theorem dX11_findTree_43 : decode cX11_findTree 43 = .ok (.aload_n 0, 1) := by decide +kernel
theorem dX11_findTree_44 : decode cX11_findTree 44 = .ok (.iconst 0, 1) := by decide +kernel
theorem dX11_findTree_45 : decode cX11_findTree 45 = .ok (.putfield 258, 3) := by decide +kernel
theorem dX11_findTree_48 : decode cX11_findTree 48 = .ok (.aload_n 0, 1) := by decide +kernel
theorem dX11_findTree_49 : decode cX11_findTree 49 = .ok (.iconst 0, 1) := by decide +kernel
theorem dX11_findTree_50 : decode cX11_findTree 50 = .ok (.putfield 261, 3) := by decide +kernel
theorem dX11_findTree_53 : decode cX11_findTree 53 = .ok (.aload_n 0, 1) := by decide +kernel
theorem dX11_findTree_54 : decode cX11_findTree 54 = .ok (.getfield 243, 3) := by decide +kernel
theorem dX11_findTree_57 : decode cX11_findTree 57 = .ok (.ifCond .le 68, 3) := by decide +kernel
theorem dX11_findTree_60 : decode cX11_findTree 60 = .ok (.aload_n 0, 1) := by decide +kernel
theorem dX11_findTree_61 : decode cX11_findTree 61 = .ok (.invokevirtual 264, 3) := by decide +kernel
theorem dX11_findTree_64 : decode cX11_findTree 64 = .ok (.aload_n 0, 1) := by decide +kernel
theorem dX11_findTree_65 : decode cX11_findTree 65 = .ok (.getfield 44, 3) := by decide +kernel
theorem dX11_findTree_68 : decode cX11_findTree 68 = .ok (.aload_n 0, 1) := by decide +kernel
theorem dX11_findTree_69 : decode cX11_findTree 69 = .ok (.getfield 243, 3) := by decide +kernel
theorem dX11_findTree_72 : decode cX11_findTree 72 = .ok (.iaload, 1) := by decide +kernel
theorem dX11_findTree_73 : decode cX11_findTree 73 = .ok (.iconst 1, 1) := by decide +kernel
theorem dX11_findTree_74 : decode cX11_findTree 74 = .ok (.iadd, 1) := by decide +kernel
theorem dX11_findTree_75 : decode cX11_findTree 75 = .ok (.istore_n 2, 1) := by decide +kernel
theorem dX11_findTree_76 : decode cX11_findTree 76 = .ok (.aload_n 0, 1) := by decide +kernel
theorem dX11_findTree_77 : decode cX11_findTree 77 = .ok (.invokevirtual 267, 3) := by decide +kernel
theorem dX11_findTree_80 : decode cX11_findTree 80 = .ok (.ifCond .ne 42, 3) := by decide +kernel
theorem dX11_findTree_83 : decode cX11_findTree 83 = .ok (.aload_n 0, 1) := by decide +kernel
theorem dX11_findTree_84 : decode cX11_findTree 84 = .ok (.invokevirtual 271, 3) := by decide +kernel
theorem dX11_findTree_87 : decode cX11_findTree 87 = .ok (.istore_n 3, 1) := by decide +kernel
theorem dX11_findTree_88 : decode cX11_findTree 88 = .ok (.aload_n 0, 1) := by decide +kernel
theorem dX11_findTree_89 : decode cX11_findTree 89 = .ok (.dup, 1) := by decide +kernel
theorem dX11_findTree_90 : decode cX11_findTree 90 = .ok (.getfield 258, 3) := by decide +kernel
theorem dX11_findTree_93 : decode cX11_findTree 93 = .ok (.iconst 1, 1) := by decide +kernel
theorem dX11_findTree_94 : decode cX11_findTree 94 = .ok (.iadd, 1) := by decide +kernel
theorem dX11_findTree_95 : decode cX11_findTree 95 = .ok (.putfield 258, 3) := by decide +kernel
theorem dX11_findTree_98 : decode cX11_findTree 98 = .ok (.aload_n 0, 1) := by decide +kernel
theorem dX11_findTree_99 : decode cX11_findTree 99 = .ok (.aload_n 0, 1) := by decide +kernel
theorem dX11_findTree_100 : decode cX11_findTree 100 = .ok (.getfield 261, 3) := by decide +kernel
theorem dX11_findTree_103 : decode cX11_findTree 103 = .ok (.iload_n 2, 1) := by decide +kernel
theorem dX11_findTree_104 : decode cX11_findTree 104 = .ok (.invokestatic 80, 3) := by decide +kernel
theorem dX11_findTree_107 : decode cX11_findTree 107 = .ok (.putfield 261, 3) := by decide +kernel
theorem dX11_findTree_110 : decode cX11_findTree 110 = .ok (.aload_n 0, 1) := by decide +kernel
theorem dX11_findTree_111 : decode cX11_findTree 111 = .ok (.iload_n 3, 1) := by decide +kernel
theorem dX11_findTree_112 : decode cX11_findTree 112 = .ok (.iload_n 2, 1) := by decide +kernel
theorem dX11_findTree_113 : decode cX11_findTree 113 = .ok (.invokevirtual 274, 3) := by decide +kernel
theorem dX11_findTree_116 : decode cX11_findTree 116 = .ok (.aload_n 0, 1) := by decide +kernel
theorem dX11_findTree_117 : decode cX11_findTree 117 = .ok (.iload_n 3, 1) := by decide +kernel
theorem dX11_findTree_118 : decode cX11_findTree 118 = .ok (.iload_n 2, 1) := by decide +kernel
theorem dX11_findTree_119 : decode cX11_findTree 119 = .ok (.invokevirtual 278, 3) := by decide +kernel
theorem dX11_findTree_122 : decode cX11_findTree 122 = .ok (.goto (-69), 3) := by decide +kernel
theorem dX11_findTree_125 : decode cX11_findTree 125 = .ok (.return_, 1) := by decide +kernel
theorem dX11_findLattice_0 : decode cX11_findLattice 0 = .ok (.iconst 0, 1) := by decide +kernel
theorem dX11_findLattice_1 : decode cX11_findLattice 1 = .ok (.istore_n 2, 1) := by decide +kernel
theorem dX11_findLattice_2 : decode cX11_findLattice 2 = .ok (.iload_n 2, 1) := by decide +kernel
theorem dX11_findLattice_3 : decode cX11_findLattice 3 = .ok (.sipush 2401, 3) := by decide +kernel
theorem dX11_findLattice_6 : decode cX11_findLattice 6 = .ok (.if_icmp .ge 16, 3) := by decide +kernel
theorem dX11_findLattice_9 : decode cX11_findLattice 9 = .ok (.aload_n 0, 1) := by decide +kernel
theorem dX11_findLattice_10 : decode cX11_findLattice 10 = .ok (.getfield 50, 3) := by decide +kernel
theorem dX11_findLattice_13 : decode cX11_findLattice 13 = .ok (.iload_n 2, 1) := by decide +kernel
theorem dX11_findLattice_14 : decode cX11_findLattice 14 = .ok (.iconst 0, 1) := by decide +kernel
theorem dX11_findLattice_15 : decode cX11_findLattice 15 = .ok (.bastore, 1) := by decide +kernel
theorem dX11_findLattice_16 : decode cX11_findLattice 16 = .ok (.iinc 2 1, 3) := by decide +kernel
theorem dX11_findLattice_19 : decode cX11_findLattice 19 = .ok (.goto (-17), 3) := by decide +kernel
theorem dX11_findLattice_22 : decode cX11_findLattice 22 = .ok (.iconst 0, 1) := by decide +kernel
theorem dX11_findLattice_23 : decode cX11_findLattice 23 = .ok (.istore_n 2, 1) := by decide +kernel
theorem dX11_findLattice_24 : decode cX11_findLattice 24 = .ok (.iload_n 2, 1) := by decide +kernel
theorem dX11_findLattice_25 : decode cX11_findLattice 25 = .ok (.aload_n 0, 1) := by decide +kernel
theorem dX11_findLattice_26 : decode cX11_findLattice 26 = .ok (.getfield 13, 3) := by decide +kernel
theorem dX11_findLattice_29 : decode cX11_findLattice 29 = .ok (.iload_n 1, 1) := by decide +kernel
theorem dX11_findLattice_30 : decode cX11_findLattice 30 = .ok (.iaload, 1) := by decide +kernel
theorem dX11_findLattice_31 : decode cX11_findLattice 31 = .ok (.if_icmp .ge 96, 3) := by decide +kernel
theorem dX11_findLattice_34 : decode cX11_findLattice 34 = .ok (.sipush 2400, 3) := by decide +kernel
theorem dX11_findLattice_37 : decode cX11_findLattice 37 = .ok (.istore_n 3, 1) := by decide +kernel
theorem dX11_findLattice_38 : decode cX11_findLattice 38 = .ok (.iload_n 3, 1) := by decide +kernel
theorem dX11_findLattice_39 : decode cX11_findLattice 39 = .ok (.ifCond .lt 21, 3) := by decide +kernel
theorem dX11_findLattice_42 : decode cX11_findLattice 42 = .ok (.aload_n 0, 1) := by decide +kernel
theorem dX11_findLattice_43 : decode cX11_findLattice 43 = .ok (.getfield 19, 3) := by decide +kernel
theorem dX11_findLattice_46 : decode cX11_findLattice 46 = .ok (.iload_n 3, 1) := by decide +kernel
theorem dX11_findLattice_47 : decode cX11_findLattice 47 = .ok (.aload_n 0, 1) := by decide +kernel
theorem dX11_findLattice_48 : decode cX11_findLattice 48 = .ok (.getfield 50, 3) := by decide +kernel
theorem dX11_findLattice_51 : decode cX11_findLattice 51 = .ok (.iload_n 3, 1) := by decide +kernel
theorem dX11_findLattice_52 : decode cX11_findLattice 52 = .ok (.baload, 1) := by decide +kernel
theorem dX11_findLattice_53 : decode cX11_findLattice 53 = .ok (.bastore, 1) := by decide +kernel
theorem dX11_findLattice_54 : decode cX11_findLattice 54 = .ok (.iinc 3 (-1), 3) := by decide +kernel
theorem dX11_findLattice_57 : decode cX11_findLattice 57 = .ok (.goto (-19), 3) := by decide +kernel
theorem dX11_findLattice_60 : decode cX11_findLattice 60 = .ok (.iconst 0, 1) := by decide +kernel
theorem dX11_findLattice_61 : decode cX11_findLattice 61 = .ok (.istore_n 3, 1) := by decide +kernel
theorem dX11_findLattice_62 : decode cX11_findLattice 62 = .ok (.iload_n 3, 1) := by decide +kernel
theorem dX11_findLattice_63 : decode cX11_findLattice 63 = .ok (.sipush 2401, 3) := by decide +kernel
theorem dX11_findLattice_66 : decode cX11_findLattice 66 = .ok (.if_icmp .ge 40, 3) := by decide +kernel
theorem dX11_findLattice_69 : decode cX11_findLattice 69 = .ok (.aload_n 0, 1) := by decide +kernel
theorem dX11_findLattice_70 : decode cX11_findLattice 70 = .ok (.getfield 19, 3) := by decide +kernel
theorem dX11_findLattice_73 : decode cX11_findLattice 73 = .ok (.iload_n 3, 1) := by decide +kernel
theorem dX11_findLattice_74 : decode cX11_findLattice 74 = .ok (.baload, 1) := by decide +kernel
theorem dX11_findLattice_75 : decode cX11_findLattice 75 = .ok (.ifCond .eq 25, 3) := by decide +kernel
theorem dX11_findLattice_78 : decode cX11_findLattice 78 = .ok (.aload_n 0, 1) := by decide +kernel
theorem dX11_findLattice_79 : decode cX11_findLattice 79 = .ok (.getfield 50, 3) := by decide +kernel
theorem dX11_findLattice_82 : decode cX11_findLattice 82 = .ok (.iload_n 3, 1) := by decide +kernel
theorem dX11_findLattice_83 : decode cX11_findLattice 83 = .ok (.invokestatic 93, 3) := by decide +kernel
theorem dX11_findLattice_86 : decode cX11_findLattice 86 = .ok (.aload_n 0, 1) := by decide +kernel
theorem dX11_findLattice_87 : decode cX11_findLattice 87 = .ok (.iload_n 1, 1) := by decide +kernel
theorem dX11_findLattice_88 : decode cX11_findLattice 88 = .ok (.iload_n 2, 1) := by decide +kernel
theorem dX11_findLattice_89 : decode cX11_findLattice 89 = .ok (.invokevirtual 86, 3) := by decide +kernel
theorem dX11_findLattice_92 : decode cX11_findLattice 92 = .ok (.invokestatic 281, 3) := by decide +kernel
theorem dX11_findLattice_95 : decode cX11_findLattice 95 = .ok (.invokestatic 96, 3) := by decide +kernel
theorem dX11_findLattice_98 : decode cX11_findLattice 98 = .ok (.iconst 1, 1) := by decide +kernel
theorem dX11_findLattice_99 : decode cX11_findLattice 99 = .ok (.bastore, 1) := by decide +kernel
theorem dX11_findLattice_100 : decode cX11_findLattice 100 = .ok (.iinc 3 1, 3) := by decide +kernel
theorem dX11_findLattice_103 : decode cX11_findLattice 103 = .ok (.goto (-41), 3) := by decide +kernel
theorem dX11_findLattice_106 : decode cX11_findLattice 106 = .ok (.aload_n 0, 1) := by decide +kernel
theorem dX11_findLattice_107 : decode cX11_findLattice 107 = .ok (.getfield 50, 3) := by decide +kernel
theorem dX11_findLattice_110 : decode cX11_findLattice 110 = .ok (.aload_n 0, 1) := by decide +kernel
theorem dX11_findLattice_111 : decode cX11_findLattice 111 = .ok (.iload_n 1, 1) := by decide +kernel
theorem dX11_findLattice_112 : decode cX11_findLattice 112 = .ok (.iload_n 2, 1) := by decide +kernel
theorem dX11_findLattice_113 : decode cX11_findLattice 113 = .ok (.invokevirtual 86, 3) := by decide +kernel
theorem dX11_findLattice_116 : decode cX11_findLattice 116 = .ok (.invokestatic 96, 3) := by decide +kernel
theorem dX11_findLattice_119 : decode cX11_findLattice 119 = .ok (.iconst 1, 1) := by decide +kernel
theorem dX11_findLattice_120 : decode cX11_findLattice 120 = .ok (.bastore, 1) := by decide +kernel
theorem dX11_findLattice_121 : decode cX11_findLattice 121 = .ok (.iinc 2 1, 3) := by decide +kernel
theorem dX11_findLattice_124 : decode cX11_findLattice 124 = .ok (.goto (-100), 3) := by decide +kernel
theorem dX11_findLattice_127 : decode cX11_findLattice 127 = .ok (.return_, 1) := by decide +kernel
theorem dX11_latticeMany_0 : decode cX11_latticeMany 0 = .ok (.aload_n 0, 1) := by decide +kernel
theorem dX11_latticeMany_1 : decode cX11_latticeMany 1 = .ok (.iload_n 1, 1) := by decide +kernel
theorem dX11_latticeMany_2 : decode cX11_latticeMany 2 = .ok (.invokevirtual 284, 3) := by decide +kernel
theorem dX11_latticeMany_5 : decode cX11_latticeMany 5 = .ok (.iconst 0, 1) := by decide +kernel
theorem dX11_latticeMany_6 : decode cX11_latticeMany 6 = .ok (.istore_n 2, 1) := by decide +kernel
theorem dX11_latticeMany_7 : decode cX11_latticeMany 7 = .ok (.iconst 0, 1) := by decide +kernel
theorem dX11_latticeMany_8 : decode cX11_latticeMany 8 = .ok (.istore_n 3, 1) := by decide +kernel
theorem dX11_latticeMany_9 : decode cX11_latticeMany 9 = .ok (.iload_n 3, 1) := by decide +kernel
theorem dX11_latticeMany_10 : decode cX11_latticeMany 10 = .ok (.sipush 2401, 3) := by decide +kernel
theorem dX11_latticeMany_13 : decode cX11_latticeMany 13 = .ok (.if_icmp .ge 26, 3) := by decide +kernel
theorem dX11_latticeMany_16 : decode cX11_latticeMany 16 = .ok (.iload_n 2, 1) := by decide +kernel
theorem dX11_latticeMany_17 : decode cX11_latticeMany 17 = .ok (.aload_n 0, 1) := by decide +kernel
theorem dX11_latticeMany_18 : decode cX11_latticeMany 18 = .ok (.getfield 50, 3) := by decide +kernel
theorem dX11_latticeMany_21 : decode cX11_latticeMany 21 = .ok (.iload_n 3, 1) := by decide +kernel
theorem dX11_latticeMany_22 : decode cX11_latticeMany 22 = .ok (.baload, 1) := by decide +kernel
theorem dX11_latticeMany_23 : decode cX11_latticeMany 23 = .ok (.ifCond .eq 7, 3) := by decide +kernel
theorem dX11_latticeMany_26 : decode cX11_latticeMany 26 = .ok (.iconst 1, 1) := by decide +kernel
theorem dX11_latticeMany_27 : decode cX11_latticeMany 27 = .ok (.goto 4, 3) := by decide +kernel
theorem dX11_latticeMany_30 : decode cX11_latticeMany 30 = .ok (.iconst 0, 1) := by decide +kernel
theorem dX11_latticeMany_31 : decode cX11_latticeMany 31 = .ok (.iadd, 1) := by decide +kernel
theorem dX11_latticeMany_32 : decode cX11_latticeMany 32 = .ok (.istore_n 2, 1) := by decide +kernel
theorem dX11_latticeMany_33 : decode cX11_latticeMany 33 = .ok (.iinc 3 1, 3) := by decide +kernel
theorem dX11_latticeMany_36 : decode cX11_latticeMany 36 = .ok (.goto (-27), 3) := by decide +kernel
theorem dX11_latticeMany_39 : decode cX11_latticeMany 39 = .ok (.iload_n 2, 1) := by decide +kernel
theorem dX11_latticeMany_40 : decode cX11_latticeMany 40 = .ok (.ireturn, 1) := by decide +kernel
theorem dX11_sizeTold_0 : decode cX11_sizeTold 0 = .ok (.aload_n 0, 1) := by decide +kernel
theorem dX11_sizeTold_1 : decode cX11_sizeTold 1 = .ok (.iload_n 1, 1) := by decide +kernel
theorem dX11_sizeTold_2 : decode cX11_sizeTold 2 = .ok (.invokevirtual 207, 3) := by decide +kernel
theorem dX11_sizeTold_5 : decode cX11_sizeTold 5 = .ok (.aload_n 0, 1) := by decide +kernel
theorem dX11_sizeTold_6 : decode cX11_sizeTold 6 = .ok (.getfield 195, 3) := by decide +kernel
theorem dX11_sizeTold_9 : decode cX11_sizeTold 9 = .ok (.ifCond .ne 7, 3) := by decide +kernel
theorem dX11_sizeTold_12 : decode cX11_sizeTold 12 = .ok (.iconst 0, 1) := by decide +kernel
theorem dX11_sizeTold_13 : decode cX11_sizeTold 13 = .ok (.goto 8, 3) := by decide +kernel
theorem dX11_sizeTold_16 : decode cX11_sizeTold 16 = .ok (.aload_n 0, 1) := by decide +kernel
theorem dX11_sizeTold_17 : decode cX11_sizeTold 17 = .ok (.iload_n 1, 1) := by decide +kernel
theorem dX11_sizeTold_18 : decode cX11_sizeTold 18 = .ok (.invokevirtual 287, 3) := by decide +kernel
theorem dX11_sizeTold_21 : decode cX11_sizeTold 21 = .ok (.ireturn, 1) := by decide +kernel
theorem dX11_facts_0 : decode cX11_facts 0 = .ok (.iload_n 1, 1) := by decide +kernel
theorem dX11_facts_1 : decode cX11_facts 1 = .ok (.invokestatic 128, 3) := by decide +kernel
theorem dX11_facts_4 : decode cX11_facts 4 = .ok (.ifCond .ne 5, 3) := by decide +kernel
theorem dX11_facts_7 : decode cX11_facts 7 = .ok (.iconst (-1), 1) := by decide +kernel
theorem dX11_facts_8 : decode cX11_facts 8 = .ok (.ireturn, 1) := by decide +kernel
theorem dX11_facts_9 : decode cX11_facts 9 = .ok (.iload_n 2, 1) := by decide +kernel
theorem dX11_facts_10 : decode cX11_facts 10 = .ok (.i2l, 1) := by decide +kernel
theorem dX11_facts_11 : decode cX11_facts 11 = .ok (.lconst 0, 1) := by decide +kernel
theorem dX11_facts_12 : decode cX11_facts 12 = .ok (.ldc2_w 179, 3) := by decide +kernel
theorem dX11_facts_15 : decode cX11_facts 15 = .ok (.invokestatic 64, 3) := by decide +kernel
theorem dX11_facts_18 : decode cX11_facts 18 = .ok (.ifCond .ne 6, 3) := by decide +kernel
theorem dX11_facts_21 : decode cX11_facts 21 = .ok (.bipush (-2), 2) := by decide +kernel
theorem dX11_facts_23 : decode cX11_facts 23 = .ok (.ireturn, 1) := by decide +kernel
theorem dX11_facts_24 : decode cX11_facts 24 = .ok (.iload_n 2, 1) := by decide +kernel
theorem dX11_facts_25 : decode cX11_facts 25 = .ok (.tableswitch 57 0 4 #[35, 45, 57, 57, 51], 35) := by decide +kernel
theorem dX11_facts_60 : decode cX11_facts 60 = .ok (.aload_n 0, 1) := by decide +kernel
theorem dX11_facts_61 : decode cX11_facts 61 = .ok (.iload_n 1, 1) := by decide +kernel
theorem dX11_facts_62 : decode cX11_facts 62 = .ok (.invokevirtual 207, 3) := by decide +kernel
theorem dX11_facts_65 : decode cX11_facts 65 = .ok (.aload_n 0, 1) := by decide +kernel
theorem dX11_facts_66 : decode cX11_facts 66 = .ok (.invokevirtual 237, 3) := by decide +kernel
theorem dX11_facts_69 : decode cX11_facts 69 = .ok (.ireturn, 1) := by decide +kernel
theorem dX11_facts_70 : decode cX11_facts 70 = .ok (.aload_n 0, 1) := by decide +kernel
theorem dX11_facts_71 : decode cX11_facts 71 = .ok (.iload_n 1, 1) := by decide +kernel
theorem dX11_facts_72 : decode cX11_facts 72 = .ok (.invokevirtual 290, 3) := by decide +kernel
theorem dX11_facts_75 : decode cX11_facts 75 = .ok (.ireturn, 1) := by decide +kernel
theorem dX11_facts_76 : decode cX11_facts 76 = .ok (.aload_n 0, 1) := by decide +kernel
theorem dX11_facts_77 : decode cX11_facts 77 = .ok (.iload_n 1, 1) := by decide +kernel
theorem dX11_facts_78 : decode cX11_facts 78 = .ok (.invokevirtual 293, 3) := by decide +kernel
theorem dX11_facts_81 : decode cX11_facts 81 = .ok (.ireturn, 1) := by decide +kernel
theorem dX11_facts_82 : decode cX11_facts 82 = .ok (.aload_n 0, 1) := by decide +kernel
theorem dX11_facts_83 : decode cX11_facts 83 = .ok (.iload_n 1, 1) := by decide +kernel
theorem dX11_facts_84 : decode cX11_facts 84 = .ok (.invokevirtual 296, 3) := by decide +kernel
theorem dX11_facts_87 : decode cX11_facts 87 = .ok (.iload_n 2, 1) := by decide +kernel
theorem dX11_facts_88 : decode cX11_facts 88 = .ok (.iconst 2, 1) := by decide +kernel
theorem dX11_facts_89 : decode cX11_facts 89 = .ok (.if_icmp .ne 10, 3) := by decide +kernel
theorem dX11_facts_92 : decode cX11_facts 92 = .ok (.aload_n 0, 1) := by decide +kernel
theorem dX11_facts_93 : decode cX11_facts 93 = .ok (.getfield 258, 3) := by decide +kernel
theorem dX11_facts_96 : decode cX11_facts 96 = .ok (.goto 7, 3) := by decide +kernel
theorem dX11_facts_99 : decode cX11_facts 99 = .ok (.aload_n 0, 1) := by decide +kernel
theorem dX11_facts_100 : decode cX11_facts 100 = .ok (.getfield 261, 3) := by decide +kernel
theorem dX11_facts_103 : decode cX11_facts 103 = .ok (.ireturn, 1) := by decide +kernel
theorem dX11_without_0 : decode cX11_without 0 = .ok (.iload_n 0, 1) := by decide +kernel
theorem dX11_without_1 : decode cX11_without 1 = .ok (.istore_n 2, 1) := by decide +kernel
theorem dX11_without_2 : decode cX11_without 2 = .ok (.iconst 0, 1) := by decide +kernel
theorem dX11_without_3 : decode cX11_without 3 = .ok (.istore_n 3, 1) := by decide +kernel
theorem dX11_without_4 : decode cX11_without 4 = .ok (.iload_n 3, 1) := by decide +kernel
theorem dX11_without_5 : decode cX11_without 5 = .ok (.iconst 4, 1) := by decide +kernel
theorem dX11_without_6 : decode cX11_without 6 = .ok (.if_icmp .ge 22, 3) := by decide +kernel
theorem dX11_without_9 : decode cX11_without 9 = .ok (.iload_n 2, 1) := by decide +kernel
theorem dX11_without_10 : decode cX11_without 10 = .ok (.iload_n 1, 1) := by decide +kernel
theorem dX11_without_11 : decode cX11_without 11 = .ok (.iload_n 3, 1) := by decide +kernel
theorem dX11_without_12 : decode cX11_without 12 = .ok (.ishr, 1) := by decide +kernel
theorem dX11_without_13 : decode cX11_without 13 = .ok (.iconst 1, 1) := by decide +kernel
theorem dX11_without_14 : decode cX11_without 14 = .ok (.iand, 1) := by decide +kernel
theorem dX11_without_15 : decode cX11_without 15 = .ok (.iload_n 3, 1) := by decide +kernel
theorem dX11_without_16 : decode cX11_without 16 = .ok (.invokestatic 70, 3) := by decide +kernel
theorem dX11_without_19 : decode cX11_without 19 = .ok (.imul, 1) := by decide +kernel
theorem dX11_without_20 : decode cX11_without 20 = .ok (.isub, 1) := by decide +kernel
theorem dX11_without_21 : decode cX11_without 21 = .ok (.istore_n 2, 1) := by decide +kernel
theorem dX11_without_22 : decode cX11_without 22 = .ok (.iinc 3 1, 3) := by decide +kernel
theorem dX11_without_25 : decode cX11_without 25 = .ok (.goto (-21), 3) := by decide +kernel
theorem dX11_without_28 : decode cX11_without 28 = .ok (.iload_n 2, 1) := by decide +kernel
theorem dX11_without_29 : decode cX11_without 29 = .ok (.ireturn, 1) := by decide +kernel
theorem dX11_findFaces_0 : decode cX11_findFaces 0 = .ok (.aload_n 0, 1) := by decide +kernel
theorem dX11_findFaces_1 : decode cX11_findFaces 1 = .ok (.iconst 0, 1) := by decide +kernel
theorem dX11_findFaces_2 : decode cX11_findFaces 2 = .ok (.putfield 299, 3) := by decide +kernel
theorem dX11_findFaces_5 : decode cX11_findFaces 5 = .ok (.iconst 0, 1) := by decide +kernel
theorem dX11_findFaces_6 : decode cX11_findFaces 6 = .ok (.istore_n 3, 1) := by decide +kernel
theorem dX11_findFaces_7 : decode cX11_findFaces 7 = .ok (.iload_n 3, 1) := by decide +kernel
theorem dX11_findFaces_8 : decode cX11_findFaces 8 = .ok (.bipush 16, 2) := by decide +kernel
theorem dX11_findFaces_10 : decode cX11_findFaces 10 = .ok (.if_icmp .ge 61, 3) := by decide +kernel
theorem dX11_findFaces_13 : decode cX11_findFaces 13 = .ok (.iload_n 3, 1) := by decide +kernel
theorem dX11_findFaces_14 : decode cX11_findFaces 14 = .ok (.iload_n 2, 1) := by decide +kernel
theorem dX11_findFaces_15 : decode cX11_findFaces 15 = .ok (.invokestatic 154, 3) := by decide +kernel
theorem dX11_findFaces_18 : decode cX11_findFaces 18 = .ok (.iconst (-1), 1) := by decide +kernel
theorem dX11_findFaces_19 : decode cX11_findFaces 19 = .ok (.ixor, 1) := by decide +kernel
theorem dX11_findFaces_20 : decode cX11_findFaces 20 = .ok (.iand, 1) := by decide +kernel
theorem dX11_findFaces_21 : decode cX11_findFaces 21 = .ok (.ifCond .ne 7, 3) := by decide +kernel
theorem dX11_findFaces_24 : decode cX11_findFaces 24 = .ok (.iconst 1, 1) := by decide +kernel
theorem dX11_findFaces_25 : decode cX11_findFaces 25 = .ok (.goto 4, 3) := by decide +kernel
theorem dX11_findFaces_28 : decode cX11_findFaces 28 = .ok (.iconst 0, 1) := by decide +kernel
theorem dX11_findFaces_29 : decode cX11_findFaces 29 = .ok (.istore 4, 2) := by decide +kernel
theorem dX11_findFaces_31 : decode cX11_findFaces 31 = .ok (.aload_n 0, 1) := by decide +kernel
theorem dX11_findFaces_32 : decode cX11_findFaces 32 = .ok (.dup, 1) := by decide +kernel
theorem dX11_findFaces_33 : decode cX11_findFaces 33 = .ok (.getfield 299, 3) := by decide +kernel
theorem dX11_findFaces_36 : decode cX11_findFaces 36 = .ok (.iload 4, 2) := by decide +kernel
theorem dX11_findFaces_38 : decode cX11_findFaces 38 = .ok (.ifCond .eq 22, 3) := by decide +kernel
theorem dX11_findFaces_41 : decode cX11_findFaces 41 = .ok (.aload_n 0, 1) := by decide +kernel
theorem dX11_findFaces_42 : decode cX11_findFaces 42 = .ok (.iload_n 1, 1) := by decide +kernel
theorem dX11_findFaces_43 : decode cX11_findFaces 43 = .ok (.iload_n 2, 1) := by decide +kernel
theorem dX11_findFaces_44 : decode cX11_findFaces 44 = .ok (.iload_n 3, 1) := by decide +kernel
theorem dX11_findFaces_45 : decode cX11_findFaces 45 = .ok (.invokestatic 302, 3) := by decide +kernel
theorem dX11_findFaces_48 : decode cX11_findFaces 48 = .ok (.invokevirtual 148, 3) := by decide +kernel
theorem dX11_findFaces_51 : decode cX11_findFaces 51 = .ok (.ifCond .eq 9, 3) := by decide +kernel
theorem dX11_findFaces_54 : decode cX11_findFaces 54 = .ok (.iconst 1, 1) := by decide +kernel
theorem dX11_findFaces_55 : decode cX11_findFaces 55 = .ok (.iload_n 3, 1) := by decide +kernel
theorem dX11_findFaces_56 : decode cX11_findFaces 56 = .ok (.ishl, 1) := by decide +kernel
theorem dX11_findFaces_57 : decode cX11_findFaces 57 = .ok (.goto 4, 3) := by decide +kernel
theorem dX11_findFaces_60 : decode cX11_findFaces 60 = .ok (.iconst 0, 1) := by decide +kernel
theorem dX11_findFaces_61 : decode cX11_findFaces 61 = .ok (.ior, 1) := by decide +kernel
theorem dX11_findFaces_62 : decode cX11_findFaces 62 = .ok (.putfield 299, 3) := by decide +kernel
theorem dX11_findFaces_65 : decode cX11_findFaces 65 = .ok (.iinc 3 1, 3) := by decide +kernel
theorem dX11_findFaces_68 : decode cX11_findFaces 68 = .ok (.goto (-61), 3) := by decide +kernel
theorem dX11_findFaces_71 : decode cX11_findFaces 71 = .ok (.return_, 1) := by decide +kernel
theorem dX11_facesOf_0 : decode cX11_facesOf 0 = .ok (.iconst 0, 1) := by decide +kernel
theorem dX11_facesOf_1 : decode cX11_facesOf 1 = .ok (.istore_n 2, 1) := by decide +kernel
theorem dX11_facesOf_2 : decode cX11_facesOf 2 = .ok (.iconst 0, 1) := by decide +kernel
theorem dX11_facesOf_3 : decode cX11_facesOf 3 = .ok (.istore_n 3, 1) := by decide +kernel
theorem dX11_facesOf_4 : decode cX11_facesOf 4 = .ok (.iload_n 3, 1) := by decide +kernel
theorem dX11_facesOf_5 : decode cX11_facesOf 5 = .ok (.bipush 16, 2) := by decide +kernel
theorem dX11_facesOf_7 : decode cX11_facesOf 7 = .ok (.if_icmp .ge 37, 3) := by decide +kernel
theorem dX11_facesOf_10 : decode cX11_facesOf 10 = .ok (.iload_n 2, 1) := by decide +kernel
theorem dX11_facesOf_11 : decode cX11_facesOf 11 = .ok (.aload_n 0, 1) := by decide +kernel
theorem dX11_facesOf_12 : decode cX11_facesOf 12 = .ok (.getfield 299, 3) := by decide +kernel
theorem dX11_facesOf_15 : decode cX11_facesOf 15 = .ok (.iload_n 3, 1) := by decide +kernel
theorem dX11_facesOf_16 : decode cX11_facesOf 16 = .ok (.ishr, 1) := by decide +kernel
theorem dX11_facesOf_17 : decode cX11_facesOf 17 = .ok (.iconst 1, 1) := by decide +kernel
theorem dX11_facesOf_18 : decode cX11_facesOf 18 = .ok (.iand, 1) := by decide +kernel
theorem dX11_facesOf_19 : decode cX11_facesOf 19 = .ok (.iconst 1, 1) := by decide +kernel
theorem dX11_facesOf_20 : decode cX11_facesOf 20 = .ok (.if_icmp .ne 15, 3) := by decide +kernel
theorem dX11_facesOf_23 : decode cX11_facesOf 23 = .ok (.iload_n 3, 1) := by decide +kernel
theorem dX11_facesOf_24 : decode cX11_facesOf 24 = .ok (.invokestatic 234, 3) := by decide +kernel
theorem dX11_facesOf_27 : decode cX11_facesOf 27 = .ok (.iload_n 1, 1) := by decide +kernel
theorem dX11_facesOf_28 : decode cX11_facesOf 28 = .ok (.if_icmp .ne 7, 3) := by decide +kernel
theorem dX11_facesOf_31 : decode cX11_facesOf 31 = .ok (.iconst 1, 1) := by decide +kernel
theorem dX11_facesOf_32 : decode cX11_facesOf 32 = .ok (.goto 4, 3) := by decide +kernel
theorem dX11_facesOf_35 : decode cX11_facesOf 35 = .ok (.iconst 0, 1) := by decide +kernel
theorem dX11_facesOf_36 : decode cX11_facesOf 36 = .ok (.iadd, 1) := by decide +kernel
theorem dX11_facesOf_37 : decode cX11_facesOf 37 = .ok (.istore_n 2, 1) := by decide +kernel
theorem dX11_facesOf_38 : decode cX11_facesOf 38 = .ok (.iinc 3 1, 3) := by decide +kernel
theorem dX11_facesOf_41 : decode cX11_facesOf 41 = .ok (.goto (-37), 3) := by decide +kernel
theorem dX11_facesOf_44 : decode cX11_facesOf 44 = .ok (.iload_n 2, 1) := by decide +kernel
theorem dX11_facesOf_45 : decode cX11_facesOf 45 = .ok (.ireturn, 1) := by decide +kernel
theorem dX11_border_0 : decode cX11_border 0 = .ok (.iconst 0, 1) := by decide +kernel
theorem dX11_border_1 : decode cX11_border 1 = .ok (.istore_n 1, 1) := by decide +kernel
theorem dX11_border_2 : decode cX11_border 2 = .ok (.iconst 0, 1) := by decide +kernel
theorem dX11_border_3 : decode cX11_border 3 = .ok (.istore_n 2, 1) := by decide +kernel
theorem dX11_border_4 : decode cX11_border 4 = .ok (.iload_n 2, 1) := by decide +kernel
theorem dX11_border_5 : decode cX11_border 5 = .ok (.iconst 4, 1) := by decide +kernel
theorem dX11_border_6 : decode cX11_border 6 = .ok (.if_icmp .ge 34, 3) := by decide +kernel
theorem dX11_border_9 : decode cX11_border 9 = .ok (.iload_n 1, 1) := by decide +kernel
theorem dX11_border_10 : decode cX11_border 10 = .ok (.iload_n 0, 1) := by decide +kernel
theorem dX11_border_11 : decode cX11_border 11 = .ok (.iload_n 2, 1) := by decide +kernel
theorem dX11_border_12 : decode cX11_border 12 = .ok (.ishr, 1) := by decide +kernel
theorem dX11_border_13 : decode cX11_border 13 = .ok (.iconst 1, 1) := by decide +kernel
theorem dX11_border_14 : decode cX11_border 14 = .ok (.iand, 1) := by decide +kernel
theorem dX11_border_15 : decode cX11_border 15 = .ok (.iconst 1, 1) := by decide +kernel
theorem dX11_border_16 : decode cX11_border 16 = .ok (.if_icmp .ne 15, 3) := by decide +kernel
theorem dX11_border_19 : decode cX11_border 19 = .ok (.iconst 1, 1) := by decide +kernel
theorem dX11_border_20 : decode cX11_border 20 = .ok (.iload_n 0, 1) := by decide +kernel
theorem dX11_border_21 : decode cX11_border 21 = .ok (.iconst 1, 1) := by decide +kernel
theorem dX11_border_22 : decode cX11_border 22 = .ok (.iload_n 2, 1) := by decide +kernel
theorem dX11_border_23 : decode cX11_border 23 = .ok (.ishl, 1) := by decide +kernel
theorem dX11_border_24 : decode cX11_border 24 = .ok (.iconst (-1), 1) := by decide +kernel
theorem dX11_border_25 : decode cX11_border 25 = .ok (.ixor, 1) := by decide +kernel
theorem dX11_border_26 : decode cX11_border 26 = .ok (.iand, 1) := by decide +kernel
theorem dX11_border_27 : decode cX11_border 27 = .ok (.ishl, 1) := by decide +kernel
theorem dX11_border_28 : decode cX11_border 28 = .ok (.goto 4, 3) := by decide +kernel
theorem dX11_border_31 : decode cX11_border 31 = .ok (.iconst 0, 1) := by decide +kernel
theorem dX11_border_32 : decode cX11_border 32 = .ok (.ior, 1) := by decide +kernel
theorem dX11_border_33 : decode cX11_border 33 = .ok (.istore_n 1, 1) := by decide +kernel
theorem dX11_border_34 : decode cX11_border 34 = .ok (.iinc 2 1, 3) := by decide +kernel
theorem dX11_border_37 : decode cX11_border 37 = .ok (.goto (-33), 3) := by decide +kernel
theorem dX11_border_40 : decode cX11_border 40 = .ok (.iload_n 1, 1) := by decide +kernel
theorem dX11_border_41 : decode cX11_border 41 = .ok (.ireturn, 1) := by decide +kernel
theorem dX11_rank_0 : decode cX11_rank 0 = .ok (.iconst 0, 1) := by decide +kernel
theorem dX11_rank_1 : decode cX11_rank 1 = .ok (.istore_n 2, 1) := by decide +kernel
theorem dX11_rank_2 : decode cX11_rank 2 = .ok (.iload_n 2, 1) := by decide +kernel
theorem dX11_rank_3 : decode cX11_rank 3 = .ok (.bipush 16, 2) := by decide +kernel
theorem dX11_rank_5 : decode cX11_rank 5 = .ok (.if_icmp .ge 16, 3) := by decide +kernel
theorem dX11_rank_8 : decode cX11_rank 8 = .ok (.aload_n 0, 1) := by decide +kernel
theorem dX11_rank_9 : decode cX11_rank 9 = .ok (.getfield 53, 3) := by decide +kernel
theorem dX11_rank_12 : decode cX11_rank 12 = .ok (.iload_n 2, 1) := by decide +kernel
theorem dX11_rank_13 : decode cX11_rank 13 = .ok (.iconst 0, 1) := by decide +kernel
theorem dX11_rank_14 : decode cX11_rank 14 = .ok (.iastore, 1) := by decide +kernel
theorem dX11_rank_15 : decode cX11_rank 15 = .ok (.iinc 2 1, 3) := by decide +kernel
theorem dX11_rank_18 : decode cX11_rank 18 = .ok (.goto (-16), 3) := by decide +kernel
theorem dX11_rank_21 : decode cX11_rank 21 = .ok (.iconst 0, 1) := by decide +kernel
theorem dX11_rank_22 : decode cX11_rank 22 = .ok (.istore_n 2, 1) := by decide +kernel
theorem dX11_rank_23 : decode cX11_rank 23 = .ok (.iconst 0, 1) := by decide +kernel
theorem dX11_rank_24 : decode cX11_rank 24 = .ok (.istore_n 3, 1) := by decide +kernel
theorem dX11_rank_25 : decode cX11_rank 25 = .ok (.iload_n 3, 1) := by decide +kernel
theorem dX11_rank_26 : decode cX11_rank 26 = .ok (.bipush 16, 2) := by decide +kernel
theorem dX11_rank_28 : decode cX11_rank 28 = .ok (.if_icmp .ge 116, 3) := by decide +kernel
theorem dX11_rank_31 : decode cX11_rank 31 = .ok (.aload_n 0, 1) := by decide +kernel
theorem dX11_rank_32 : decode cX11_rank 32 = .ok (.getfield 299, 3) := by decide +kernel
theorem dX11_rank_35 : decode cX11_rank 35 = .ok (.iload_n 3, 1) := by decide +kernel
theorem dX11_rank_36 : decode cX11_rank 36 = .ok (.ishr, 1) := by decide +kernel
theorem dX11_rank_37 : decode cX11_rank 37 = .ok (.iconst 1, 1) := by decide +kernel
theorem dX11_rank_38 : decode cX11_rank 38 = .ok (.iand, 1) := by decide +kernel
theorem dX11_rank_39 : decode cX11_rank 39 = .ok (.iconst 1, 1) := by decide +kernel
theorem dX11_rank_40 : decode cX11_rank 40 = .ok (.if_icmp .ne 22, 3) := by decide +kernel
theorem dX11_rank_43 : decode cX11_rank 43 = .ok (.iload_n 3, 1) := by decide +kernel
theorem dX11_rank_44 : decode cX11_rank 44 = .ok (.invokestatic 234, 3) := by decide +kernel
theorem dX11_rank_47 : decode cX11_rank 47 = .ok (.iload_n 1, 1) := by decide +kernel
theorem dX11_rank_48 : decode cX11_rank 48 = .ok (.if_icmp .ne 14, 3) := by decide +kernel
theorem dX11_rank_51 : decode cX11_rank 51 = .ok (.iload_n 1, 1) := by decide +kernel
theorem dX11_rank_52 : decode cX11_rank 52 = .ok (.ifCond .le 10, 3) := by decide +kernel
theorem dX11_rank_55 : decode cX11_rank 55 = .ok (.iload_n 3, 1) := by decide +kernel
theorem dX11_rank_56 : decode cX11_rank 56 = .ok (.invokestatic 305, 3) := by decide +kernel
theorem dX11_rank_59 : decode cX11_rank 59 = .ok (.goto 4, 3) := by decide +kernel
theorem dX11_rank_62 : decode cX11_rank 62 = .ok (.iconst 0, 1) := by decide +kernel
theorem dX11_rank_63 : decode cX11_rank 63 = .ok (.istore 4, 2) := by decide +kernel
theorem dX11_rank_65 : decode cX11_rank 65 = .ok (.bipush 15, 2) := by decide +kernel
theorem dX11_rank_67 : decode cX11_rank 67 = .ok (.istore 5, 2) := by decide +kernel
theorem dX11_rank_69 : decode cX11_rank 69 = .ok (.iload 5, 2) := by decide +kernel
theorem dX11_rank_71 : decode cX11_rank 71 = .ok (.ifCond .lt 67, 3) := by decide +kernel
theorem dX11_rank_74 : decode cX11_rank 74 = .ok (.iload 4, 2) := by decide +kernel
theorem dX11_rank_76 : decode cX11_rank 76 = .ok (.ifCond .eq 62, 3) := by decide +kernel
theorem dX11_rank_79 : decode cX11_rank 79 = .ok (.iload 4, 2) := by decide +kernel
theorem dX11_rank_81 : decode cX11_rank 81 = .ok (.iload 4, 2) := by decide +kernel
theorem dX11_rank_83 : decode cX11_rank 83 = .ok (.iload 5, 2) := by decide +kernel
theorem dX11_rank_85 : decode cX11_rank 85 = .ok (.ishr, 1) := by decide +kernel
theorem dX11_rank_86 : decode cX11_rank 86 = .ok (.iconst 1, 1) := by decide +kernel
theorem dX11_rank_87 : decode cX11_rank 87 = .ok (.iand, 1) := by decide +kernel
theorem dX11_rank_88 : decode cX11_rank 88 = .ok (.iconst 1, 1) := by decide +kernel
theorem dX11_rank_89 : decode cX11_rank 89 = .ok (.if_icmp .ne 13, 3) := by decide +kernel
theorem dX11_rank_92 : decode cX11_rank 92 = .ok (.aload_n 0, 1) := by decide +kernel
theorem dX11_rank_93 : decode cX11_rank 93 = .ok (.getfield 53, 3) := by decide +kernel
theorem dX11_rank_96 : decode cX11_rank 96 = .ok (.iload 5, 2) := by decide +kernel
theorem dX11_rank_98 : decode cX11_rank 98 = .ok (.iaload, 1) := by decide +kernel
theorem dX11_rank_99 : decode cX11_rank 99 = .ok (.goto 4, 3) := by decide +kernel
theorem dX11_rank_102 : decode cX11_rank 102 = .ok (.iconst 0, 1) := by decide +kernel
theorem dX11_rank_103 : decode cX11_rank 103 = .ok (.ixor, 1) := by decide +kernel
theorem dX11_rank_104 : decode cX11_rank 104 = .ok (.istore 4, 2) := by decide +kernel
theorem dX11_rank_106 : decode cX11_rank 106 = .ok (.iload 4, 2) := by decide +kernel
theorem dX11_rank_108 : decode cX11_rank 108 = .ok (.iload 5, 2) := by decide +kernel
theorem dX11_rank_110 : decode cX11_rank 110 = .ok (.ishr, 1) := by decide +kernel
theorem dX11_rank_111 : decode cX11_rank 111 = .ok (.iconst 1, 1) := by decide +kernel
theorem dX11_rank_112 : decode cX11_rank 112 = .ok (.iand, 1) := by decide +kernel
theorem dX11_rank_113 : decode cX11_rank 113 = .ok (.iconst 1, 1) := by decide +kernel
theorem dX11_rank_114 : decode cX11_rank 114 = .ok (.if_icmp .ne 18, 3) := by decide +kernel
theorem dX11_rank_117 : decode cX11_rank 117 = .ok (.aload_n 0, 1) := by decide +kernel
theorem dX11_rank_118 : decode cX11_rank 118 = .ok (.getfield 53, 3) := by decide +kernel
theorem dX11_rank_121 : decode cX11_rank 121 = .ok (.iload 5, 2) := by decide +kernel
theorem dX11_rank_123 : decode cX11_rank 123 = .ok (.iload 4, 2) := by decide +kernel
theorem dX11_rank_125 : decode cX11_rank 125 = .ok (.iastore, 1) := by decide +kernel
theorem dX11_rank_126 : decode cX11_rank 126 = .ok (.iconst 0, 1) := by decide +kernel
theorem dX11_rank_127 : decode cX11_rank 127 = .ok (.istore 4, 2) := by decide +kernel
theorem dX11_rank_129 : decode cX11_rank 129 = .ok (.iinc 2 1, 3) := by decide +kernel
theorem dX11_rank_132 : decode cX11_rank 132 = .ok (.iinc 5 (-1), 3) := by decide +kernel
theorem dX11_rank_135 : decode cX11_rank 135 = .ok (.goto (-66), 3) := by decide +kernel
theorem dX11_rank_138 : decode cX11_rank 138 = .ok (.iinc 3 1, 3) := by decide +kernel
theorem dX11_rank_141 : decode cX11_rank 141 = .ok (.goto (-116), 3) := by decide +kernel
theorem dX11_rank_144 : decode cX11_rank 144 = .ok (.iload_n 2, 1) := by decide +kernel
theorem dX11_rank_145 : decode cX11_rank 145 = .ok (.ireturn, 1) := by decide +kernel
theorem dX11_holesAt_0 : decode cX11_holesAt 0 = .ok (.aload_n 0, 1) := by decide +kernel
theorem dX11_holesAt_1 : decode cX11_holesAt 1 = .ok (.iload_n 1, 1) := by decide +kernel
theorem dX11_holesAt_2 : decode cX11_holesAt 2 = .ok (.iload_n 3, 1) := by decide +kernel
theorem dX11_holesAt_3 : decode cX11_holesAt 3 = .ok (.invokevirtual 308, 3) := by decide +kernel
theorem dX11_holesAt_6 : decode cX11_holesAt 6 = .ok (.aload_n 0, 1) := by decide +kernel
theorem dX11_holesAt_7 : decode cX11_holesAt 7 = .ok (.iload_n 2, 1) := by decide +kernel
theorem dX11_holesAt_8 : decode cX11_holesAt 8 = .ok (.invokevirtual 311, 3) := by decide +kernel
theorem dX11_holesAt_11 : decode cX11_holesAt 11 = .ok (.aload_n 0, 1) := by decide +kernel
theorem dX11_holesAt_12 : decode cX11_holesAt 12 = .ok (.iload_n 2, 1) := by decide +kernel
theorem dX11_holesAt_13 : decode cX11_holesAt 13 = .ok (.invokevirtual 314, 3) := by decide +kernel
theorem dX11_holesAt_16 : decode cX11_holesAt 16 = .ok (.isub, 1) := by decide +kernel
theorem dX11_holesAt_17 : decode cX11_holesAt 17 = .ok (.aload_n 0, 1) := by decide +kernel
theorem dX11_holesAt_18 : decode cX11_holesAt 18 = .ok (.iload_n 2, 1) := by decide +kernel
theorem dX11_holesAt_19 : decode cX11_holesAt 19 = .ok (.iconst 1, 1) := by decide +kernel
theorem dX11_holesAt_20 : decode cX11_holesAt 20 = .ok (.iadd, 1) := by decide +kernel
theorem dX11_holesAt_21 : decode cX11_holesAt 21 = .ok (.invokevirtual 314, 3) := by decide +kernel
theorem dX11_holesAt_24 : decode cX11_holesAt 24 = .ok (.isub, 1) := by decide +kernel
theorem dX11_holesAt_25 : decode cX11_holesAt 25 = .ok (.ireturn, 1) := by decide +kernel
theorem dX11_betti_0 : decode cX11_betti 0 = .ok (.iload_n 1, 1) := by decide +kernel
theorem dX11_betti_1 : decode cX11_betti 1 = .ok (.invokestatic 128, 3) := by decide +kernel
theorem dX11_betti_4 : decode cX11_betti 4 = .ok (.ifCond .ne 5, 3) := by decide +kernel
theorem dX11_betti_7 : decode cX11_betti 7 = .ok (.iconst (-1), 1) := by decide +kernel
theorem dX11_betti_8 : decode cX11_betti 8 = .ok (.ireturn, 1) := by decide +kernel
theorem dX11_betti_9 : decode cX11_betti 9 = .ok (.iload_n 2, 1) := by decide +kernel
theorem dX11_betti_10 : decode cX11_betti 10 = .ok (.i2l, 1) := by decide +kernel
theorem dX11_betti_11 : decode cX11_betti 11 = .ok (.lconst 0, 1) := by decide +kernel
theorem dX11_betti_12 : decode cX11_betti 12 = .ok (.ldc2_w 62, 3) := by decide +kernel
theorem dX11_betti_15 : decode cX11_betti 15 = .ok (.invokestatic 64, 3) := by decide +kernel
theorem dX11_betti_18 : decode cX11_betti 18 = .ok (.ifCond .ne 6, 3) := by decide +kernel
theorem dX11_betti_21 : decode cX11_betti 21 = .ok (.bipush (-2), 2) := by decide +kernel
theorem dX11_betti_23 : decode cX11_betti 23 = .ok (.ireturn, 1) := by decide +kernel
theorem dX11_betti_24 : decode cX11_betti 24 = .ok (.aload_n 0, 1) := by decide +kernel
theorem dX11_betti_25 : decode cX11_betti 25 = .ok (.iload_n 1, 1) := by decide +kernel
theorem dX11_betti_26 : decode cX11_betti 26 = .ok (.invokevirtual 284, 3) := by decide +kernel
theorem dX11_betti_29 : decode cX11_betti 29 = .ok (.iconst 0, 1) := by decide +kernel
theorem dX11_betti_30 : decode cX11_betti 30 = .ok (.istore_n 3, 1) := by decide +kernel
theorem dX11_betti_31 : decode cX11_betti 31 = .ok (.iconst 0, 1) := by decide +kernel
theorem dX11_betti_32 : decode cX11_betti 32 = .ok (.istore 4, 2) := by decide +kernel
theorem dX11_betti_34 : decode cX11_betti 34 = .ok (.iload 4, 2) := by decide +kernel
theorem dX11_betti_36 : decode cX11_betti 36 = .ok (.sipush 2401, 3) := by decide +kernel
theorem dX11_betti_39 : decode cX11_betti 39 = .ok (.if_icmp .ge 37, 3) := by decide +kernel
theorem dX11_betti_42 : decode cX11_betti 42 = .ok (.iload_n 3, 1) := by decide +kernel
theorem dX11_betti_43 : decode cX11_betti 43 = .ok (.aload_n 0, 1) := by decide +kernel
theorem dX11_betti_44 : decode cX11_betti 44 = .ok (.getfield 50, 3) := by decide +kernel
theorem dX11_betti_47 : decode cX11_betti 47 = .ok (.iload 4, 2) := by decide +kernel
theorem dX11_betti_49 : decode cX11_betti 49 = .ok (.baload, 1) := by decide +kernel
theorem dX11_betti_50 : decode cX11_betti 50 = .ok (.ifCond .eq 17, 3) := by decide +kernel
theorem dX11_betti_53 : decode cX11_betti 53 = .ok (.aload_n 0, 1) := by decide +kernel
theorem dX11_betti_54 : decode cX11_betti 54 = .ok (.iload_n 1, 1) := by decide +kernel
theorem dX11_betti_55 : decode cX11_betti 55 = .ok (.iload_n 2, 1) := by decide +kernel
theorem dX11_betti_56 : decode cX11_betti 56 = .ok (.iload 4, 2) := by decide +kernel
theorem dX11_betti_58 : decode cX11_betti 58 = .ok (.invokestatic 93, 3) := by decide +kernel
theorem dX11_betti_61 : decode cX11_betti 61 = .ok (.invokevirtual 317, 3) := by decide +kernel
theorem dX11_betti_64 : decode cX11_betti 64 = .ok (.goto 4, 3) := by decide +kernel
theorem dX11_betti_67 : decode cX11_betti 67 = .ok (.iconst 0, 1) := by decide +kernel
theorem dX11_betti_68 : decode cX11_betti 68 = .ok (.iadd, 1) := by decide +kernel
theorem dX11_betti_69 : decode cX11_betti 69 = .ok (.istore_n 3, 1) := by decide +kernel
theorem dX11_betti_70 : decode cX11_betti 70 = .ok (.iinc 4 1, 3) := by decide +kernel
theorem dX11_betti_73 : decode cX11_betti 73 = .ok (.goto (-39), 3) := by decide +kernel
theorem dX11_betti_76 : decode cX11_betti 76 = .ok (.iload_n 3, 1) := by decide +kernel
theorem dX11_betti_77 : decode cX11_betti 77 = .ok (.ireturn, 1) := by decide +kernel
theorem dX11_bettiAt_0 : decode cX11_bettiAt 0 = .ok (.iload_n 1, 1) := by decide +kernel
theorem dX11_bettiAt_1 : decode cX11_bettiAt 1 = .ok (.invokestatic 128, 3) := by decide +kernel
theorem dX11_bettiAt_4 : decode cX11_bettiAt 4 = .ok (.ifCond .ne 5, 3) := by decide +kernel
theorem dX11_bettiAt_7 : decode cX11_bettiAt 7 = .ok (.iconst (-1), 1) := by decide +kernel
theorem dX11_bettiAt_8 : decode cX11_bettiAt 8 = .ok (.ireturn, 1) := by decide +kernel
theorem dX11_bettiAt_9 : decode cX11_bettiAt 9 = .ok (.iload_n 2, 1) := by decide +kernel
theorem dX11_bettiAt_10 : decode cX11_bettiAt 10 = .ok (.i2l, 1) := by decide +kernel
theorem dX11_bettiAt_11 : decode cX11_bettiAt 11 = .ok (.lconst 0, 1) := by decide +kernel
theorem dX11_bettiAt_12 : decode cX11_bettiAt 12 = .ok (.ldc2_w 62, 3) := by decide +kernel
theorem dX11_bettiAt_15 : decode cX11_bettiAt 15 = .ok (.invokestatic 64, 3) := by decide +kernel
theorem dX11_bettiAt_18 : decode cX11_bettiAt 18 = .ok (.ifCond .eq 10, 3) := by decide +kernel
theorem dX11_bettiAt_21 : decode cX11_bettiAt 21 = .ok (.iload_n 3, 1) := by decide +kernel
theorem dX11_bettiAt_22 : decode cX11_bettiAt 22 = .ok (.invokestatic 145, 3) := by decide +kernel
theorem dX11_bettiAt_25 : decode cX11_bettiAt 25 = .ok (.ifCond .ne 6, 3) := by decide +kernel
theorem dX11_bettiAt_28 : decode cX11_bettiAt 28 = .ok (.bipush (-2), 2) := by decide +kernel
theorem dX11_bettiAt_30 : decode cX11_bettiAt 30 = .ok (.ireturn, 1) := by decide +kernel
theorem dX11_bettiAt_31 : decode cX11_bettiAt 31 = .ok (.aload_n 0, 1) := by decide +kernel
theorem dX11_bettiAt_32 : decode cX11_bettiAt 32 = .ok (.iload_n 1, 1) := by decide +kernel
theorem dX11_bettiAt_33 : decode cX11_bettiAt 33 = .ok (.invokevirtual 284, 3) := by decide +kernel
theorem dX11_bettiAt_36 : decode cX11_bettiAt 36 = .ok (.aload_n 0, 1) := by decide +kernel
theorem dX11_bettiAt_37 : decode cX11_bettiAt 37 = .ok (.getfield 50, 3) := by decide +kernel
theorem dX11_bettiAt_40 : decode cX11_bettiAt 40 = .ok (.iload_n 3, 1) := by decide +kernel
theorem dX11_bettiAt_41 : decode cX11_bettiAt 41 = .ok (.invokestatic 96, 3) := by decide +kernel
theorem dX11_bettiAt_44 : decode cX11_bettiAt 44 = .ok (.baload, 1) := by decide +kernel
theorem dX11_bettiAt_45 : decode cX11_bettiAt 45 = .ok (.ifCond .eq 13, 3) := by decide +kernel
theorem dX11_bettiAt_48 : decode cX11_bettiAt 48 = .ok (.aload_n 0, 1) := by decide +kernel
theorem dX11_bettiAt_49 : decode cX11_bettiAt 49 = .ok (.iload_n 1, 1) := by decide +kernel
theorem dX11_bettiAt_50 : decode cX11_bettiAt 50 = .ok (.iload_n 2, 1) := by decide +kernel
theorem dX11_bettiAt_51 : decode cX11_bettiAt 51 = .ok (.iload_n 3, 1) := by decide +kernel
theorem dX11_bettiAt_52 : decode cX11_bettiAt 52 = .ok (.invokevirtual 317, 3) := by decide +kernel
theorem dX11_bettiAt_55 : decode cX11_bettiAt 55 = .ok (.goto 4, 3) := by decide +kernel
theorem dX11_bettiAt_58 : decode cX11_bettiAt 58 = .ok (.iconst 0, 1) := by decide +kernel
theorem dX11_bettiAt_59 : decode cX11_bettiAt 59 = .ok (.ireturn, 1) := by decide +kernel
theorem dX11_nearest_0 : decode cX11_nearest 0 = .ok (.lload_n 1, 1) := by decide +kernel
theorem dX11_nearest_1 : decode cX11_nearest 1 = .ok (.lstore 6, 2) := by decide +kernel
theorem dX11_nearest_3 : decode cX11_nearest 3 = .ok (.lload_n 3, 1) := by decide +kernel
theorem dX11_nearest_4 : decode cX11_nearest 4 = .ok (.lstore 8, 2) := by decide +kernel
theorem dX11_nearest_6 : decode cX11_nearest 6 = .ok (.aload_n 0, 1) := by decide +kernel
theorem dX11_nearest_7 : decode cX11_nearest 7 = .ok (.iconst 0, 1) := by decide +kernel
theorem dX11_nearest_8 : decode cX11_nearest 8 = .ok (.putfield 320, 3) := by decide +kernel
theorem dX11_nearest_11 : decode cX11_nearest 11 = .ok (.lload 6, 2) := by decide +kernel
theorem dX11_nearest_13 : decode cX11_nearest 13 = .ok (.lload 8, 2) := by decide +kernel
theorem dX11_nearest_15 : decode cX11_nearest 15 = .ok (.lcmp, 1) := by decide +kernel
theorem dX11_nearest_16 : decode cX11_nearest 16 = .ok (.ifCond .ge 24, 3) := by decide +kernel
theorem dX11_nearest_19 : decode cX11_nearest 19 = .ok (.lload 6, 2) := by decide +kernel
theorem dX11_nearest_21 : decode cX11_nearest 21 = .ok (.ldc2_w 68, 3) := by decide +kernel
theorem dX11_nearest_24 : decode cX11_nearest 24 = .ok (.lmul, 1) := by decide +kernel
theorem dX11_nearest_25 : decode cX11_nearest 25 = .ok (.lstore 6, 2) := by decide +kernel
theorem dX11_nearest_27 : decode cX11_nearest 27 = .ok (.aload_n 0, 1) := by decide +kernel
theorem dX11_nearest_28 : decode cX11_nearest 28 = .ok (.dup, 1) := by decide +kernel
theorem dX11_nearest_29 : decode cX11_nearest 29 = .ok (.getfield 320, 3) := by decide +kernel
theorem dX11_nearest_32 : decode cX11_nearest 32 = .ok (.iconst 1, 1) := by decide +kernel
theorem dX11_nearest_33 : decode cX11_nearest 33 = .ok (.isub, 1) := by decide +kernel
theorem dX11_nearest_34 : decode cX11_nearest 34 = .ok (.putfield 320, 3) := by decide +kernel
theorem dX11_nearest_37 : decode cX11_nearest 37 = .ok (.goto (-26), 3) := by decide +kernel
theorem dX11_nearest_40 : decode cX11_nearest 40 = .ok (.lload 6, 2) := by decide +kernel
theorem dX11_nearest_42 : decode cX11_nearest 42 = .ok (.ldc2_w 68, 3) := by decide +kernel
theorem dX11_nearest_45 : decode cX11_nearest 45 = .ok (.lload 8, 2) := by decide +kernel
theorem dX11_nearest_47 : decode cX11_nearest 47 = .ok (.lmul, 1) := by decide +kernel
theorem dX11_nearest_48 : decode cX11_nearest 48 = .ok (.lcmp, 1) := by decide +kernel
theorem dX11_nearest_49 : decode cX11_nearest 49 = .ok (.ifCond .lt 24, 3) := by decide +kernel
theorem dX11_nearest_52 : decode cX11_nearest 52 = .ok (.lload 8, 2) := by decide +kernel
theorem dX11_nearest_54 : decode cX11_nearest 54 = .ok (.ldc2_w 68, 3) := by decide +kernel
theorem dX11_nearest_57 : decode cX11_nearest 57 = .ok (.lmul, 1) := by decide +kernel
theorem dX11_nearest_58 : decode cX11_nearest 58 = .ok (.lstore 8, 2) := by decide +kernel
theorem dX11_nearest_60 : decode cX11_nearest 60 = .ok (.aload_n 0, 1) := by decide +kernel
theorem dX11_nearest_61 : decode cX11_nearest 61 = .ok (.dup, 1) := by decide +kernel
theorem dX11_nearest_62 : decode cX11_nearest 62 = .ok (.getfield 320, 3) := by decide +kernel
theorem dX11_nearest_65 : decode cX11_nearest 65 = .ok (.iconst 1, 1) := by decide +kernel
theorem dX11_nearest_66 : decode cX11_nearest 66 = .ok (.iadd, 1) := by decide +kernel
theorem dX11_nearest_67 : decode cX11_nearest 67 = .ok (.putfield 320, 3) := by decide +kernel
theorem dX11_nearest_70 : decode cX11_nearest 70 = .ok (.goto (-30), 3) := by decide +kernel
theorem dX11_nearest_73 : decode cX11_nearest 73 = .ok (.aload_n 0, 1) := by decide +kernel
theorem dX11_nearest_74 : decode cX11_nearest 74 = .ok (.lconst 0, 1) := by decide +kernel
theorem dX11_nearest_75 : decode cX11_nearest 75 = .ok (.putfield 323, 3) := by decide +kernel
theorem dX11_nearest_78 : decode cX11_nearest 78 = .ok (.iconst 0, 1) := by decide +kernel
theorem dX11_nearest_79 : decode cX11_nearest 79 = .ok (.istore 10, 2) := by decide +kernel
theorem dX11_nearest_81 : decode cX11_nearest 81 = .ok (.iload 10, 2) := by decide +kernel
theorem dX11_nearest_83 : decode cX11_nearest 83 = .ok (.iload 5, 2) := by decide +kernel
theorem dX11_nearest_85 : decode cX11_nearest 85 = .ok (.if_icmp .ge 59, 3) := by decide +kernel
theorem dX11_nearest_88 : decode cX11_nearest 88 = .ok (.aload_n 0, 1) := by decide +kernel
theorem dX11_nearest_89 : decode cX11_nearest 89 = .ok (.ldc2_w 68, 3) := by decide +kernel
theorem dX11_nearest_92 : decode cX11_nearest 92 = .ok (.aload_n 0, 1) := by decide +kernel
theorem dX11_nearest_93 : decode cX11_nearest 93 = .ok (.getfield 323, 3) := by decide +kernel
theorem dX11_nearest_96 : decode cX11_nearest 96 = .ok (.lmul, 1) := by decide +kernel
theorem dX11_nearest_97 : decode cX11_nearest 97 = .ok (.lload 6, 2) := by decide +kernel
theorem dX11_nearest_99 : decode cX11_nearest 99 = .ok (.lload 8, 2) := by decide +kernel
theorem dX11_nearest_101 : decode cX11_nearest 101 = .ok (.lcmp, 1) := by decide +kernel
theorem dX11_nearest_102 : decode cX11_nearest 102 = .ok (.ifCond .lt 7, 3) := by decide +kernel
theorem dX11_nearest_105 : decode cX11_nearest 105 = .ok (.lconst 1, 1) := by decide +kernel
theorem dX11_nearest_106 : decode cX11_nearest 106 = .ok (.goto 4, 3) := by decide +kernel
theorem dX11_nearest_109 : decode cX11_nearest 109 = .ok (.lconst 0, 1) := by decide +kernel
theorem dX11_nearest_110 : decode cX11_nearest 110 = .ok (.ladd, 1) := by decide +kernel
theorem dX11_nearest_111 : decode cX11_nearest 111 = .ok (.putfield 323, 3) := by decide +kernel
theorem dX11_nearest_114 : decode cX11_nearest 114 = .ok (.ldc2_w 68, 3) := by decide +kernel
theorem dX11_nearest_117 : decode cX11_nearest 117 = .ok (.lload 6, 2) := by decide +kernel
theorem dX11_nearest_119 : decode cX11_nearest 119 = .ok (.lload 8, 2) := by decide +kernel
theorem dX11_nearest_121 : decode cX11_nearest 121 = .ok (.lcmp, 1) := by decide +kernel
theorem dX11_nearest_122 : decode cX11_nearest 122 = .ok (.ifCond .lt 11, 3) := by decide +kernel
theorem dX11_nearest_125 : decode cX11_nearest 125 = .ok (.lload 6, 2) := by decide +kernel
theorem dX11_nearest_127 : decode cX11_nearest 127 = .ok (.lload 8, 2) := by decide +kernel
theorem dX11_nearest_129 : decode cX11_nearest 129 = .ok (.lsub, 1) := by decide +kernel
theorem dX11_nearest_130 : decode cX11_nearest 130 = .ok (.goto 5, 3) := by decide +kernel
theorem dX11_nearest_133 : decode cX11_nearest 133 = .ok (.lload 6, 2) := by decide +kernel
theorem dX11_nearest_135 : decode cX11_nearest 135 = .ok (.lmul, 1) := by decide +kernel
theorem dX11_nearest_136 : decode cX11_nearest 136 = .ok (.lstore 6, 2) := by decide +kernel
theorem dX11_nearest_138 : decode cX11_nearest 138 = .ok (.iinc 10 1, 3) := by decide +kernel
theorem dX11_nearest_141 : decode cX11_nearest 141 = .ok (.goto (-60), 3) := by decide +kernel
theorem dX11_nearest_144 : decode cX11_nearest 144 = .ok (.aload_n 0, 1) := by decide +kernel
theorem dX11_nearest_145 : decode cX11_nearest 145 = .ok (.dup, 1) := by decide +kernel
theorem dX11_nearest_146 : decode cX11_nearest 146 = .ok (.getfield 323, 3) := by decide +kernel
theorem dX11_nearest_149 : decode cX11_nearest 149 = .ok (.lload 6, 2) := by decide +kernel
theorem dX11_nearest_151 : decode cX11_nearest 151 = .ok (.lload 8, 2) := by decide +kernel
theorem dX11_nearest_153 : decode cX11_nearest 153 = .ok (.lcmp, 1) := by decide +kernel
theorem dX11_nearest_154 : decode cX11_nearest 154 = .ok (.ifCond .gt 24, 3) := by decide +kernel
theorem dX11_nearest_157 : decode cX11_nearest 157 = .ok (.lload 6, 2) := by decide +kernel
theorem dX11_nearest_159 : decode cX11_nearest 159 = .ok (.lload 8, 2) := by decide +kernel
theorem dX11_nearest_161 : decode cX11_nearest 161 = .ok (.lcmp, 1) := by decide +kernel
theorem dX11_nearest_162 : decode cX11_nearest 162 = .ok (.ifCond .ne 20, 3) := by decide +kernel
theorem dX11_nearest_165 : decode cX11_nearest 165 = .ok (.aload_n 0, 1) := by decide +kernel
theorem dX11_nearest_166 : decode cX11_nearest 166 = .ok (.getfield 323, 3) := by decide +kernel
theorem dX11_nearest_169 : decode cX11_nearest 169 = .ok (.ldc2_w 68, 3) := by decide +kernel
theorem dX11_nearest_172 : decode cX11_nearest 172 = .ok (.lrem, 1) := by decide +kernel
theorem dX11_nearest_173 : decode cX11_nearest 173 = .ok (.lconst 1, 1) := by decide +kernel
theorem dX11_nearest_174 : decode cX11_nearest 174 = .ok (.lcmp, 1) := by decide +kernel
theorem dX11_nearest_175 : decode cX11_nearest 175 = .ok (.ifCond .ne 7, 3) := by decide +kernel
theorem dX11_nearest_178 : decode cX11_nearest 178 = .ok (.lconst 1, 1) := by decide +kernel
theorem dX11_nearest_179 : decode cX11_nearest 179 = .ok (.goto 4, 3) := by decide +kernel
theorem dX11_nearest_182 : decode cX11_nearest 182 = .ok (.lconst 0, 1) := by decide +kernel
theorem dX11_nearest_183 : decode cX11_nearest 183 = .ok (.ladd, 1) := by decide +kernel
theorem dX11_nearest_184 : decode cX11_nearest 184 = .ok (.putfield 323, 3) := by decide +kernel
theorem dX11_nearest_187 : decode cX11_nearest 187 = .ok (.aload_n 0, 1) := by decide +kernel
theorem dX11_nearest_188 : decode cX11_nearest 188 = .ok (.getfield 323, 3) := by decide +kernel
theorem dX11_nearest_191 : decode cX11_nearest 191 = .ok (.iload 5, 2) := by decide +kernel
theorem dX11_nearest_193 : decode cX11_nearest 193 = .ok (.lshr, 1) := by decide +kernel
theorem dX11_nearest_194 : decode cX11_nearest 194 = .ok (.lconst 1, 1) := by decide +kernel
theorem dX11_nearest_195 : decode cX11_nearest 195 = .ok (.lcmp, 1) := by decide +kernel
theorem dX11_nearest_196 : decode cX11_nearest 196 = .ok (.ifCond .ne 25, 3) := by decide +kernel
theorem dX11_nearest_199 : decode cX11_nearest 199 = .ok (.aload_n 0, 1) := by decide +kernel
theorem dX11_nearest_200 : decode cX11_nearest 200 = .ok (.dup, 1) := by decide +kernel
theorem dX11_nearest_201 : decode cX11_nearest 201 = .ok (.getfield 323, 3) := by decide +kernel
theorem dX11_nearest_204 : decode cX11_nearest 204 = .ok (.ldc2_w 68, 3) := by decide +kernel
theorem dX11_nearest_207 : decode cX11_nearest 207 = .ok (.ldiv, 1) := by decide +kernel
theorem dX11_nearest_208 : decode cX11_nearest 208 = .ok (.putfield 323, 3) := by decide +kernel
theorem dX11_nearest_211 : decode cX11_nearest 211 = .ok (.aload_n 0, 1) := by decide +kernel
theorem dX11_nearest_212 : decode cX11_nearest 212 = .ok (.dup, 1) := by decide +kernel
theorem dX11_nearest_213 : decode cX11_nearest 213 = .ok (.getfield 320, 3) := by decide +kernel
theorem dX11_nearest_216 : decode cX11_nearest 216 = .ok (.iconst 1, 1) := by decide +kernel
theorem dX11_nearest_217 : decode cX11_nearest 217 = .ok (.iadd, 1) := by decide +kernel
theorem dX11_nearest_218 : decode cX11_nearest 218 = .ok (.putfield 320, 3) := by decide +kernel
theorem dX11_nearest_221 : decode cX11_nearest 221 = .ok (.return_, 1) := by decide +kernel
theorem dX11_bits_0 : decode cX11_bits 0 = .ok (.aload_n 0, 1) := by decide +kernel
theorem dX11_bits_1 : decode cX11_bits 1 = .ok (.getfield 320, 3) := by decide +kernel
theorem dX11_bits_4 : decode cX11_bits 4 = .ok (.iload_n 2, 1) := by decide +kernel
theorem dX11_bits_5 : decode cX11_bits 5 = .ok (.iadd, 1) := by decide +kernel
theorem dX11_bits_6 : decode cX11_bits 6 = .ok (.i2l, 1) := by decide +kernel
theorem dX11_bits_7 : decode cX11_bits 7 = .ok (.iload_n 1, 1) := by decide +kernel
theorem dX11_bits_8 : decode cX11_bits 8 = .ok (.iconst 1, 1) := by decide +kernel
theorem dX11_bits_9 : decode cX11_bits 9 = .ok (.isub, 1) := by decide +kernel
theorem dX11_bits_10 : decode cX11_bits 10 = .ok (.lshl, 1) := by decide +kernel
theorem dX11_bits_11 : decode cX11_bits 11 = .ok (.aload_n 0, 1) := by decide +kernel
theorem dX11_bits_12 : decode cX11_bits 12 = .ok (.getfield 323, 3) := by decide +kernel
theorem dX11_bits_15 : decode cX11_bits 15 = .ok (.lconst 1, 1) := by decide +kernel
theorem dX11_bits_16 : decode cX11_bits 16 = .ok (.iload_n 1, 1) := by decide +kernel
theorem dX11_bits_17 : decode cX11_bits 17 = .ok (.iconst 1, 1) := by decide +kernel
theorem dX11_bits_18 : decode cX11_bits 18 = .ok (.isub, 1) := by decide +kernel
theorem dX11_bits_19 : decode cX11_bits 19 = .ok (.lshl, 1) := by decide +kernel
theorem dX11_bits_20 : decode cX11_bits 20 = .ok (.lsub, 1) := by decide +kernel
theorem dX11_bits_21 : decode cX11_bits 21 = .ok (.lor, 1) := by decide +kernel
theorem dX11_bits_22 : decode cX11_bits 22 = .ok (.lreturn, 1) := by decide +kernel
theorem dX11_cut_0 : decode cX11_cut 0 = .ok (.aload_n 0, 1) := by decide +kernel
theorem dX11_cut_1 : decode cX11_cut 1 = .ok (.getfield 320, 3) := by decide +kernel
theorem dX11_cut_4 : decode cX11_cut 4 = .ok (.bipush 23, 2) := by decide +kernel
theorem dX11_cut_6 : decode cX11_cut 6 = .ok (.isub, 1) := by decide +kernel
theorem dX11_cut_7 : decode cX11_cut 7 = .ok (.istore_n 1, 1) := by decide +kernel
theorem dX11_cut_8 : decode cX11_cut 8 = .ok (.ldc2_w 327, 3) := by decide +kernel
theorem dX11_cut_11 : decode cX11_cut 11 = .ok (.aload_n 0, 1) := by decide +kernel
theorem dX11_cut_12 : decode cX11_cut 12 = .ok (.getfield 323, 3) := by decide +kernel
theorem dX11_cut_15 : decode cX11_cut 15 = .ok (.lmul, 1) := by decide +kernel
theorem dX11_cut_16 : decode cX11_cut 16 = .ok (.lstore_n 2, 1) := by decide +kernel
theorem dX11_cut_17 : decode cX11_cut 17 = .ok (.lconst 1, 1) := by decide +kernel
theorem dX11_cut_18 : decode cX11_cut 18 = .ok (.lstore 4, 2) := by decide +kernel
theorem dX11_cut_20 : decode cX11_cut 20 = .ok (.iload_n 1, 1) := by decide +kernel
theorem dX11_cut_21 : decode cX11_cut 21 = .ok (.istore 6, 2) := by decide +kernel
theorem dX11_cut_23 : decode cX11_cut 23 = .ok (.iload 6, 2) := by decide +kernel
theorem dX11_cut_25 : decode cX11_cut 25 = .ok (.ifCond .ge 17, 3) := by decide +kernel
theorem dX11_cut_28 : decode cX11_cut 28 = .ok (.lload 4, 2) := by decide +kernel
theorem dX11_cut_30 : decode cX11_cut 30 = .ok (.ldc2_w 68, 3) := by decide +kernel
theorem dX11_cut_33 : decode cX11_cut 33 = .ok (.lmul, 1) := by decide +kernel
theorem dX11_cut_34 : decode cX11_cut 34 = .ok (.lstore 4, 2) := by decide +kernel
theorem dX11_cut_36 : decode cX11_cut 36 = .ok (.iinc 6 1, 3) := by decide +kernel
theorem dX11_cut_39 : decode cX11_cut 39 = .ok (.goto (-16), 3) := by decide +kernel
theorem dX11_cut_42 : decode cX11_cut 42 = .ok (.aload_n 0, 1) := by decide +kernel
theorem dX11_cut_43 : decode cX11_cut 43 = .ok (.lload_n 2, 1) := by decide +kernel
theorem dX11_cut_44 : decode cX11_cut 44 = .ok (.lload 4, 2) := by decide +kernel
theorem dX11_cut_46 : decode cX11_cut 46 = .ok (.bipush 24, 2) := by decide +kernel
theorem dX11_cut_48 : decode cX11_cut 48 = .ok (.invokevirtual 329, 3) := by decide +kernel
theorem dX11_cut_51 : decode cX11_cut 51 = .ok (.aload_n 0, 1) := by decide +kernel
theorem dX11_cut_52 : decode cX11_cut 52 = .ok (.getfield 320, 3) := by decide +kernel
theorem dX11_cut_55 : decode cX11_cut 55 = .ok (.ifCond .ge 7, 3) := by decide +kernel
theorem dX11_cut_58 : decode cX11_cut 58 = .ok (.lconst 0, 1) := by decide +kernel
theorem dX11_cut_59 : decode cX11_cut 59 = .ok (.goto 39, 3) := by decide +kernel
theorem dX11_cut_62 : decode cX11_cut 62 = .ok (.aload_n 0, 1) := by decide +kernel
theorem dX11_cut_63 : decode cX11_cut 63 = .ok (.getfield 320, 3) := by decide +kernel
theorem dX11_cut_66 : decode cX11_cut 66 = .ok (.bipush 23, 2) := by decide +kernel
theorem dX11_cut_68 : decode cX11_cut 68 = .ok (.if_icmp .ge 18, 3) := by decide +kernel
theorem dX11_cut_71 : decode cX11_cut 71 = .ok (.aload_n 0, 1) := by decide +kernel
theorem dX11_cut_72 : decode cX11_cut 72 = .ok (.getfield 323, 3) := by decide +kernel
theorem dX11_cut_75 : decode cX11_cut 75 = .ok (.bipush 23, 2) := by decide +kernel
theorem dX11_cut_77 : decode cX11_cut 77 = .ok (.aload_n 0, 1) := by decide +kernel
theorem dX11_cut_78 : decode cX11_cut 78 = .ok (.getfield 320, 3) := by decide +kernel
theorem dX11_cut_81 : decode cX11_cut 81 = .ok (.isub, 1) := by decide +kernel
theorem dX11_cut_82 : decode cX11_cut 82 = .ok (.lshr, 1) := by decide +kernel
theorem dX11_cut_83 : decode cX11_cut 83 = .ok (.goto 15, 3) := by decide +kernel
theorem dX11_cut_86 : decode cX11_cut 86 = .ok (.aload_n 0, 1) := by decide +kernel
theorem dX11_cut_87 : decode cX11_cut 87 = .ok (.getfield 323, 3) := by decide +kernel
theorem dX11_cut_90 : decode cX11_cut 90 = .ok (.aload_n 0, 1) := by decide +kernel
theorem dX11_cut_91 : decode cX11_cut 91 = .ok (.getfield 320, 3) := by decide +kernel
theorem dX11_cut_94 : decode cX11_cut 94 = .ok (.bipush 23, 2) := by decide +kernel
theorem dX11_cut_96 : decode cX11_cut 96 = .ok (.isub, 1) := by decide +kernel
theorem dX11_cut_97 : decode cX11_cut 97 = .ok (.lshl, 1) := by decide +kernel
theorem dX11_cut_98 : decode cX11_cut 98 = .ok (.lreturn, 1) := by decide +kernel
theorem dX11_share_0 : decode cX11_share 0 = .ok (.iload_n 1, 1) := by decide +kernel
theorem dX11_share_1 : decode cX11_share 1 = .ok (.invokestatic 128, 3) := by decide +kernel
theorem dX11_share_4 : decode cX11_share 4 = .ok (.ifCond .ne 7, 3) := by decide +kernel
theorem dX11_share_7 : decode cX11_share 7 = .ok (.ldc2_w 333, 3) := by decide +kernel
theorem dX11_share_10 : decode cX11_share 10 = .ok (.lreturn, 1) := by decide +kernel
theorem dX11_share_11 : decode cX11_share 11 = .ok (.iload_n 2, 1) := by decide +kernel
theorem dX11_share_12 : decode cX11_share 12 = .ok (.i2l, 1) := by decide +kernel
theorem dX11_share_13 : decode cX11_share 13 = .ok (.lconst 0, 1) := by decide +kernel
theorem dX11_share_14 : decode cX11_share 14 = .ok (.ldc2_w 227, 3) := by decide +kernel
theorem dX11_share_17 : decode cX11_share 17 = .ok (.invokestatic 64, 3) := by decide +kernel
theorem dX11_share_20 : decode cX11_share 20 = .ok (.ifCond .eq 15, 3) := by decide +kernel
theorem dX11_share_23 : decode cX11_share 23 = .ok (.iload_n 3, 1) := by decide +kernel
theorem dX11_share_24 : decode cX11_share 24 = .ok (.i2l, 1) := by decide +kernel
theorem dX11_share_25 : decode cX11_share 25 = .ok (.lconst 0, 1) := by decide +kernel
theorem dX11_share_26 : decode cX11_share 26 = .ok (.ldc2_w 68, 3) := by decide +kernel
theorem dX11_share_29 : decode cX11_share 29 = .ok (.invokestatic 64, 3) := by decide +kernel
theorem dX11_share_32 : decode cX11_share 32 = .ok (.ifCond .ne 7, 3) := by decide +kernel
theorem dX11_share_35 : decode cX11_share 35 = .ok (.ldc2_w 335, 3) := by decide +kernel
theorem dX11_share_38 : decode cX11_share 38 = .ok (.lreturn, 1) := by decide +kernel
theorem dX11_share_39 : decode cX11_share 39 = .ok (.aload_n 0, 1) := by decide +kernel
theorem dX11_share_40 : decode cX11_share 40 = .ok (.iload_n 1, 1) := by decide +kernel
theorem dX11_share_41 : decode cX11_share 41 = .ok (.invokevirtual 192, 3) := by decide +kernel
theorem dX11_share_44 : decode cX11_share 44 = .ok (.aload_n 0, 1) := by decide +kernel
theorem dX11_share_45 : decode cX11_share 45 = .ok (.iload_n 2, 1) := by decide +kernel
theorem dX11_share_46 : decode cX11_share 46 = .ok (.invokevirtual 229, 3) := by decide +kernel
theorem dX11_share_49 : decode cX11_share 49 = .ok (.istore 4, 2) := by decide +kernel
theorem dX11_share_51 : decode cX11_share 51 = .ok (.iload 4, 2) := by decide +kernel
theorem dX11_share_53 : decode cX11_share 53 = .ok (.ifCond .ne 5, 3) := by decide +kernel
theorem dX11_share_56 : decode cX11_share 56 = .ok (.lconst 0, 1) := by decide +kernel
theorem dX11_share_57 : decode cX11_share 57 = .ok (.lreturn, 1) := by decide +kernel
theorem dX11_share_58 : decode cX11_share 58 = .ok (.aload_n 0, 1) := by decide +kernel
theorem dX11_share_59 : decode cX11_share 59 = .ok (.iload 4, 2) := by decide +kernel
theorem dX11_share_61 : decode cX11_share 61 = .ok (.i2l, 1) := by decide +kernel
theorem dX11_share_62 : decode cX11_share 62 = .ok (.iload_n 2, 1) := by decide +kernel
theorem dX11_share_63 : decode cX11_share 63 = .ok (.iconst 3, 1) := by decide +kernel
theorem dX11_share_64 : decode cX11_share 64 = .ok (.iadd, 1) := by decide +kernel
theorem dX11_share_65 : decode cX11_share 65 = .ok (.iconst 3, 1) := by decide +kernel
theorem dX11_share_66 : decode cX11_share 66 = .ok (.invokestatic 221, 3) := by decide +kernel
theorem dX11_share_69 : decode cX11_share 69 = .ok (.i2l, 1) := by decide +kernel
theorem dX11_share_70 : decode cX11_share 70 = .ok (.iload_n 3, 1) := by decide +kernel
theorem dX11_share_71 : decode cX11_share 71 = .ok (.iconst 1, 1) := by decide +kernel
theorem dX11_share_72 : decode cX11_share 72 = .ok (.if_icmp .ne 8, 3) := by decide +kernel
theorem dX11_share_75 : decode cX11_share 75 = .ok (.bipush 53, 2) := by decide +kernel
theorem dX11_share_77 : decode cX11_share 77 = .ok (.goto 5, 3) := by decide +kernel
theorem dX11_share_80 : decode cX11_share 80 = .ok (.bipush 24, 2) := by decide +kernel
theorem dX11_share_82 : decode cX11_share 82 = .ok (.invokevirtual 329, 3) := by decide +kernel
theorem dX11_share_85 : decode cX11_share 85 = .ok (.iload_n 3, 1) := by decide +kernel
theorem dX11_share_86 : decode cX11_share 86 = .ok (.ifCond .ne 14, 3) := by decide +kernel
theorem dX11_share_89 : decode cX11_share 89 = .ok (.aload_n 0, 1) := by decide +kernel
theorem dX11_share_90 : decode cX11_share 90 = .ok (.bipush 24, 2) := by decide +kernel
theorem dX11_share_92 : decode cX11_share 92 = .ok (.bipush 127, 2) := by decide +kernel
theorem dX11_share_94 : decode cX11_share 94 = .ok (.invokevirtual 337, 3) := by decide +kernel
theorem dX11_share_97 : decode cX11_share 97 = .ok (.goto 24, 3) := by decide +kernel
theorem dX11_share_100 : decode cX11_share 100 = .ok (.iload_n 3, 1) := by decide +kernel
theorem dX11_share_101 : decode cX11_share 101 = .ok (.iconst 1, 1) := by decide +kernel
theorem dX11_share_102 : decode cX11_share 102 = .ok (.if_icmp .ne 15, 3) := by decide +kernel
theorem dX11_share_105 : decode cX11_share 105 = .ok (.aload_n 0, 1) := by decide +kernel
theorem dX11_share_106 : decode cX11_share 106 = .ok (.bipush 53, 2) := by decide +kernel
theorem dX11_share_108 : decode cX11_share 108 = .ok (.sipush 1023, 3) := by decide +kernel
theorem dX11_share_111 : decode cX11_share 111 = .ok (.invokevirtual 337, 3) := by decide +kernel
theorem dX11_share_114 : decode cX11_share 114 = .ok (.goto 7, 3) := by decide +kernel
theorem dX11_share_117 : decode cX11_share 117 = .ok (.aload_n 0, 1) := by decide +kernel
theorem dX11_share_118 : decode cX11_share 118 = .ok (.invokevirtual 341, 3) := by decide +kernel
theorem dX11_share_121 : decode cX11_share 121 = .ok (.lreturn, 1) := by decide +kernel
theorem dX11_holderOf_0 : decode cX11_holderOf 0 = .ok (.iconst 4, 1) := by decide +kernel
theorem dX11_holderOf_1 : decode cX11_holderOf 1 = .ok (.iconst 4, 1) := by decide +kernel
theorem dX11_holderOf_2 : decode cX11_holderOf 2 = .ok (.iload_n 0, 1) := by decide +kernel
theorem dX11_holderOf_3 : decode cX11_holderOf 3 = .ok (.imul, 1) := by decide +kernel
theorem dX11_holderOf_4 : decode cX11_holderOf 4 = .ok (.iadd, 1) := by decide +kernel
theorem dX11_holderOf_5 : decode cX11_holderOf 5 = .ok (.iload_n 1, 1) := by decide +kernel
theorem dX11_holderOf_6 : decode cX11_holderOf 6 = .ok (.iadd, 1) := by decide +kernel
theorem dX11_holderOf_7 : decode cX11_holderOf 7 = .ok (.ireturn, 1) := by decide +kernel
theorem dX11_copy_0 : decode cX11_copy 0 = .ok (.aload_n 0, 1) := by decide +kernel
theorem dX11_copy_1 : decode cX11_copy 1 = .ok (.getfield 13, 3) := by decide +kernel
theorem dX11_copy_4 : decode cX11_copy 4 = .ok (.iload_n 2, 1) := by decide +kernel
theorem dX11_copy_5 : decode cX11_copy 5 = .ok (.aload_n 0, 1) := by decide +kernel
theorem dX11_copy_6 : decode cX11_copy 6 = .ok (.getfield 13, 3) := by decide +kernel
theorem dX11_copy_9 : decode cX11_copy 9 = .ok (.iload_n 1, 1) := by decide +kernel
theorem dX11_copy_10 : decode cX11_copy 10 = .ok (.iaload, 1) := by decide +kernel
theorem dX11_copy_11 : decode cX11_copy 11 = .ok (.iastore, 1) := by decide +kernel
theorem dX11_copy_12 : decode cX11_copy 12 = .ok (.iconst 0, 1) := by decide +kernel
theorem dX11_copy_13 : decode cX11_copy 13 = .ok (.istore_n 3, 1) := by decide +kernel
theorem dX11_copy_14 : decode cX11_copy 14 = .ok (.iload_n 3, 1) := by decide +kernel
theorem dX11_copy_15 : decode cX11_copy 15 = .ok (.aload_n 0, 1) := by decide +kernel
theorem dX11_copy_16 : decode cX11_copy 16 = .ok (.getfield 13, 3) := by decide +kernel
theorem dX11_copy_19 : decode cX11_copy 19 = .ok (.iload_n 1, 1) := by decide +kernel
theorem dX11_copy_20 : decode cX11_copy 20 = .ok (.iaload, 1) := by decide +kernel
theorem dX11_copy_21 : decode cX11_copy 21 = .ok (.if_icmp .ge 26, 3) := by decide +kernel
theorem dX11_copy_24 : decode cX11_copy 24 = .ok (.aload_n 0, 1) := by decide +kernel
theorem dX11_copy_25 : decode cX11_copy 25 = .ok (.getfield 7, 3) := by decide +kernel
theorem dX11_copy_28 : decode cX11_copy 28 = .ok (.bipush 40, 2) := by decide +kernel
theorem dX11_copy_30 : decode cX11_copy 30 = .ok (.iload_n 2, 1) := by decide +kernel
theorem dX11_copy_31 : decode cX11_copy 31 = .ok (.imul, 1) := by decide +kernel
theorem dX11_copy_32 : decode cX11_copy 32 = .ok (.iload_n 3, 1) := by decide +kernel
theorem dX11_copy_33 : decode cX11_copy 33 = .ok (.iadd, 1) := by decide +kernel
theorem dX11_copy_34 : decode cX11_copy 34 = .ok (.aload_n 0, 1) := by decide +kernel
theorem dX11_copy_35 : decode cX11_copy 35 = .ok (.iload_n 1, 1) := by decide +kernel
theorem dX11_copy_36 : decode cX11_copy 36 = .ok (.iload_n 3, 1) := by decide +kernel
theorem dX11_copy_37 : decode cX11_copy 37 = .ok (.invokevirtual 86, 3) := by decide +kernel
theorem dX11_copy_40 : decode cX11_copy 40 = .ok (.iastore, 1) := by decide +kernel
theorem dX11_copy_41 : decode cX11_copy 41 = .ok (.iinc 3 1, 3) := by decide +kernel
theorem dX11_copy_44 : decode cX11_copy 44 = .ok (.goto (-30), 3) := by decide +kernel
theorem dX11_copy_47 : decode cX11_copy 47 = .ok (.return_, 1) := by decide +kernel
theorem dX11_hold_0 : decode cX11_hold 0 = .ok (.iload_n 1, 1) := by decide +kernel
theorem dX11_hold_1 : decode cX11_hold 1 = .ok (.iload_n 2, 1) := by decide +kernel
theorem dX11_hold_2 : decode cX11_hold 2 = .ok (.invokestatic 345, 3) := by decide +kernel
theorem dX11_hold_5 : decode cX11_hold 5 = .ok (.ifCond .eq 10, 3) := by decide +kernel
theorem dX11_hold_8 : decode cX11_hold 8 = .ok (.iload_n 3, 1) := by decide +kernel
theorem dX11_hold_9 : decode cX11_hold 9 = .ok (.invokestatic 128, 3) := by decide +kernel
theorem dX11_hold_12 : decode cX11_hold 12 = .ok (.ifCond .ne 5, 3) := by decide +kernel
theorem dX11_hold_15 : decode cX11_hold 15 = .ok (.iconst (-1), 1) := by decide +kernel
theorem dX11_hold_16 : decode cX11_hold 16 = .ok (.ireturn, 1) := by decide +kernel
theorem dX11_hold_17 : decode cX11_hold 17 = .ok (.iload_n 1, 1) := by decide +kernel
theorem dX11_hold_18 : decode cX11_hold 18 = .ok (.ifCond .ne 8, 3) := by decide +kernel
theorem dX11_hold_21 : decode cX11_hold 21 = .ok (.iload 4, 2) := by decide +kernel
theorem dX11_hold_23 : decode cX11_hold 23 = .ok (.ifCond .ne 13, 3) := by decide +kernel
theorem dX11_hold_26 : decode cX11_hold 26 = .ok (.iload_n 1, 1) := by decide +kernel
theorem dX11_hold_27 : decode cX11_hold 27 = .ok (.iconst 1, 1) := by decide +kernel
theorem dX11_hold_28 : decode cX11_hold 28 = .ok (.if_icmp .ne 11, 3) := by decide +kernel
theorem dX11_hold_31 : decode cX11_hold 31 = .ok (.iload 4, 2) := by decide +kernel
theorem dX11_hold_33 : decode cX11_hold 33 = .ok (.ifCond .ne 6, 3) := by decide +kernel
theorem dX11_hold_36 : decode cX11_hold 36 = .ok (.bipush (-3), 2) := by decide +kernel
theorem dX11_hold_38 : decode cX11_hold 38 = .ok (.ireturn, 1) := by decide +kernel
theorem dX11_hold_39 : decode cX11_hold 39 = .ok (.aload_n 0, 1) := by decide +kernel
theorem dX11_hold_40 : decode cX11_hold 40 = .ok (.iload_n 3, 1) := by decide +kernel
theorem dX11_hold_41 : decode cX11_hold 41 = .ok (.iload_n 1, 1) := by decide +kernel
theorem dX11_hold_42 : decode cX11_hold 42 = .ok (.iload_n 2, 1) := by decide +kernel
theorem dX11_hold_43 : decode cX11_hold 43 = .ok (.invokestatic 348, 3) := by decide +kernel
theorem dX11_hold_46 : decode cX11_hold 46 = .ok (.invokevirtual 351, 3) := by decide +kernel
theorem dX11_hold_49 : decode cX11_hold 49 = .ok (.aload_n 0, 1) := by decide +kernel
theorem dX11_hold_50 : decode cX11_hold 50 = .ok (.getfield 16, 3) := by decide +kernel
theorem dX11_hold_53 : decode cX11_hold 53 = .ok (.iconst 4, 1) := by decide +kernel
theorem dX11_hold_54 : decode cX11_hold 54 = .ok (.iload_n 1, 1) := by decide +kernel
theorem dX11_hold_55 : decode cX11_hold 55 = .ok (.imul, 1) := by decide +kernel
theorem dX11_hold_56 : decode cX11_hold 56 = .ok (.iload_n 2, 1) := by decide +kernel
theorem dX11_hold_57 : decode cX11_hold 57 = .ok (.iadd, 1) := by decide +kernel
theorem dX11_hold_58 : decode cX11_hold 58 = .ok (.iload 4, 2) := by decide +kernel
theorem dX11_hold_60 : decode cX11_hold 60 = .ok (.ifCond .eq 7, 3) := by decide +kernel
theorem dX11_hold_63 : decode cX11_hold 63 = .ok (.iconst 2, 1) := by decide +kernel
theorem dX11_hold_64 : decode cX11_hold 64 = .ok (.goto 4, 3) := by decide +kernel
theorem dX11_hold_67 : decode cX11_hold 67 = .ok (.iconst 1, 1) := by decide +kernel
theorem dX11_hold_68 : decode cX11_hold 68 = .ok (.iastore, 1) := by decide +kernel
theorem dX11_hold_69 : decode cX11_hold 69 = .ok (.iconst 1, 1) := by decide +kernel
theorem dX11_hold_70 : decode cX11_hold 70 = .ok (.ireturn, 1) := by decide +kernel
theorem dX11_take_0 : decode cX11_take 0 = .ok (.iload_n 1, 1) := by decide +kernel
theorem dX11_take_1 : decode cX11_take 1 = .ok (.iload_n 2, 1) := by decide +kernel
theorem dX11_take_2 : decode cX11_take 2 = .ok (.invokestatic 345, 3) := by decide +kernel
theorem dX11_take_5 : decode cX11_take 5 = .ok (.ifCond .eq 10, 3) := by decide +kernel
theorem dX11_take_8 : decode cX11_take 8 = .ok (.iload_n 3, 1) := by decide +kernel
theorem dX11_take_9 : decode cX11_take 9 = .ok (.invokestatic 128, 3) := by decide +kernel
theorem dX11_take_12 : decode cX11_take 12 = .ok (.ifCond .ne 5, 3) := by decide +kernel
theorem dX11_take_15 : decode cX11_take 15 = .ok (.iconst (-1), 1) := by decide +kernel
theorem dX11_take_16 : decode cX11_take 16 = .ok (.ireturn, 1) := by decide +kernel
theorem dX11_take_17 : decode cX11_take 17 = .ok (.aload_n 0, 1) := by decide +kernel
theorem dX11_take_18 : decode cX11_take 18 = .ok (.getfield 16, 3) := by decide +kernel
theorem dX11_take_21 : decode cX11_take 21 = .ok (.iconst 4, 1) := by decide +kernel
theorem dX11_take_22 : decode cX11_take 22 = .ok (.iload_n 1, 1) := by decide +kernel
theorem dX11_take_23 : decode cX11_take 23 = .ok (.imul, 1) := by decide +kernel
theorem dX11_take_24 : decode cX11_take 24 = .ok (.iload_n 2, 1) := by decide +kernel
theorem dX11_take_25 : decode cX11_take 25 = .ok (.iadd, 1) := by decide +kernel
theorem dX11_take_26 : decode cX11_take 26 = .ok (.iaload, 1) := by decide +kernel
theorem dX11_take_27 : decode cX11_take 27 = .ok (.istore 4, 2) := by decide +kernel
theorem dX11_take_29 : decode cX11_take 29 = .ok (.iload 4, 2) := by decide +kernel
theorem dX11_take_31 : decode cX11_take 31 = .ok (.iconst 1, 1) := by decide +kernel
theorem dX11_take_32 : decode cX11_take 32 = .ok (.if_icmp .eq 16, 3) := by decide +kernel
theorem dX11_take_35 : decode cX11_take 35 = .ok (.iload 4, 2) := by decide +kernel
theorem dX11_take_37 : decode cX11_take 37 = .ok (.ifCond .ne 8, 3) := by decide +kernel
theorem dX11_take_40 : decode cX11_take 40 = .ok (.bipush (-5), 2) := by decide +kernel
theorem dX11_take_42 : decode cX11_take 42 = .ok (.goto 5, 3) := by decide +kernel
theorem dX11_take_45 : decode cX11_take 45 = .ok (.bipush (-3), 2) := by decide +kernel
theorem dX11_take_47 : decode cX11_take 47 = .ok (.ireturn, 1) := by decide +kernel
theorem dX11_take_48 : decode cX11_take 48 = .ok (.aload_n 0, 1) := by decide +kernel
theorem dX11_take_49 : decode cX11_take 49 = .ok (.iload_n 1, 1) := by decide +kernel
theorem dX11_take_50 : decode cX11_take 50 = .ok (.iload_n 2, 1) := by decide +kernel
theorem dX11_take_51 : decode cX11_take 51 = .ok (.invokestatic 348, 3) := by decide +kernel
theorem dX11_take_54 : decode cX11_take 54 = .ok (.iload_n 3, 1) := by decide +kernel
theorem dX11_take_55 : decode cX11_take 55 = .ok (.invokevirtual 351, 3) := by decide +kernel
theorem dX11_take_58 : decode cX11_take 58 = .ok (.aload_n 0, 1) := by decide +kernel
theorem dX11_take_59 : decode cX11_take 59 = .ok (.getfield 13, 3) := by decide +kernel
theorem dX11_take_62 : decode cX11_take 62 = .ok (.iload_n 3, 1) := by decide +kernel
theorem dX11_take_63 : decode cX11_take 63 = .ok (.iaload, 1) := by decide +kernel
theorem dX11_take_64 : decode cX11_take 64 = .ok (.ireturn, 1) := by decide +kernel
theorem dX11_measure_0 : decode cX11_measure 0 = .ok (.iload_n 1, 1) := by decide +kernel
theorem dX11_measure_1 : decode cX11_measure 1 = .ok (.iload_n 2, 1) := by decide +kernel
theorem dX11_measure_2 : decode cX11_measure 2 = .ok (.invokestatic 345, 3) := by decide +kernel
theorem dX11_measure_5 : decode cX11_measure 5 = .ok (.ifCond .ne 5, 3) := by decide +kernel
theorem dX11_measure_8 : decode cX11_measure 8 = .ok (.iconst (-1), 1) := by decide +kernel
theorem dX11_measure_9 : decode cX11_measure 9 = .ok (.ireturn, 1) := by decide +kernel
theorem dX11_measure_10 : decode cX11_measure 10 = .ok (.aload_n 0, 1) := by decide +kernel
theorem dX11_measure_11 : decode cX11_measure 11 = .ok (.getfield 16, 3) := by decide +kernel
theorem dX11_measure_14 : decode cX11_measure 14 = .ok (.iconst 4, 1) := by decide +kernel
theorem dX11_measure_15 : decode cX11_measure 15 = .ok (.iload_n 1, 1) := by decide +kernel
theorem dX11_measure_16 : decode cX11_measure 16 = .ok (.imul, 1) := by decide +kernel
theorem dX11_measure_17 : decode cX11_measure 17 = .ok (.iload_n 2, 1) := by decide +kernel
theorem dX11_measure_18 : decode cX11_measure 18 = .ok (.iadd, 1) := by decide +kernel
theorem dX11_measure_19 : decode cX11_measure 19 = .ok (.iaload, 1) := by decide +kernel
theorem dX11_measure_20 : decode cX11_measure 20 = .ok (.istore_n 3, 1) := by decide +kernel
theorem dX11_measure_21 : decode cX11_measure 21 = .ok (.iload_n 3, 1) := by decide +kernel
theorem dX11_measure_22 : decode cX11_measure 22 = .ok (.ifCond .ne 6, 3) := by decide +kernel
theorem dX11_measure_25 : decode cX11_measure 25 = .ok (.bipush (-5), 2) := by decide +kernel
theorem dX11_measure_27 : decode cX11_measure 27 = .ok (.ireturn, 1) := by decide +kernel
theorem dX11_measure_28 : decode cX11_measure 28 = .ok (.iload_n 3, 1) := by decide +kernel
theorem dX11_measure_29 : decode cX11_measure 29 = .ok (.iconst 1, 1) := by decide +kernel
theorem dX11_measure_30 : decode cX11_measure 30 = .ok (.if_icmp .ne 16, 3) := by decide +kernel
theorem dX11_measure_33 : decode cX11_measure 33 = .ok (.aload_n 0, 1) := by decide +kernel
theorem dX11_measure_34 : decode cX11_measure 34 = .ok (.getfield 13, 3) := by decide +kernel
theorem dX11_measure_37 : decode cX11_measure 37 = .ok (.iload_n 1, 1) := by decide +kernel
theorem dX11_measure_38 : decode cX11_measure 38 = .ok (.iload_n 2, 1) := by decide +kernel
theorem dX11_measure_39 : decode cX11_measure 39 = .ok (.invokestatic 348, 3) := by decide +kernel
theorem dX11_measure_42 : decode cX11_measure 42 = .ok (.iaload, 1) := by decide +kernel
theorem dX11_measure_43 : decode cX11_measure 43 = .ok (.goto 12, 3) := by decide +kernel
theorem dX11_measure_46 : decode cX11_measure 46 = .ok (.aload_n 0, 1) := by decide +kernel
theorem dX11_measure_47 : decode cX11_measure 47 = .ok (.iload_n 1, 1) := by decide +kernel
theorem dX11_measure_48 : decode cX11_measure 48 = .ok (.iload_n 2, 1) := by decide +kernel
theorem dX11_measure_49 : decode cX11_measure 49 = .ok (.invokestatic 348, 3) := by decide +kernel
theorem dX11_measure_52 : decode cX11_measure 52 = .ok (.invokevirtual 290, 3) := by decide +kernel
theorem dX11_measure_55 : decode cX11_measure 55 = .ok (.ireturn, 1) := by decide +kernel
theorem dX11_passRow_0 : decode cX11_passRow 0 = .ok (.iconst 0, 1) := by decide +kernel
theorem dX11_passRow_1 : decode cX11_passRow 1 = .ok (.istore_n 3, 1) := by decide +kernel
theorem dX11_passRow_2 : decode cX11_passRow 2 = .ok (.iload_n 3, 1) := by decide +kernel
theorem dX11_passRow_3 : decode cX11_passRow 3 = .ok (.iload_n 2, 1) := by decide +kernel
theorem dX11_passRow_4 : decode cX11_passRow 4 = .ok (.if_icmp .ge 56, 3) := by decide +kernel
theorem dX11_passRow_7 : decode cX11_passRow 7 = .ok (.aload_n 1, 1) := by decide +kernel
theorem dX11_passRow_8 : decode cX11_passRow 8 = .ok (.iload_n 3, 1) := by decide +kernel
theorem dX11_passRow_9 : decode cX11_passRow 9 = .ok (.aload_n 0, 1) := by decide +kernel
theorem dX11_passRow_10 : decode cX11_passRow 10 = .ok (.getfield 354, 3) := by decide +kernel
theorem dX11_passRow_13 : decode cX11_passRow 13 = .ok (.ifCond .eq 9, 3) := by decide +kernel
theorem dX11_passRow_16 : decode cX11_passRow 16 = .ok (.aload_n 1, 1) := by decide +kernel
theorem dX11_passRow_17 : decode cX11_passRow 17 = .ok (.iload_n 3, 1) := by decide +kernel
theorem dX11_passRow_18 : decode cX11_passRow 18 = .ok (.iaload, 1) := by decide +kernel
theorem dX11_passRow_19 : decode cX11_passRow 19 = .ok (.goto 12, 3) := by decide +kernel
theorem dX11_passRow_22 : decode cX11_passRow 22 = .ok (.aload_n 0, 1) := by decide +kernel
theorem dX11_passRow_23 : decode cX11_passRow 23 = .ok (.getfield 56, 3) := by decide +kernel
theorem dX11_passRow_26 : decode cX11_passRow 26 = .ok (.aload_n 0, 1) := by decide +kernel
theorem dX11_passRow_27 : decode cX11_passRow 27 = .ok (.getfield 358, 3) := by decide +kernel
theorem dX11_passRow_30 : decode cX11_passRow 30 = .ok (.iaload, 1) := by decide +kernel
theorem dX11_passRow_31 : decode cX11_passRow 31 = .ok (.iastore, 1) := by decide +kernel
theorem dX11_passRow_32 : decode cX11_passRow 32 = .ok (.aload_n 0, 1) := by decide +kernel
theorem dX11_passRow_33 : decode cX11_passRow 33 = .ok (.getfield 56, 3) := by decide +kernel
theorem dX11_passRow_36 : decode cX11_passRow 36 = .ok (.aload_n 0, 1) := by decide +kernel
theorem dX11_passRow_37 : decode cX11_passRow 37 = .ok (.getfield 358, 3) := by decide +kernel
theorem dX11_passRow_40 : decode cX11_passRow 40 = .ok (.aload_n 1, 1) := by decide +kernel
theorem dX11_passRow_41 : decode cX11_passRow 41 = .ok (.iload_n 3, 1) := by decide +kernel
theorem dX11_passRow_42 : decode cX11_passRow 42 = .ok (.iaload, 1) := by decide +kernel
theorem dX11_passRow_43 : decode cX11_passRow 43 = .ok (.iastore, 1) := by decide +kernel
theorem dX11_passRow_44 : decode cX11_passRow 44 = .ok (.aload_n 0, 1) := by decide +kernel
theorem dX11_passRow_45 : decode cX11_passRow 45 = .ok (.dup, 1) := by decide +kernel
theorem dX11_passRow_46 : decode cX11_passRow 46 = .ok (.getfield 358, 3) := by decide +kernel
theorem dX11_passRow_49 : decode cX11_passRow 49 = .ok (.iconst 1, 1) := by decide +kernel
theorem dX11_passRow_50 : decode cX11_passRow 50 = .ok (.iadd, 1) := by decide +kernel
theorem dX11_passRow_51 : decode cX11_passRow 51 = .ok (.putfield 358, 3) := by decide +kernel
theorem dX11_passRow_54 : decode cX11_passRow 54 = .ok (.iinc 3 1, 3) := by decide +kernel
theorem dX11_passRow_57 : decode cX11_passRow 57 = .ok (.goto (-55), 3) := by decide +kernel
theorem dX11_passRow_60 : decode cX11_passRow 60 = .ok (.return_, 1) := by decide +kernel
theorem dX11_passAll_0 : decode cX11_passAll 0 = .ok (.aload_n 0, 1) := by decide +kernel
theorem dX11_passAll_1 : decode cX11_passAll 1 = .ok (.aload_n 0, 1) := by decide +kernel
theorem dX11_passAll_2 : decode cX11_passAll 2 = .ok (.getfield 7, 3) := by decide +kernel
theorem dX11_passAll_5 : decode cX11_passAll 5 = .ok (.sipush 640, 3) := by decide +kernel
theorem dX11_passAll_8 : decode cX11_passAll 8 = .ok (.invokevirtual 361, 3) := by decide +kernel
theorem dX11_passAll_11 : decode cX11_passAll 11 = .ok (.aload_n 0, 1) := by decide +kernel
theorem dX11_passAll_12 : decode cX11_passAll 12 = .ok (.aload_n 0, 1) := by decide +kernel
theorem dX11_passAll_13 : decode cX11_passAll 13 = .ok (.getfield 13, 3) := by decide +kernel
theorem dX11_passAll_16 : decode cX11_passAll 16 = .ok (.bipush 16, 2) := by decide +kernel
theorem dX11_passAll_18 : decode cX11_passAll 18 = .ok (.invokevirtual 361, 3) := by decide +kernel
theorem dX11_passAll_21 : decode cX11_passAll 21 = .ok (.aload_n 0, 1) := by decide +kernel
theorem dX11_passAll_22 : decode cX11_passAll 22 = .ok (.aload_n 0, 1) := by decide +kernel
theorem dX11_passAll_23 : decode cX11_passAll 23 = .ok (.getfield 16, 3) := by decide +kernel
theorem dX11_passAll_26 : decode cX11_passAll 26 = .ok (.bipush 12, 2) := by decide +kernel
theorem dX11_passAll_28 : decode cX11_passAll 28 = .ok (.invokevirtual 361, 3) := by decide +kernel
theorem dX11_passAll_31 : decode cX11_passAll 31 = .ok (.return_, 1) := by decide +kernel
theorem dX11_image_0 : decode cX11_image 0 = .ok (.iload_n 1, 1) := by decide +kernel
theorem dX11_image_1 : decode cX11_image 1 = .ok (.i2l, 1) := by decide +kernel
theorem dX11_image_2 : decode cX11_image 2 = .ok (.lconst 0, 1) := by decide +kernel
theorem dX11_image_3 : decode cX11_image 3 = .ok (.lconst 1, 1) := by decide +kernel
theorem dX11_image_4 : decode cX11_image 4 = .ok (.invokestatic 64, 3) := by decide +kernel
theorem dX11_image_7 : decode cX11_image 7 = .ok (.ifCond .ne 6, 3) := by decide +kernel
theorem dX11_image_10 : decode cX11_image 10 = .ok (.bipush (-2), 2) := by decide +kernel
theorem dX11_image_12 : decode cX11_image 12 = .ok (.ireturn, 1) := by decide +kernel
theorem dX11_image_13 : decode cX11_image 13 = .ok (.aload_n 0, 1) := by decide +kernel
theorem dX11_image_14 : decode cX11_image 14 = .ok (.sipush 680, 3) := by decide +kernel
theorem dX11_image_17 : decode cX11_image 17 = .ok (.iload_n 1, 1) := by decide +kernel
theorem dX11_image_18 : decode cX11_image 18 = .ok (.imul, 1) := by decide +kernel
theorem dX11_image_19 : decode cX11_image 19 = .ok (.putfield 358, 3) := by decide +kernel
theorem dX11_image_22 : decode cX11_image 22 = .ok (.aload_n 0, 1) := by decide +kernel
theorem dX11_image_23 : decode cX11_image 23 = .ok (.iconst 1, 1) := by decide +kernel
theorem dX11_image_24 : decode cX11_image 24 = .ok (.putfield 354, 3) := by decide +kernel
theorem dX11_image_27 : decode cX11_image 27 = .ok (.aload_n 0, 1) := by decide +kernel
theorem dX11_image_28 : decode cX11_image 28 = .ok (.invokevirtual 365, 3) := by decide +kernel
theorem dX11_image_31 : decode cX11_image 31 = .ok (.aload_n 0, 1) := by decide +kernel
theorem dX11_image_32 : decode cX11_image 32 = .ok (.getfield 59, 3) := by decide +kernel
theorem dX11_image_35 : decode cX11_image 35 = .ok (.iload_n 1, 1) := by decide +kernel
theorem dX11_image_36 : decode cX11_image 36 = .ok (.iconst 1, 1) := by decide +kernel
theorem dX11_image_37 : decode cX11_image 37 = .ok (.bastore, 1) := by decide +kernel
theorem dX11_image_38 : decode cX11_image 38 = .ok (.iconst 1, 1) := by decide +kernel
theorem dX11_image_39 : decode cX11_image 39 = .ok (.ireturn, 1) := by decide +kernel
theorem dX11_restore_0 : decode cX11_restore 0 = .ok (.iload_n 1, 1) := by decide +kernel
theorem dX11_restore_1 : decode cX11_restore 1 = .ok (.i2l, 1) := by decide +kernel
theorem dX11_restore_2 : decode cX11_restore 2 = .ok (.lconst 0, 1) := by decide +kernel
theorem dX11_restore_3 : decode cX11_restore 3 = .ok (.lconst 1, 1) := by decide +kernel
theorem dX11_restore_4 : decode cX11_restore 4 = .ok (.invokestatic 64, 3) := by decide +kernel
theorem dX11_restore_7 : decode cX11_restore 7 = .ok (.ifCond .ne 6, 3) := by decide +kernel
theorem dX11_restore_10 : decode cX11_restore 10 = .ok (.bipush (-2), 2) := by decide +kernel
theorem dX11_restore_12 : decode cX11_restore 12 = .ok (.ireturn, 1) := by decide +kernel
theorem dX11_restore_13 : decode cX11_restore 13 = .ok (.aload_n 0, 1) := by decide +kernel
theorem dX11_restore_14 : decode cX11_restore 14 = .ok (.getfield 59, 3) := by decide +kernel
theorem dX11_restore_17 : decode cX11_restore 17 = .ok (.iload_n 1, 1) := by decide +kernel
theorem dX11_restore_18 : decode cX11_restore 18 = .ok (.baload, 1) := by decide +kernel
theorem dX11_restore_19 : decode cX11_restore 19 = .ok (.ifCond .ne 6, 3) := by decide +kernel
theorem dX11_restore_22 : decode cX11_restore 22 = .ok (.bipush (-3), 2) := by decide +kernel
theorem dX11_restore_24 : decode cX11_restore 24 = .ok (.ireturn, 1) := by decide +kernel
theorem dX11_restore_25 : decode cX11_restore 25 = .ok (.aload_n 0, 1) := by decide +kernel
theorem dX11_restore_26 : decode cX11_restore 26 = .ok (.sipush 680, 3) := by decide +kernel
theorem dX11_restore_29 : decode cX11_restore 29 = .ok (.iload_n 1, 1) := by decide +kernel
theorem dX11_restore_30 : decode cX11_restore 30 = .ok (.imul, 1) := by decide +kernel
theorem dX11_restore_31 : decode cX11_restore 31 = .ok (.putfield 358, 3) := by decide +kernel
theorem dX11_restore_34 : decode cX11_restore 34 = .ok (.aload_n 0, 1) := by decide +kernel
theorem dX11_restore_35 : decode cX11_restore 35 = .ok (.iconst 0, 1) := by decide +kernel
theorem dX11_restore_36 : decode cX11_restore 36 = .ok (.putfield 354, 3) := by decide +kernel
theorem dX11_restore_39 : decode cX11_restore 39 = .ok (.aload_n 0, 1) := by decide +kernel
theorem dX11_restore_40 : decode cX11_restore 40 = .ok (.invokevirtual 365, 3) := by decide +kernel
theorem dX11_restore_43 : decode cX11_restore 43 = .ok (.iconst 1, 1) := by decide +kernel
theorem dX11_restore_44 : decode cX11_restore 44 = .ok (.ireturn, 1) := by decide +kernel
theorem dX11_told_0 : decode cX11_told 0 = .ok (.iload_n 1, 1) := by decide +kernel
theorem dX11_told_1 : decode cX11_told 1 = .ok (.i2l, 1) := by decide +kernel
theorem dX11_told_2 : decode cX11_told 2 = .ok (.ldc2_w 368, 3) := by decide +kernel
theorem dX11_told_5 : decode cX11_told 5 = .ok (.ldc2_w 370, 3) := by decide +kernel
theorem dX11_told_8 : decode cX11_told 8 = .ok (.invokestatic 64, 3) := by decide +kernel
theorem dX11_told_11 : decode cX11_told 11 = .ok (.ifCond .eq 13, 3) := by decide +kernel
theorem dX11_told_14 : decode cX11_told 14 = .ok (.aload_n 0, 1) := by decide +kernel
theorem dX11_told_15 : decode cX11_told 15 = .ok (.getfield 13, 3) := by decide +kernel
theorem dX11_told_18 : decode cX11_told 18 = .ok (.iload_n 1, 1) := by decide +kernel
theorem dX11_told_19 : decode cX11_told 19 = .ok (.bipush 10, 2) := by decide +kernel
theorem dX11_told_21 : decode cX11_told 21 = .ok (.isub, 1) := by decide +kernel
theorem dX11_told_22 : decode cX11_told 22 = .ok (.iaload, 1) := by decide +kernel
theorem dX11_told_23 : decode cX11_told 23 = .ok (.ireturn, 1) := by decide +kernel
theorem dX11_told_24 : decode cX11_told 24 = .ok (.iload_n 1, 1) := by decide +kernel
theorem dX11_told_25 : decode cX11_told 25 = .ok (.i2l, 1) := by decide +kernel
theorem dX11_told_26 : decode cX11_told 26 = .ok (.ldc2_w 372, 3) := by decide +kernel
theorem dX11_told_29 : decode cX11_told 29 = .ok (.ldc2_w 121, 3) := by decide +kernel
theorem dX11_told_32 : decode cX11_told 32 = .ok (.invokestatic 64, 3) := by decide +kernel
theorem dX11_told_35 : decode cX11_told 35 = .ok (.ifCond .eq 30, 3) := by decide +kernel
theorem dX11_told_38 : decode cX11_told 38 = .ok (.iload_n 1, 1) := by decide +kernel
theorem dX11_told_39 : decode cX11_told 39 = .ok (.bipush 10, 2) := by decide +kernel
theorem dX11_told_41 : decode cX11_told 41 = .ok (.irem, 1) := by decide +kernel
theorem dX11_told_42 : decode cX11_told 42 = .ok (.iconst 4, 1) := by decide +kernel
theorem dX11_told_43 : decode cX11_told 43 = .ok (.if_icmp .ge 22, 3) := by decide +kernel
theorem dX11_told_46 : decode cX11_told 46 = .ok (.aload_n 0, 1) := by decide +kernel
theorem dX11_told_47 : decode cX11_told 47 = .ok (.getfield 16, 3) := by decide +kernel
theorem dX11_told_50 : decode cX11_told 50 = .ok (.iconst 4, 1) := by decide +kernel
theorem dX11_told_51 : decode cX11_told 51 = .ok (.iload_n 1, 1) := by decide +kernel
theorem dX11_told_52 : decode cX11_told 52 = .ok (.bipush 10, 2) := by decide +kernel
theorem dX11_told_54 : decode cX11_told 54 = .ok (.idiv, 1) := by decide +kernel
theorem dX11_told_55 : decode cX11_told 55 = .ok (.iconst 2, 1) := by decide +kernel
theorem dX11_told_56 : decode cX11_told 56 = .ok (.isub, 1) := by decide +kernel
theorem dX11_told_57 : decode cX11_told 57 = .ok (.imul, 1) := by decide +kernel
theorem dX11_told_58 : decode cX11_told 58 = .ok (.iload_n 1, 1) := by decide +kernel
theorem dX11_told_59 : decode cX11_told 59 = .ok (.bipush 10, 2) := by decide +kernel
theorem dX11_told_61 : decode cX11_told 61 = .ok (.irem, 1) := by decide +kernel
theorem dX11_told_62 : decode cX11_told 62 = .ok (.iadd, 1) := by decide +kernel
theorem dX11_told_63 : decode cX11_told 63 = .ok (.iaload, 1) := by decide +kernel
theorem dX11_told_64 : decode cX11_told 64 = .ok (.ireturn, 1) := by decide +kernel
theorem dX11_told_65 : decode cX11_told 65 = .ok (.iload_n 1, 1) := by decide +kernel
theorem dX11_told_66 : decode cX11_told 66 = .ok (.ifCond .ne 10, 3) := by decide +kernel
theorem dX11_told_69 : decode cX11_told 69 = .ok (.aload_n 0, 1) := by decide +kernel
theorem dX11_told_70 : decode cX11_told 70 = .ok (.getfield 107, 3) := by decide +kernel
theorem dX11_told_73 : decode cX11_told 73 = .ok (.goto 5, 3) := by decide +kernel
theorem dX11_told_76 : decode cX11_told 76 = .ok (.bipush (-2), 2) := by decide +kernel
theorem dX11_told_78 : decode cX11_told 78 = .ok (.ireturn, 1) := by decide +kernel
end
section
theorem dL_law_0 : decode cL_law 0 = .ok (.new 7, 3) := by decide +kernel
theorem dL_law_3 : decode cL_law 3 = .ok (.dup, 1) := by decide +kernel
theorem dL_law_4 : decode cL_law 4 = .ok (.invokespecial 9, 3) := by decide +kernel
theorem dL_law_7 : decode cL_law 7 = .ok (.astore_n 1, 1) := by decide +kernel
theorem dL_law_8 : decode cL_law 8 = .ok (.new 10, 3) := by decide +kernel
theorem dL_law_11 : decode cL_law 11 = .ok (.dup, 1) := by decide +kernel
theorem dL_law_12 : decode cL_law 12 = .ok (.invokespecial 12, 3) := by decide +kernel
theorem dL_law_15 : decode cL_law 15 = .ok (.astore_n 2, 1) := by decide +kernel
theorem dL_law_16 : decode cL_law 16 = .ok (.iconst 0, 1) := by decide +kernel
theorem dL_law_17 : decode cL_law 17 = .ok (.istore_n 3, 1) := by decide +kernel
theorem dL_law_18 : decode cL_law 18 = .ok (.iload_n 3, 1) := by decide +kernel
theorem dL_law_19 : decode cL_law 19 = .ok (.aload_n 0, 1) := by decide +kernel
theorem dL_law_20 : decode cL_law 20 = .ok (.arraylength, 1) := by decide +kernel
theorem dL_law_21 : decode cL_law 21 = .ok (.iconst 5, 1) := by decide +kernel
theorem dL_law_22 : decode cL_law 22 = .ok (.isub, 1) := by decide +kernel
theorem dL_law_23 : decode cL_law 23 = .ok (.if_icmp .gt 936, 3) := by decide +kernel
theorem dL_law_26 : decode cL_law 26 = .ok (.aload_n 0, 1) := by decide +kernel
theorem dL_law_27 : decode cL_law 27 = .ok (.iload_n 3, 1) := by decide +kernel
theorem dL_law_28 : decode cL_law 28 = .ok (.iaload, 1) := by decide +kernel
theorem dL_law_29 : decode cL_law 29 = .ok (.bipush 31, 2) := by decide +kernel
theorem dL_law_31 : decode cL_law 31 = .ok (.iand, 1) := by decide +kernel
theorem dL_law_32 : decode cL_law 32 = .ok (.tableswitch 921 0 23 #[112, 135, 148, 161, 184, 217, 250, 303, 336, 369, 402, 445, 488, 521, 554, 587, 620, 663, 707, 776, 819, 852, 875, 898], 112) := by decide +kernel
theorem dL_law_144 : decode cL_law 144 = .ok (.aload_n 1, 1) := by decide +kernel
theorem dL_law_145 : decode cL_law 145 = .ok (.aload_n 0, 1) := by decide +kernel
theorem dL_law_146 : decode cL_law 146 = .ok (.iload_n 3, 1) := by decide +kernel
theorem dL_law_147 : decode cL_law 147 = .ok (.iconst 1, 1) := by decide +kernel
theorem dL_law_148 : decode cL_law 148 = .ok (.iadd, 1) := by decide +kernel
theorem dL_law_149 : decode cL_law 149 = .ok (.iaload, 1) := by decide +kernel
theorem dL_law_150 : decode cL_law 150 = .ok (.invokevirtual 13, 3) := by decide +kernel
theorem dL_law_153 : decode cL_law 153 = .ok (.aload_n 2, 1) := by decide +kernel
theorem dL_law_154 : decode cL_law 154 = .ok (.aload_n 0, 1) := by decide +kernel
theorem dL_law_155 : decode cL_law 155 = .ok (.iload_n 3, 1) := by decide +kernel
theorem dL_law_156 : decode cL_law 156 = .ok (.iconst 1, 1) := by decide +kernel
theorem dL_law_157 : decode cL_law 157 = .ok (.iadd, 1) := by decide +kernel
theorem dL_law_158 : decode cL_law 158 = .ok (.iaload, 1) := by decide +kernel
theorem dL_law_159 : decode cL_law 159 = .ok (.invokevirtual 17, 3) := by decide +kernel
theorem dL_law_162 : decode cL_law 162 = .ok (.if_icmp .eq 791, 3) := by decide +kernel
theorem dL_law_165 : decode cL_law 165 = .ok (.iconst 0, 1) := by decide +kernel
theorem dL_law_166 : decode cL_law 166 = .ok (.ireturn, 1) := by decide +kernel
theorem dL_law_167 : decode cL_law 167 = .ok (.aload_n 1, 1) := by decide +kernel
theorem dL_law_168 : decode cL_law 168 = .ok (.invokevirtual 18, 3) := by decide +kernel
theorem dL_law_171 : decode cL_law 171 = .ok (.aload_n 2, 1) := by decide +kernel
theorem dL_law_172 : decode cL_law 172 = .ok (.invokevirtual 22, 3) := by decide +kernel
theorem dL_law_175 : decode cL_law 175 = .ok (.if_icmp .eq 778, 3) := by decide +kernel
theorem dL_law_178 : decode cL_law 178 = .ok (.iconst 0, 1) := by decide +kernel
theorem dL_law_179 : decode cL_law 179 = .ok (.ireturn, 1) := by decide +kernel
theorem dL_law_180 : decode cL_law 180 = .ok (.aload_n 1, 1) := by decide +kernel
theorem dL_law_181 : decode cL_law 181 = .ok (.invokevirtual 23, 3) := by decide +kernel
theorem dL_law_184 : decode cL_law 184 = .ok (.aload_n 2, 1) := by decide +kernel
theorem dL_law_185 : decode cL_law 185 = .ok (.invokevirtual 26, 3) := by decide +kernel
theorem dL_law_188 : decode cL_law 188 = .ok (.if_icmp .eq 765, 3) := by decide +kernel
theorem dL_law_191 : decode cL_law 191 = .ok (.iconst 0, 1) := by decide +kernel
theorem dL_law_192 : decode cL_law 192 = .ok (.ireturn, 1) := by decide +kernel
theorem dL_law_193 : decode cL_law 193 = .ok (.aload_n 1, 1) := by decide +kernel
theorem dL_law_194 : decode cL_law 194 = .ok (.aload_n 0, 1) := by decide +kernel
theorem dL_law_195 : decode cL_law 195 = .ok (.iload_n 3, 1) := by decide +kernel
theorem dL_law_196 : decode cL_law 196 = .ok (.iconst 1, 1) := by decide +kernel
theorem dL_law_197 : decode cL_law 197 = .ok (.iadd, 1) := by decide +kernel
theorem dL_law_198 : decode cL_law 198 = .ok (.iaload, 1) := by decide +kernel
theorem dL_law_199 : decode cL_law 199 = .ok (.invokevirtual 27, 3) := by decide +kernel
theorem dL_law_202 : decode cL_law 202 = .ok (.aload_n 2, 1) := by decide +kernel
theorem dL_law_203 : decode cL_law 203 = .ok (.aload_n 0, 1) := by decide +kernel
theorem dL_law_204 : decode cL_law 204 = .ok (.iload_n 3, 1) := by decide +kernel
theorem dL_law_205 : decode cL_law 205 = .ok (.iconst 1, 1) := by decide +kernel
theorem dL_law_206 : decode cL_law 206 = .ok (.iadd, 1) := by decide +kernel
theorem dL_law_207 : decode cL_law 207 = .ok (.iaload, 1) := by decide +kernel
theorem dL_law_208 : decode cL_law 208 = .ok (.invokevirtual 30, 3) := by decide +kernel
theorem dL_law_211 : decode cL_law 211 = .ok (.if_icmp .eq 742, 3) := by decide +kernel
theorem dL_law_214 : decode cL_law 214 = .ok (.iconst 0, 1) := by decide +kernel
theorem dL_law_215 : decode cL_law 215 = .ok (.ireturn, 1) := by decide +kernel
theorem dL_law_216 : decode cL_law 216 = .ok (.aload_n 1, 1) := by decide +kernel
theorem dL_law_217 : decode cL_law 217 = .ok (.aload_n 0, 1) := by decide +kernel
theorem dL_law_218 : decode cL_law 218 = .ok (.iload_n 3, 1) := by decide +kernel
theorem dL_law_219 : decode cL_law 219 = .ok (.iconst 1, 1) := by decide +kernel
theorem dL_law_220 : decode cL_law 220 = .ok (.iadd, 1) := by decide +kernel
theorem dL_law_221 : decode cL_law 221 = .ok (.iaload, 1) := by decide +kernel
theorem dL_law_222 : decode cL_law 222 = .ok (.aload_n 0, 1) := by decide +kernel
theorem dL_law_223 : decode cL_law 223 = .ok (.iload_n 3, 1) := by decide +kernel
theorem dL_law_224 : decode cL_law 224 = .ok (.iconst 2, 1) := by decide +kernel
theorem dL_law_225 : decode cL_law 225 = .ok (.iadd, 1) := by decide +kernel
theorem dL_law_226 : decode cL_law 226 = .ok (.iaload, 1) := by decide +kernel
theorem dL_law_227 : decode cL_law 227 = .ok (.invokevirtual 31, 3) := by decide +kernel
theorem dL_law_230 : decode cL_law 230 = .ok (.aload_n 2, 1) := by decide +kernel
theorem dL_law_231 : decode cL_law 231 = .ok (.aload_n 0, 1) := by decide +kernel
theorem dL_law_232 : decode cL_law 232 = .ok (.iload_n 3, 1) := by decide +kernel
theorem dL_law_233 : decode cL_law 233 = .ok (.iconst 1, 1) := by decide +kernel
theorem dL_law_234 : decode cL_law 234 = .ok (.iadd, 1) := by decide +kernel
theorem dL_law_235 : decode cL_law 235 = .ok (.iaload, 1) := by decide +kernel
theorem dL_law_236 : decode cL_law 236 = .ok (.aload_n 0, 1) := by decide +kernel
theorem dL_law_237 : decode cL_law 237 = .ok (.iload_n 3, 1) := by decide +kernel
theorem dL_law_238 : decode cL_law 238 = .ok (.iconst 2, 1) := by decide +kernel
theorem dL_law_239 : decode cL_law 239 = .ok (.iadd, 1) := by decide +kernel
theorem dL_law_240 : decode cL_law 240 = .ok (.iaload, 1) := by decide +kernel
theorem dL_law_241 : decode cL_law 241 = .ok (.invokevirtual 35, 3) := by decide +kernel
theorem dL_law_244 : decode cL_law 244 = .ok (.if_icmp .eq 709, 3) := by decide +kernel
theorem dL_law_247 : decode cL_law 247 = .ok (.iconst 0, 1) := by decide +kernel
theorem dL_law_248 : decode cL_law 248 = .ok (.ireturn, 1) := by decide +kernel
theorem dL_law_249 : decode cL_law 249 = .ok (.aload_n 1, 1) := by decide +kernel
theorem dL_law_250 : decode cL_law 250 = .ok (.aload_n 0, 1) := by decide +kernel
theorem dL_law_251 : decode cL_law 251 = .ok (.iload_n 3, 1) := by decide +kernel
theorem dL_law_252 : decode cL_law 252 = .ok (.iconst 1, 1) := by decide +kernel
theorem dL_law_253 : decode cL_law 253 = .ok (.iadd, 1) := by decide +kernel
theorem dL_law_254 : decode cL_law 254 = .ok (.iaload, 1) := by decide +kernel
theorem dL_law_255 : decode cL_law 255 = .ok (.aload_n 0, 1) := by decide +kernel
theorem dL_law_256 : decode cL_law 256 = .ok (.iload_n 3, 1) := by decide +kernel
theorem dL_law_257 : decode cL_law 257 = .ok (.iconst 2, 1) := by decide +kernel
theorem dL_law_258 : decode cL_law 258 = .ok (.iadd, 1) := by decide +kernel
theorem dL_law_259 : decode cL_law 259 = .ok (.iaload, 1) := by decide +kernel
theorem dL_law_260 : decode cL_law 260 = .ok (.invokevirtual 36, 3) := by decide +kernel
theorem dL_law_263 : decode cL_law 263 = .ok (.aload_n 2, 1) := by decide +kernel
theorem dL_law_264 : decode cL_law 264 = .ok (.aload_n 0, 1) := by decide +kernel
theorem dL_law_265 : decode cL_law 265 = .ok (.iload_n 3, 1) := by decide +kernel
theorem dL_law_266 : decode cL_law 266 = .ok (.iconst 1, 1) := by decide +kernel
theorem dL_law_267 : decode cL_law 267 = .ok (.iadd, 1) := by decide +kernel
theorem dL_law_268 : decode cL_law 268 = .ok (.iaload, 1) := by decide +kernel
theorem dL_law_269 : decode cL_law 269 = .ok (.aload_n 0, 1) := by decide +kernel
theorem dL_law_270 : decode cL_law 270 = .ok (.iload_n 3, 1) := by decide +kernel
theorem dL_law_271 : decode cL_law 271 = .ok (.iconst 2, 1) := by decide +kernel
theorem dL_law_272 : decode cL_law 272 = .ok (.iadd, 1) := by decide +kernel
theorem dL_law_273 : decode cL_law 273 = .ok (.iaload, 1) := by decide +kernel
theorem dL_law_274 : decode cL_law 274 = .ok (.invokevirtual 39, 3) := by decide +kernel
theorem dL_law_277 : decode cL_law 277 = .ok (.if_icmp .eq 676, 3) := by decide +kernel
theorem dL_law_280 : decode cL_law 280 = .ok (.iconst 0, 1) := by decide +kernel
theorem dL_law_281 : decode cL_law 281 = .ok (.ireturn, 1) := by decide +kernel
theorem dL_law_282 : decode cL_law 282 = .ok (.aload_n 1, 1) := by decide +kernel
theorem dL_law_283 : decode cL_law 283 = .ok (.aload_n 0, 1) := by decide +kernel
theorem dL_law_284 : decode cL_law 284 = .ok (.iload_n 3, 1) := by decide +kernel
theorem dL_law_285 : decode cL_law 285 = .ok (.iconst 1, 1) := by decide +kernel
theorem dL_law_286 : decode cL_law 286 = .ok (.iadd, 1) := by decide +kernel
theorem dL_law_287 : decode cL_law 287 = .ok (.iaload, 1) := by decide +kernel
theorem dL_law_288 : decode cL_law 288 = .ok (.aload_n 0, 1) := by decide +kernel
theorem dL_law_289 : decode cL_law 289 = .ok (.iload_n 3, 1) := by decide +kernel
theorem dL_law_290 : decode cL_law 290 = .ok (.iconst 2, 1) := by decide +kernel
theorem dL_law_291 : decode cL_law 291 = .ok (.iadd, 1) := by decide +kernel
theorem dL_law_292 : decode cL_law 292 = .ok (.iaload, 1) := by decide +kernel
theorem dL_law_293 : decode cL_law 293 = .ok (.aload_n 0, 1) := by decide +kernel
theorem dL_law_294 : decode cL_law 294 = .ok (.iload_n 3, 1) := by decide +kernel
theorem dL_law_295 : decode cL_law 295 = .ok (.iconst 3, 1) := by decide +kernel
theorem dL_law_296 : decode cL_law 296 = .ok (.iadd, 1) := by decide +kernel
theorem dL_law_297 : decode cL_law 297 = .ok (.iaload, 1) := by decide +kernel
theorem dL_law_298 : decode cL_law 298 = .ok (.aload_n 0, 1) := by decide +kernel
theorem dL_law_299 : decode cL_law 299 = .ok (.iload_n 3, 1) := by decide +kernel
theorem dL_law_300 : decode cL_law 300 = .ok (.iconst 4, 1) := by decide +kernel
theorem dL_law_301 : decode cL_law 301 = .ok (.iadd, 1) := by decide +kernel
theorem dL_law_302 : decode cL_law 302 = .ok (.iaload, 1) := by decide +kernel
theorem dL_law_303 : decode cL_law 303 = .ok (.invokevirtual 40, 3) := by decide +kernel
theorem dL_law_306 : decode cL_law 306 = .ok (.aload_n 2, 1) := by decide +kernel
theorem dL_law_307 : decode cL_law 307 = .ok (.aload_n 0, 1) := by decide +kernel
theorem dL_law_308 : decode cL_law 308 = .ok (.iload_n 3, 1) := by decide +kernel
theorem dL_law_309 : decode cL_law 309 = .ok (.iconst 1, 1) := by decide +kernel
theorem dL_law_310 : decode cL_law 310 = .ok (.iadd, 1) := by decide +kernel
theorem dL_law_311 : decode cL_law 311 = .ok (.iaload, 1) := by decide +kernel
theorem dL_law_312 : decode cL_law 312 = .ok (.aload_n 0, 1) := by decide +kernel
theorem dL_law_313 : decode cL_law 313 = .ok (.iload_n 3, 1) := by decide +kernel
theorem dL_law_314 : decode cL_law 314 = .ok (.iconst 2, 1) := by decide +kernel
theorem dL_law_315 : decode cL_law 315 = .ok (.iadd, 1) := by decide +kernel
theorem dL_law_316 : decode cL_law 316 = .ok (.iaload, 1) := by decide +kernel
theorem dL_law_317 : decode cL_law 317 = .ok (.aload_n 0, 1) := by decide +kernel
theorem dL_law_318 : decode cL_law 318 = .ok (.iload_n 3, 1) := by decide +kernel
theorem dL_law_319 : decode cL_law 319 = .ok (.iconst 3, 1) := by decide +kernel
theorem dL_law_320 : decode cL_law 320 = .ok (.iadd, 1) := by decide +kernel
theorem dL_law_321 : decode cL_law 321 = .ok (.iaload, 1) := by decide +kernel
theorem dL_law_322 : decode cL_law 322 = .ok (.aload_n 0, 1) := by decide +kernel
theorem dL_law_323 : decode cL_law 323 = .ok (.iload_n 3, 1) := by decide +kernel
theorem dL_law_324 : decode cL_law 324 = .ok (.iconst 4, 1) := by decide +kernel
theorem dL_law_325 : decode cL_law 325 = .ok (.iadd, 1) := by decide +kernel
theorem dL_law_326 : decode cL_law 326 = .ok (.iaload, 1) := by decide +kernel
theorem dL_law_327 : decode cL_law 327 = .ok (.invokevirtual 44, 3) := by decide +kernel
theorem dL_law_330 : decode cL_law 330 = .ok (.if_icmp .eq 623, 3) := by decide +kernel
theorem dL_law_333 : decode cL_law 333 = .ok (.iconst 0, 1) := by decide +kernel
theorem dL_law_334 : decode cL_law 334 = .ok (.ireturn, 1) := by decide +kernel
theorem dL_law_335 : decode cL_law 335 = .ok (.aload_n 1, 1) := by decide +kernel
theorem dL_law_336 : decode cL_law 336 = .ok (.aload_n 0, 1) := by decide +kernel
theorem dL_law_337 : decode cL_law 337 = .ok (.iload_n 3, 1) := by decide +kernel
theorem dL_law_338 : decode cL_law 338 = .ok (.iconst 1, 1) := by decide +kernel
theorem dL_law_339 : decode cL_law 339 = .ok (.iadd, 1) := by decide +kernel
theorem dL_law_340 : decode cL_law 340 = .ok (.iaload, 1) := by decide +kernel
theorem dL_law_341 : decode cL_law 341 = .ok (.aload_n 0, 1) := by decide +kernel
theorem dL_law_342 : decode cL_law 342 = .ok (.iload_n 3, 1) := by decide +kernel
theorem dL_law_343 : decode cL_law 343 = .ok (.iconst 2, 1) := by decide +kernel
theorem dL_law_344 : decode cL_law 344 = .ok (.iadd, 1) := by decide +kernel
theorem dL_law_345 : decode cL_law 345 = .ok (.iaload, 1) := by decide +kernel
theorem dL_law_346 : decode cL_law 346 = .ok (.invokevirtual 45, 3) := by decide +kernel
theorem dL_law_349 : decode cL_law 349 = .ok (.aload_n 2, 1) := by decide +kernel
theorem dL_law_350 : decode cL_law 350 = .ok (.aload_n 0, 1) := by decide +kernel
theorem dL_law_351 : decode cL_law 351 = .ok (.iload_n 3, 1) := by decide +kernel
theorem dL_law_352 : decode cL_law 352 = .ok (.iconst 1, 1) := by decide +kernel
theorem dL_law_353 : decode cL_law 353 = .ok (.iadd, 1) := by decide +kernel
theorem dL_law_354 : decode cL_law 354 = .ok (.iaload, 1) := by decide +kernel
theorem dL_law_355 : decode cL_law 355 = .ok (.aload_n 0, 1) := by decide +kernel
theorem dL_law_356 : decode cL_law 356 = .ok (.iload_n 3, 1) := by decide +kernel
theorem dL_law_357 : decode cL_law 357 = .ok (.iconst 2, 1) := by decide +kernel
theorem dL_law_358 : decode cL_law 358 = .ok (.iadd, 1) := by decide +kernel
theorem dL_law_359 : decode cL_law 359 = .ok (.iaload, 1) := by decide +kernel
theorem dL_law_360 : decode cL_law 360 = .ok (.invokevirtual 48, 3) := by decide +kernel
theorem dL_law_363 : decode cL_law 363 = .ok (.if_icmp .eq 590, 3) := by decide +kernel
theorem dL_law_366 : decode cL_law 366 = .ok (.iconst 0, 1) := by decide +kernel
theorem dL_law_367 : decode cL_law 367 = .ok (.ireturn, 1) := by decide +kernel
theorem dL_law_368 : decode cL_law 368 = .ok (.aload_n 1, 1) := by decide +kernel
theorem dL_law_369 : decode cL_law 369 = .ok (.aload_n 0, 1) := by decide +kernel
theorem dL_law_370 : decode cL_law 370 = .ok (.iload_n 3, 1) := by decide +kernel
theorem dL_law_371 : decode cL_law 371 = .ok (.iconst 1, 1) := by decide +kernel
theorem dL_law_372 : decode cL_law 372 = .ok (.iadd, 1) := by decide +kernel
theorem dL_law_373 : decode cL_law 373 = .ok (.iaload, 1) := by decide +kernel
theorem dL_law_374 : decode cL_law 374 = .ok (.aload_n 0, 1) := by decide +kernel
theorem dL_law_375 : decode cL_law 375 = .ok (.iload_n 3, 1) := by decide +kernel
theorem dL_law_376 : decode cL_law 376 = .ok (.iconst 2, 1) := by decide +kernel
theorem dL_law_377 : decode cL_law 377 = .ok (.iadd, 1) := by decide +kernel
theorem dL_law_378 : decode cL_law 378 = .ok (.iaload, 1) := by decide +kernel
theorem dL_law_379 : decode cL_law 379 = .ok (.invokevirtual 49, 3) := by decide +kernel
theorem dL_law_382 : decode cL_law 382 = .ok (.aload_n 2, 1) := by decide +kernel
theorem dL_law_383 : decode cL_law 383 = .ok (.aload_n 0, 1) := by decide +kernel
theorem dL_law_384 : decode cL_law 384 = .ok (.iload_n 3, 1) := by decide +kernel
theorem dL_law_385 : decode cL_law 385 = .ok (.iconst 1, 1) := by decide +kernel
theorem dL_law_386 : decode cL_law 386 = .ok (.iadd, 1) := by decide +kernel
theorem dL_law_387 : decode cL_law 387 = .ok (.iaload, 1) := by decide +kernel
theorem dL_law_388 : decode cL_law 388 = .ok (.aload_n 0, 1) := by decide +kernel
theorem dL_law_389 : decode cL_law 389 = .ok (.iload_n 3, 1) := by decide +kernel
theorem dL_law_390 : decode cL_law 390 = .ok (.iconst 2, 1) := by decide +kernel
theorem dL_law_391 : decode cL_law 391 = .ok (.iadd, 1) := by decide +kernel
theorem dL_law_392 : decode cL_law 392 = .ok (.iaload, 1) := by decide +kernel
theorem dL_law_393 : decode cL_law 393 = .ok (.invokevirtual 52, 3) := by decide +kernel
theorem dL_law_396 : decode cL_law 396 = .ok (.if_icmp .eq 557, 3) := by decide +kernel
theorem dL_law_399 : decode cL_law 399 = .ok (.iconst 0, 1) := by decide +kernel
theorem dL_law_400 : decode cL_law 400 = .ok (.ireturn, 1) := by decide +kernel
theorem dL_law_401 : decode cL_law 401 = .ok (.aload_n 1, 1) := by decide +kernel
theorem dL_law_402 : decode cL_law 402 = .ok (.aload_n 0, 1) := by decide +kernel
theorem dL_law_403 : decode cL_law 403 = .ok (.iload_n 3, 1) := by decide +kernel
theorem dL_law_404 : decode cL_law 404 = .ok (.iconst 1, 1) := by decide +kernel
theorem dL_law_405 : decode cL_law 405 = .ok (.iadd, 1) := by decide +kernel
theorem dL_law_406 : decode cL_law 406 = .ok (.iaload, 1) := by decide +kernel
theorem dL_law_407 : decode cL_law 407 = .ok (.aload_n 0, 1) := by decide +kernel
theorem dL_law_408 : decode cL_law 408 = .ok (.iload_n 3, 1) := by decide +kernel
theorem dL_law_409 : decode cL_law 409 = .ok (.iconst 2, 1) := by decide +kernel
theorem dL_law_410 : decode cL_law 410 = .ok (.iadd, 1) := by decide +kernel
theorem dL_law_411 : decode cL_law 411 = .ok (.iaload, 1) := by decide +kernel
theorem dL_law_412 : decode cL_law 412 = .ok (.invokevirtual 53, 3) := by decide +kernel
theorem dL_law_415 : decode cL_law 415 = .ok (.aload_n 2, 1) := by decide +kernel
theorem dL_law_416 : decode cL_law 416 = .ok (.aload_n 0, 1) := by decide +kernel
theorem dL_law_417 : decode cL_law 417 = .ok (.iload_n 3, 1) := by decide +kernel
theorem dL_law_418 : decode cL_law 418 = .ok (.iconst 1, 1) := by decide +kernel
theorem dL_law_419 : decode cL_law 419 = .ok (.iadd, 1) := by decide +kernel
theorem dL_law_420 : decode cL_law 420 = .ok (.iaload, 1) := by decide +kernel
theorem dL_law_421 : decode cL_law 421 = .ok (.aload_n 0, 1) := by decide +kernel
theorem dL_law_422 : decode cL_law 422 = .ok (.iload_n 3, 1) := by decide +kernel
theorem dL_law_423 : decode cL_law 423 = .ok (.iconst 2, 1) := by decide +kernel
theorem dL_law_424 : decode cL_law 424 = .ok (.iadd, 1) := by decide +kernel
theorem dL_law_425 : decode cL_law 425 = .ok (.iaload, 1) := by decide +kernel
theorem dL_law_426 : decode cL_law 426 = .ok (.invokevirtual 56, 3) := by decide +kernel
theorem dL_law_429 : decode cL_law 429 = .ok (.if_icmp .eq 524, 3) := by decide +kernel
theorem dL_law_432 : decode cL_law 432 = .ok (.iconst 0, 1) := by decide +kernel
theorem dL_law_433 : decode cL_law 433 = .ok (.ireturn, 1) := by decide +kernel
theorem dL_law_434 : decode cL_law 434 = .ok (.aload_n 1, 1) := by decide +kernel
theorem dL_law_435 : decode cL_law 435 = .ok (.aload_n 0, 1) := by decide +kernel
theorem dL_law_436 : decode cL_law 436 = .ok (.iload_n 3, 1) := by decide +kernel
theorem dL_law_437 : decode cL_law 437 = .ok (.iconst 1, 1) := by decide +kernel
theorem dL_law_438 : decode cL_law 438 = .ok (.iadd, 1) := by decide +kernel
theorem dL_law_439 : decode cL_law 439 = .ok (.iaload, 1) := by decide +kernel
theorem dL_law_440 : decode cL_law 440 = .ok (.aload_n 0, 1) := by decide +kernel
theorem dL_law_441 : decode cL_law 441 = .ok (.iload_n 3, 1) := by decide +kernel
theorem dL_law_442 : decode cL_law 442 = .ok (.iconst 2, 1) := by decide +kernel
theorem dL_law_443 : decode cL_law 443 = .ok (.iadd, 1) := by decide +kernel
theorem dL_law_444 : decode cL_law 444 = .ok (.iaload, 1) := by decide +kernel
theorem dL_law_445 : decode cL_law 445 = .ok (.aload_n 0, 1) := by decide +kernel
theorem dL_law_446 : decode cL_law 446 = .ok (.iload_n 3, 1) := by decide +kernel
theorem dL_law_447 : decode cL_law 447 = .ok (.iconst 3, 1) := by decide +kernel
theorem dL_law_448 : decode cL_law 448 = .ok (.iadd, 1) := by decide +kernel
theorem dL_law_449 : decode cL_law 449 = .ok (.iaload, 1) := by decide +kernel
theorem dL_law_450 : decode cL_law 450 = .ok (.invokevirtual 57, 3) := by decide +kernel
theorem dL_law_453 : decode cL_law 453 = .ok (.aload_n 2, 1) := by decide +kernel
theorem dL_law_454 : decode cL_law 454 = .ok (.aload_n 0, 1) := by decide +kernel
theorem dL_law_455 : decode cL_law 455 = .ok (.iload_n 3, 1) := by decide +kernel
theorem dL_law_456 : decode cL_law 456 = .ok (.iconst 1, 1) := by decide +kernel
theorem dL_law_457 : decode cL_law 457 = .ok (.iadd, 1) := by decide +kernel
theorem dL_law_458 : decode cL_law 458 = .ok (.iaload, 1) := by decide +kernel
theorem dL_law_459 : decode cL_law 459 = .ok (.aload_n 0, 1) := by decide +kernel
theorem dL_law_460 : decode cL_law 460 = .ok (.iload_n 3, 1) := by decide +kernel
theorem dL_law_461 : decode cL_law 461 = .ok (.iconst 2, 1) := by decide +kernel
theorem dL_law_462 : decode cL_law 462 = .ok (.iadd, 1) := by decide +kernel
theorem dL_law_463 : decode cL_law 463 = .ok (.iaload, 1) := by decide +kernel
theorem dL_law_464 : decode cL_law 464 = .ok (.aload_n 0, 1) := by decide +kernel
theorem dL_law_465 : decode cL_law 465 = .ok (.iload_n 3, 1) := by decide +kernel
theorem dL_law_466 : decode cL_law 466 = .ok (.iconst 3, 1) := by decide +kernel
theorem dL_law_467 : decode cL_law 467 = .ok (.iadd, 1) := by decide +kernel
theorem dL_law_468 : decode cL_law 468 = .ok (.iaload, 1) := by decide +kernel
theorem dL_law_469 : decode cL_law 469 = .ok (.invokevirtual 61, 3) := by decide +kernel
theorem dL_law_472 : decode cL_law 472 = .ok (.if_icmp .eq 481, 3) := by decide +kernel
theorem dL_law_475 : decode cL_law 475 = .ok (.iconst 0, 1) := by decide +kernel
theorem dL_law_476 : decode cL_law 476 = .ok (.ireturn, 1) := by decide +kernel
theorem dL_law_477 : decode cL_law 477 = .ok (.aload_n 1, 1) := by decide +kernel
theorem dL_law_478 : decode cL_law 478 = .ok (.aload_n 0, 1) := by decide +kernel
theorem dL_law_479 : decode cL_law 479 = .ok (.iload_n 3, 1) := by decide +kernel
theorem dL_law_480 : decode cL_law 480 = .ok (.iconst 1, 1) := by decide +kernel
theorem dL_law_481 : decode cL_law 481 = .ok (.iadd, 1) := by decide +kernel
theorem dL_law_482 : decode cL_law 482 = .ok (.iaload, 1) := by decide +kernel
theorem dL_law_483 : decode cL_law 483 = .ok (.aload_n 0, 1) := by decide +kernel
theorem dL_law_484 : decode cL_law 484 = .ok (.iload_n 3, 1) := by decide +kernel
theorem dL_law_485 : decode cL_law 485 = .ok (.iconst 2, 1) := by decide +kernel
theorem dL_law_486 : decode cL_law 486 = .ok (.iadd, 1) := by decide +kernel
theorem dL_law_487 : decode cL_law 487 = .ok (.iaload, 1) := by decide +kernel
theorem dL_law_488 : decode cL_law 488 = .ok (.aload_n 0, 1) := by decide +kernel
theorem dL_law_489 : decode cL_law 489 = .ok (.iload_n 3, 1) := by decide +kernel
theorem dL_law_490 : decode cL_law 490 = .ok (.iconst 3, 1) := by decide +kernel
theorem dL_law_491 : decode cL_law 491 = .ok (.iadd, 1) := by decide +kernel
theorem dL_law_492 : decode cL_law 492 = .ok (.iaload, 1) := by decide +kernel
theorem dL_law_493 : decode cL_law 493 = .ok (.invokevirtual 62, 3) := by decide +kernel
theorem dL_law_496 : decode cL_law 496 = .ok (.aload_n 2, 1) := by decide +kernel
theorem dL_law_497 : decode cL_law 497 = .ok (.aload_n 0, 1) := by decide +kernel
theorem dL_law_498 : decode cL_law 498 = .ok (.iload_n 3, 1) := by decide +kernel
theorem dL_law_499 : decode cL_law 499 = .ok (.iconst 1, 1) := by decide +kernel
theorem dL_law_500 : decode cL_law 500 = .ok (.iadd, 1) := by decide +kernel
theorem dL_law_501 : decode cL_law 501 = .ok (.iaload, 1) := by decide +kernel
theorem dL_law_502 : decode cL_law 502 = .ok (.aload_n 0, 1) := by decide +kernel
theorem dL_law_503 : decode cL_law 503 = .ok (.iload_n 3, 1) := by decide +kernel
theorem dL_law_504 : decode cL_law 504 = .ok (.iconst 2, 1) := by decide +kernel
theorem dL_law_505 : decode cL_law 505 = .ok (.iadd, 1) := by decide +kernel
theorem dL_law_506 : decode cL_law 506 = .ok (.iaload, 1) := by decide +kernel
theorem dL_law_507 : decode cL_law 507 = .ok (.aload_n 0, 1) := by decide +kernel
theorem dL_law_508 : decode cL_law 508 = .ok (.iload_n 3, 1) := by decide +kernel
theorem dL_law_509 : decode cL_law 509 = .ok (.iconst 3, 1) := by decide +kernel
theorem dL_law_510 : decode cL_law 510 = .ok (.iadd, 1) := by decide +kernel
theorem dL_law_511 : decode cL_law 511 = .ok (.iaload, 1) := by decide +kernel
theorem dL_law_512 : decode cL_law 512 = .ok (.invokevirtual 65, 3) := by decide +kernel
theorem dL_law_515 : decode cL_law 515 = .ok (.if_icmp .eq 438, 3) := by decide +kernel
theorem dL_law_518 : decode cL_law 518 = .ok (.iconst 0, 1) := by decide +kernel
theorem dL_law_519 : decode cL_law 519 = .ok (.ireturn, 1) := by decide +kernel
theorem dL_law_520 : decode cL_law 520 = .ok (.aload_n 1, 1) := by decide +kernel
theorem dL_law_521 : decode cL_law 521 = .ok (.aload_n 0, 1) := by decide +kernel
theorem dL_law_522 : decode cL_law 522 = .ok (.iload_n 3, 1) := by decide +kernel
theorem dL_law_523 : decode cL_law 523 = .ok (.iconst 1, 1) := by decide +kernel
theorem dL_law_524 : decode cL_law 524 = .ok (.iadd, 1) := by decide +kernel
theorem dL_law_525 : decode cL_law 525 = .ok (.iaload, 1) := by decide +kernel
theorem dL_law_526 : decode cL_law 526 = .ok (.aload_n 0, 1) := by decide +kernel
theorem dL_law_527 : decode cL_law 527 = .ok (.iload_n 3, 1) := by decide +kernel
theorem dL_law_528 : decode cL_law 528 = .ok (.iconst 2, 1) := by decide +kernel
theorem dL_law_529 : decode cL_law 529 = .ok (.iadd, 1) := by decide +kernel
theorem dL_law_530 : decode cL_law 530 = .ok (.iaload, 1) := by decide +kernel
theorem dL_law_531 : decode cL_law 531 = .ok (.invokevirtual 66, 3) := by decide +kernel
theorem dL_law_534 : decode cL_law 534 = .ok (.aload_n 2, 1) := by decide +kernel
theorem dL_law_535 : decode cL_law 535 = .ok (.aload_n 0, 1) := by decide +kernel
theorem dL_law_536 : decode cL_law 536 = .ok (.iload_n 3, 1) := by decide +kernel
theorem dL_law_537 : decode cL_law 537 = .ok (.iconst 1, 1) := by decide +kernel
theorem dL_law_538 : decode cL_law 538 = .ok (.iadd, 1) := by decide +kernel
theorem dL_law_539 : decode cL_law 539 = .ok (.iaload, 1) := by decide +kernel
theorem dL_law_540 : decode cL_law 540 = .ok (.aload_n 0, 1) := by decide +kernel
theorem dL_law_541 : decode cL_law 541 = .ok (.iload_n 3, 1) := by decide +kernel
theorem dL_law_542 : decode cL_law 542 = .ok (.iconst 2, 1) := by decide +kernel
theorem dL_law_543 : decode cL_law 543 = .ok (.iadd, 1) := by decide +kernel
theorem dL_law_544 : decode cL_law 544 = .ok (.iaload, 1) := by decide +kernel
theorem dL_law_545 : decode cL_law 545 = .ok (.invokevirtual 69, 3) := by decide +kernel
theorem dL_law_548 : decode cL_law 548 = .ok (.if_icmp .eq 405, 3) := by decide +kernel
theorem dL_law_551 : decode cL_law 551 = .ok (.iconst 0, 1) := by decide +kernel
theorem dL_law_552 : decode cL_law 552 = .ok (.ireturn, 1) := by decide +kernel
theorem dL_law_553 : decode cL_law 553 = .ok (.aload_n 1, 1) := by decide +kernel
theorem dL_law_554 : decode cL_law 554 = .ok (.aload_n 0, 1) := by decide +kernel
theorem dL_law_555 : decode cL_law 555 = .ok (.iload_n 3, 1) := by decide +kernel
theorem dL_law_556 : decode cL_law 556 = .ok (.iconst 1, 1) := by decide +kernel
theorem dL_law_557 : decode cL_law 557 = .ok (.iadd, 1) := by decide +kernel
theorem dL_law_558 : decode cL_law 558 = .ok (.iaload, 1) := by decide +kernel
theorem dL_law_559 : decode cL_law 559 = .ok (.aload_n 0, 1) := by decide +kernel
theorem dL_law_560 : decode cL_law 560 = .ok (.iload_n 3, 1) := by decide +kernel
theorem dL_law_561 : decode cL_law 561 = .ok (.iconst 2, 1) := by decide +kernel
theorem dL_law_562 : decode cL_law 562 = .ok (.iadd, 1) := by decide +kernel
theorem dL_law_563 : decode cL_law 563 = .ok (.iaload, 1) := by decide +kernel
theorem dL_law_564 : decode cL_law 564 = .ok (.invokevirtual 70, 3) := by decide +kernel
theorem dL_law_567 : decode cL_law 567 = .ok (.aload_n 2, 1) := by decide +kernel
theorem dL_law_568 : decode cL_law 568 = .ok (.aload_n 0, 1) := by decide +kernel
theorem dL_law_569 : decode cL_law 569 = .ok (.iload_n 3, 1) := by decide +kernel
theorem dL_law_570 : decode cL_law 570 = .ok (.iconst 1, 1) := by decide +kernel
theorem dL_law_571 : decode cL_law 571 = .ok (.iadd, 1) := by decide +kernel
theorem dL_law_572 : decode cL_law 572 = .ok (.iaload, 1) := by decide +kernel
theorem dL_law_573 : decode cL_law 573 = .ok (.aload_n 0, 1) := by decide +kernel
theorem dL_law_574 : decode cL_law 574 = .ok (.iload_n 3, 1) := by decide +kernel
theorem dL_law_575 : decode cL_law 575 = .ok (.iconst 2, 1) := by decide +kernel
theorem dL_law_576 : decode cL_law 576 = .ok (.iadd, 1) := by decide +kernel
theorem dL_law_577 : decode cL_law 577 = .ok (.iaload, 1) := by decide +kernel
theorem dL_law_578 : decode cL_law 578 = .ok (.invokevirtual 73, 3) := by decide +kernel
theorem dL_law_581 : decode cL_law 581 = .ok (.if_icmp .eq 372, 3) := by decide +kernel
theorem dL_law_584 : decode cL_law 584 = .ok (.iconst 0, 1) := by decide +kernel
theorem dL_law_585 : decode cL_law 585 = .ok (.ireturn, 1) := by decide +kernel
theorem dL_law_586 : decode cL_law 586 = .ok (.aload_n 1, 1) := by decide +kernel
theorem dL_law_587 : decode cL_law 587 = .ok (.aload_n 0, 1) := by decide +kernel
theorem dL_law_588 : decode cL_law 588 = .ok (.iload_n 3, 1) := by decide +kernel
theorem dL_law_589 : decode cL_law 589 = .ok (.iconst 1, 1) := by decide +kernel
theorem dL_law_590 : decode cL_law 590 = .ok (.iadd, 1) := by decide +kernel
theorem dL_law_591 : decode cL_law 591 = .ok (.iaload, 1) := by decide +kernel
theorem dL_law_592 : decode cL_law 592 = .ok (.aload_n 0, 1) := by decide +kernel
theorem dL_law_593 : decode cL_law 593 = .ok (.iload_n 3, 1) := by decide +kernel
theorem dL_law_594 : decode cL_law 594 = .ok (.iconst 2, 1) := by decide +kernel
theorem dL_law_595 : decode cL_law 595 = .ok (.iadd, 1) := by decide +kernel
theorem dL_law_596 : decode cL_law 596 = .ok (.iaload, 1) := by decide +kernel
theorem dL_law_597 : decode cL_law 597 = .ok (.invokevirtual 74, 3) := by decide +kernel
theorem dL_law_600 : decode cL_law 600 = .ok (.aload_n 2, 1) := by decide +kernel
theorem dL_law_601 : decode cL_law 601 = .ok (.aload_n 0, 1) := by decide +kernel
theorem dL_law_602 : decode cL_law 602 = .ok (.iload_n 3, 1) := by decide +kernel
theorem dL_law_603 : decode cL_law 603 = .ok (.iconst 1, 1) := by decide +kernel
theorem dL_law_604 : decode cL_law 604 = .ok (.iadd, 1) := by decide +kernel
theorem dL_law_605 : decode cL_law 605 = .ok (.iaload, 1) := by decide +kernel
theorem dL_law_606 : decode cL_law 606 = .ok (.aload_n 0, 1) := by decide +kernel
theorem dL_law_607 : decode cL_law 607 = .ok (.iload_n 3, 1) := by decide +kernel
theorem dL_law_608 : decode cL_law 608 = .ok (.iconst 2, 1) := by decide +kernel
theorem dL_law_609 : decode cL_law 609 = .ok (.iadd, 1) := by decide +kernel
theorem dL_law_610 : decode cL_law 610 = .ok (.iaload, 1) := by decide +kernel
theorem dL_law_611 : decode cL_law 611 = .ok (.invokevirtual 77, 3) := by decide +kernel
theorem dL_law_614 : decode cL_law 614 = .ok (.if_icmp .eq 339, 3) := by decide +kernel
theorem dL_law_617 : decode cL_law 617 = .ok (.iconst 0, 1) := by decide +kernel
theorem dL_law_618 : decode cL_law 618 = .ok (.ireturn, 1) := by decide +kernel
theorem dL_law_619 : decode cL_law 619 = .ok (.aload_n 1, 1) := by decide +kernel
theorem dL_law_620 : decode cL_law 620 = .ok (.aload_n 0, 1) := by decide +kernel
theorem dL_law_621 : decode cL_law 621 = .ok (.iload_n 3, 1) := by decide +kernel
theorem dL_law_622 : decode cL_law 622 = .ok (.iconst 1, 1) := by decide +kernel
theorem dL_law_623 : decode cL_law 623 = .ok (.iadd, 1) := by decide +kernel
theorem dL_law_624 : decode cL_law 624 = .ok (.iaload, 1) := by decide +kernel
theorem dL_law_625 : decode cL_law 625 = .ok (.aload_n 0, 1) := by decide +kernel
theorem dL_law_626 : decode cL_law 626 = .ok (.iload_n 3, 1) := by decide +kernel
theorem dL_law_627 : decode cL_law 627 = .ok (.iconst 2, 1) := by decide +kernel
theorem dL_law_628 : decode cL_law 628 = .ok (.iadd, 1) := by decide +kernel
theorem dL_law_629 : decode cL_law 629 = .ok (.iaload, 1) := by decide +kernel
theorem dL_law_630 : decode cL_law 630 = .ok (.invokevirtual 78, 3) := by decide +kernel
theorem dL_law_633 : decode cL_law 633 = .ok (.aload_n 2, 1) := by decide +kernel
theorem dL_law_634 : decode cL_law 634 = .ok (.aload_n 0, 1) := by decide +kernel
theorem dL_law_635 : decode cL_law 635 = .ok (.iload_n 3, 1) := by decide +kernel
theorem dL_law_636 : decode cL_law 636 = .ok (.iconst 1, 1) := by decide +kernel
theorem dL_law_637 : decode cL_law 637 = .ok (.iadd, 1) := by decide +kernel
theorem dL_law_638 : decode cL_law 638 = .ok (.iaload, 1) := by decide +kernel
theorem dL_law_639 : decode cL_law 639 = .ok (.aload_n 0, 1) := by decide +kernel
theorem dL_law_640 : decode cL_law 640 = .ok (.iload_n 3, 1) := by decide +kernel
theorem dL_law_641 : decode cL_law 641 = .ok (.iconst 2, 1) := by decide +kernel
theorem dL_law_642 : decode cL_law 642 = .ok (.iadd, 1) := by decide +kernel
theorem dL_law_643 : decode cL_law 643 = .ok (.iaload, 1) := by decide +kernel
theorem dL_law_644 : decode cL_law 644 = .ok (.invokevirtual 81, 3) := by decide +kernel
theorem dL_law_647 : decode cL_law 647 = .ok (.if_icmp .eq 306, 3) := by decide +kernel
theorem dL_law_650 : decode cL_law 650 = .ok (.iconst 0, 1) := by decide +kernel
theorem dL_law_651 : decode cL_law 651 = .ok (.ireturn, 1) := by decide +kernel
theorem dL_law_652 : decode cL_law 652 = .ok (.aload_n 1, 1) := by decide +kernel
theorem dL_law_653 : decode cL_law 653 = .ok (.aload_n 0, 1) := by decide +kernel
theorem dL_law_654 : decode cL_law 654 = .ok (.iload_n 3, 1) := by decide +kernel
theorem dL_law_655 : decode cL_law 655 = .ok (.iconst 1, 1) := by decide +kernel
theorem dL_law_656 : decode cL_law 656 = .ok (.iadd, 1) := by decide +kernel
theorem dL_law_657 : decode cL_law 657 = .ok (.iaload, 1) := by decide +kernel
theorem dL_law_658 : decode cL_law 658 = .ok (.aload_n 0, 1) := by decide +kernel
theorem dL_law_659 : decode cL_law 659 = .ok (.iload_n 3, 1) := by decide +kernel
theorem dL_law_660 : decode cL_law 660 = .ok (.iconst 2, 1) := by decide +kernel
theorem dL_law_661 : decode cL_law 661 = .ok (.iadd, 1) := by decide +kernel
theorem dL_law_662 : decode cL_law 662 = .ok (.iaload, 1) := by decide +kernel
theorem dL_law_663 : decode cL_law 663 = .ok (.aload_n 0, 1) := by decide +kernel
theorem dL_law_664 : decode cL_law 664 = .ok (.iload_n 3, 1) := by decide +kernel
theorem dL_law_665 : decode cL_law 665 = .ok (.iconst 3, 1) := by decide +kernel
theorem dL_law_666 : decode cL_law 666 = .ok (.iadd, 1) := by decide +kernel
theorem dL_law_667 : decode cL_law 667 = .ok (.iaload, 1) := by decide +kernel
theorem dL_law_668 : decode cL_law 668 = .ok (.invokevirtual 82, 3) := by decide +kernel
theorem dL_law_671 : decode cL_law 671 = .ok (.aload_n 2, 1) := by decide +kernel
theorem dL_law_672 : decode cL_law 672 = .ok (.aload_n 0, 1) := by decide +kernel
theorem dL_law_673 : decode cL_law 673 = .ok (.iload_n 3, 1) := by decide +kernel
theorem dL_law_674 : decode cL_law 674 = .ok (.iconst 1, 1) := by decide +kernel
theorem dL_law_675 : decode cL_law 675 = .ok (.iadd, 1) := by decide +kernel
theorem dL_law_676 : decode cL_law 676 = .ok (.iaload, 1) := by decide +kernel
theorem dL_law_677 : decode cL_law 677 = .ok (.aload_n 0, 1) := by decide +kernel
theorem dL_law_678 : decode cL_law 678 = .ok (.iload_n 3, 1) := by decide +kernel
theorem dL_law_679 : decode cL_law 679 = .ok (.iconst 2, 1) := by decide +kernel
theorem dL_law_680 : decode cL_law 680 = .ok (.iadd, 1) := by decide +kernel
theorem dL_law_681 : decode cL_law 681 = .ok (.iaload, 1) := by decide +kernel
theorem dL_law_682 : decode cL_law 682 = .ok (.aload_n 0, 1) := by decide +kernel
theorem dL_law_683 : decode cL_law 683 = .ok (.iload_n 3, 1) := by decide +kernel
theorem dL_law_684 : decode cL_law 684 = .ok (.iconst 3, 1) := by decide +kernel
theorem dL_law_685 : decode cL_law 685 = .ok (.iadd, 1) := by decide +kernel
theorem dL_law_686 : decode cL_law 686 = .ok (.iaload, 1) := by decide +kernel
theorem dL_law_687 : decode cL_law 687 = .ok (.invokevirtual 85, 3) := by decide +kernel
theorem dL_law_690 : decode cL_law 690 = .ok (.if_icmp .eq 263, 3) := by decide +kernel
theorem dL_law_693 : decode cL_law 693 = .ok (.iconst 0, 1) := by decide +kernel
theorem dL_law_694 : decode cL_law 694 = .ok (.ireturn, 1) := by decide +kernel
theorem dL_law_695 : decode cL_law 695 = .ok (.aload_n 1, 1) := by decide +kernel
theorem dL_law_696 : decode cL_law 696 = .ok (.aload_n 0, 1) := by decide +kernel
theorem dL_law_697 : decode cL_law 697 = .ok (.iload_n 3, 1) := by decide +kernel
theorem dL_law_698 : decode cL_law 698 = .ok (.iconst 1, 1) := by decide +kernel
theorem dL_law_699 : decode cL_law 699 = .ok (.iadd, 1) := by decide +kernel
theorem dL_law_700 : decode cL_law 700 = .ok (.iaload, 1) := by decide +kernel
theorem dL_law_701 : decode cL_law 701 = .ok (.aload_n 0, 1) := by decide +kernel
theorem dL_law_702 : decode cL_law 702 = .ok (.iload_n 3, 1) := by decide +kernel
theorem dL_law_703 : decode cL_law 703 = .ok (.iconst 2, 1) := by decide +kernel
theorem dL_law_704 : decode cL_law 704 = .ok (.iadd, 1) := by decide +kernel
theorem dL_law_705 : decode cL_law 705 = .ok (.iaload, 1) := by decide +kernel
theorem dL_law_706 : decode cL_law 706 = .ok (.aload_n 0, 1) := by decide +kernel
theorem dL_law_707 : decode cL_law 707 = .ok (.iload_n 3, 1) := by decide +kernel
theorem dL_law_708 : decode cL_law 708 = .ok (.iconst 3, 1) := by decide +kernel
theorem dL_law_709 : decode cL_law 709 = .ok (.iadd, 1) := by decide +kernel
theorem dL_law_710 : decode cL_law 710 = .ok (.iaload, 1) := by decide +kernel
theorem dL_law_711 : decode cL_law 711 = .ok (.invokevirtual 86, 3) := by decide +kernel
theorem dL_law_714 : decode cL_law 714 = .ok (.aload_n 2, 1) := by decide +kernel
theorem dL_law_715 : decode cL_law 715 = .ok (.aload_n 0, 1) := by decide +kernel
theorem dL_law_716 : decode cL_law 716 = .ok (.iload_n 3, 1) := by decide +kernel
theorem dL_law_717 : decode cL_law 717 = .ok (.iconst 1, 1) := by decide +kernel
theorem dL_law_718 : decode cL_law 718 = .ok (.iadd, 1) := by decide +kernel
theorem dL_law_719 : decode cL_law 719 = .ok (.iaload, 1) := by decide +kernel
theorem dL_law_720 : decode cL_law 720 = .ok (.aload_n 0, 1) := by decide +kernel
theorem dL_law_721 : decode cL_law 721 = .ok (.iload_n 3, 1) := by decide +kernel
theorem dL_law_722 : decode cL_law 722 = .ok (.iconst 2, 1) := by decide +kernel
theorem dL_law_723 : decode cL_law 723 = .ok (.iadd, 1) := by decide +kernel
theorem dL_law_724 : decode cL_law 724 = .ok (.iaload, 1) := by decide +kernel
theorem dL_law_725 : decode cL_law 725 = .ok (.aload_n 0, 1) := by decide +kernel
theorem dL_law_726 : decode cL_law 726 = .ok (.iload_n 3, 1) := by decide +kernel
theorem dL_law_727 : decode cL_law 727 = .ok (.iconst 3, 1) := by decide +kernel
theorem dL_law_728 : decode cL_law 728 = .ok (.iadd, 1) := by decide +kernel
theorem dL_law_729 : decode cL_law 729 = .ok (.iaload, 1) := by decide +kernel
theorem dL_law_730 : decode cL_law 730 = .ok (.invokevirtual 90, 3) := by decide +kernel
theorem dL_law_733 : decode cL_law 733 = .ok (.lcmp, 1) := by decide +kernel
theorem dL_law_734 : decode cL_law 734 = .ok (.ifCond .eq 219, 3) := by decide +kernel
theorem dL_law_737 : decode cL_law 737 = .ok (.iconst 0, 1) := by decide +kernel
theorem dL_law_738 : decode cL_law 738 = .ok (.ireturn, 1) := by decide +kernel
theorem dL_law_739 : decode cL_law 739 = .ok (.aload_n 1, 1) := by decide +kernel
theorem dL_law_740 : decode cL_law 740 = .ok (.aload_n 0, 1) := by decide +kernel
theorem dL_law_741 : decode cL_law 741 = .ok (.iload_n 3, 1) := by decide +kernel
theorem dL_law_742 : decode cL_law 742 = .ok (.iconst 1, 1) := by decide +kernel
theorem dL_law_743 : decode cL_law 743 = .ok (.iadd, 1) := by decide +kernel
theorem dL_law_744 : decode cL_law 744 = .ok (.iaload, 1) := by decide +kernel
theorem dL_law_745 : decode cL_law 745 = .ok (.aload_n 0, 1) := by decide +kernel
theorem dL_law_746 : decode cL_law 746 = .ok (.iload_n 3, 1) := by decide +kernel
theorem dL_law_747 : decode cL_law 747 = .ok (.iconst 2, 1) := by decide +kernel
theorem dL_law_748 : decode cL_law 748 = .ok (.iadd, 1) := by decide +kernel
theorem dL_law_749 : decode cL_law 749 = .ok (.iaload, 1) := by decide +kernel
theorem dL_law_750 : decode cL_law 750 = .ok (.aload_n 0, 1) := by decide +kernel
theorem dL_law_751 : decode cL_law 751 = .ok (.iload_n 3, 1) := by decide +kernel
theorem dL_law_752 : decode cL_law 752 = .ok (.iconst 3, 1) := by decide +kernel
theorem dL_law_753 : decode cL_law 753 = .ok (.iadd, 1) := by decide +kernel
theorem dL_law_754 : decode cL_law 754 = .ok (.iaload, 1) := by decide +kernel
theorem dL_law_755 : decode cL_law 755 = .ok (.aload_n 0, 1) := by decide +kernel
theorem dL_law_756 : decode cL_law 756 = .ok (.iload_n 3, 1) := by decide +kernel
theorem dL_law_757 : decode cL_law 757 = .ok (.iconst 4, 1) := by decide +kernel
theorem dL_law_758 : decode cL_law 758 = .ok (.iadd, 1) := by decide +kernel
theorem dL_law_759 : decode cL_law 759 = .ok (.iaload, 1) := by decide +kernel
theorem dL_law_760 : decode cL_law 760 = .ok (.ifCond .eq 7, 3) := by decide +kernel
theorem dL_law_763 : decode cL_law 763 = .ok (.iconst 1, 1) := by decide +kernel
theorem dL_law_764 : decode cL_law 764 = .ok (.goto 4, 3) := by decide +kernel
theorem dL_law_767 : decode cL_law 767 = .ok (.iconst 0, 1) := by decide +kernel
theorem dL_law_768 : decode cL_law 768 = .ok (.invokevirtual 91, 3) := by decide +kernel
theorem dL_law_771 : decode cL_law 771 = .ok (.aload_n 2, 1) := by decide +kernel
theorem dL_law_772 : decode cL_law 772 = .ok (.aload_n 0, 1) := by decide +kernel
theorem dL_law_773 : decode cL_law 773 = .ok (.iload_n 3, 1) := by decide +kernel
theorem dL_law_774 : decode cL_law 774 = .ok (.iconst 1, 1) := by decide +kernel
theorem dL_law_775 : decode cL_law 775 = .ok (.iadd, 1) := by decide +kernel
theorem dL_law_776 : decode cL_law 776 = .ok (.iaload, 1) := by decide +kernel
theorem dL_law_777 : decode cL_law 777 = .ok (.aload_n 0, 1) := by decide +kernel
theorem dL_law_778 : decode cL_law 778 = .ok (.iload_n 3, 1) := by decide +kernel
theorem dL_law_779 : decode cL_law 779 = .ok (.iconst 2, 1) := by decide +kernel
theorem dL_law_780 : decode cL_law 780 = .ok (.iadd, 1) := by decide +kernel
theorem dL_law_781 : decode cL_law 781 = .ok (.iaload, 1) := by decide +kernel
theorem dL_law_782 : decode cL_law 782 = .ok (.aload_n 0, 1) := by decide +kernel
theorem dL_law_783 : decode cL_law 783 = .ok (.iload_n 3, 1) := by decide +kernel
theorem dL_law_784 : decode cL_law 784 = .ok (.iconst 3, 1) := by decide +kernel
theorem dL_law_785 : decode cL_law 785 = .ok (.iadd, 1) := by decide +kernel
theorem dL_law_786 : decode cL_law 786 = .ok (.iaload, 1) := by decide +kernel
theorem dL_law_787 : decode cL_law 787 = .ok (.aload_n 0, 1) := by decide +kernel
theorem dL_law_788 : decode cL_law 788 = .ok (.iload_n 3, 1) := by decide +kernel
theorem dL_law_789 : decode cL_law 789 = .ok (.iconst 4, 1) := by decide +kernel
theorem dL_law_790 : decode cL_law 790 = .ok (.iadd, 1) := by decide +kernel
theorem dL_law_791 : decode cL_law 791 = .ok (.iaload, 1) := by decide +kernel
theorem dL_law_792 : decode cL_law 792 = .ok (.ifCond .eq 7, 3) := by decide +kernel
theorem dL_law_795 : decode cL_law 795 = .ok (.iconst 1, 1) := by decide +kernel
theorem dL_law_796 : decode cL_law 796 = .ok (.goto 4, 3) := by decide +kernel
theorem dL_law_799 : decode cL_law 799 = .ok (.iconst 0, 1) := by decide +kernel
theorem dL_law_800 : decode cL_law 800 = .ok (.invokevirtual 95, 3) := by decide +kernel
theorem dL_law_803 : decode cL_law 803 = .ok (.if_icmp .eq 150, 3) := by decide +kernel
theorem dL_law_806 : decode cL_law 806 = .ok (.iconst 0, 1) := by decide +kernel
theorem dL_law_807 : decode cL_law 807 = .ok (.ireturn, 1) := by decide +kernel
theorem dL_law_808 : decode cL_law 808 = .ok (.aload_n 1, 1) := by decide +kernel
theorem dL_law_809 : decode cL_law 809 = .ok (.aload_n 0, 1) := by decide +kernel
theorem dL_law_810 : decode cL_law 810 = .ok (.iload_n 3, 1) := by decide +kernel
theorem dL_law_811 : decode cL_law 811 = .ok (.iconst 1, 1) := by decide +kernel
theorem dL_law_812 : decode cL_law 812 = .ok (.iadd, 1) := by decide +kernel
theorem dL_law_813 : decode cL_law 813 = .ok (.iaload, 1) := by decide +kernel
theorem dL_law_814 : decode cL_law 814 = .ok (.aload_n 0, 1) := by decide +kernel
theorem dL_law_815 : decode cL_law 815 = .ok (.iload_n 3, 1) := by decide +kernel
theorem dL_law_816 : decode cL_law 816 = .ok (.iconst 2, 1) := by decide +kernel
theorem dL_law_817 : decode cL_law 817 = .ok (.iadd, 1) := by decide +kernel
theorem dL_law_818 : decode cL_law 818 = .ok (.iaload, 1) := by decide +kernel
theorem dL_law_819 : decode cL_law 819 = .ok (.aload_n 0, 1) := by decide +kernel
theorem dL_law_820 : decode cL_law 820 = .ok (.iload_n 3, 1) := by decide +kernel
theorem dL_law_821 : decode cL_law 821 = .ok (.iconst 3, 1) := by decide +kernel
theorem dL_law_822 : decode cL_law 822 = .ok (.iadd, 1) := by decide +kernel
theorem dL_law_823 : decode cL_law 823 = .ok (.iaload, 1) := by decide +kernel
theorem dL_law_824 : decode cL_law 824 = .ok (.invokevirtual 96, 3) := by decide +kernel
theorem dL_law_827 : decode cL_law 827 = .ok (.aload_n 2, 1) := by decide +kernel
theorem dL_law_828 : decode cL_law 828 = .ok (.aload_n 0, 1) := by decide +kernel
theorem dL_law_829 : decode cL_law 829 = .ok (.iload_n 3, 1) := by decide +kernel
theorem dL_law_830 : decode cL_law 830 = .ok (.iconst 1, 1) := by decide +kernel
theorem dL_law_831 : decode cL_law 831 = .ok (.iadd, 1) := by decide +kernel
theorem dL_law_832 : decode cL_law 832 = .ok (.iaload, 1) := by decide +kernel
theorem dL_law_833 : decode cL_law 833 = .ok (.aload_n 0, 1) := by decide +kernel
theorem dL_law_834 : decode cL_law 834 = .ok (.iload_n 3, 1) := by decide +kernel
theorem dL_law_835 : decode cL_law 835 = .ok (.iconst 2, 1) := by decide +kernel
theorem dL_law_836 : decode cL_law 836 = .ok (.iadd, 1) := by decide +kernel
theorem dL_law_837 : decode cL_law 837 = .ok (.iaload, 1) := by decide +kernel
theorem dL_law_838 : decode cL_law 838 = .ok (.aload_n 0, 1) := by decide +kernel
theorem dL_law_839 : decode cL_law 839 = .ok (.iload_n 3, 1) := by decide +kernel
theorem dL_law_840 : decode cL_law 840 = .ok (.iconst 3, 1) := by decide +kernel
theorem dL_law_841 : decode cL_law 841 = .ok (.iadd, 1) := by decide +kernel
theorem dL_law_842 : decode cL_law 842 = .ok (.iaload, 1) := by decide +kernel
theorem dL_law_843 : decode cL_law 843 = .ok (.invokevirtual 99, 3) := by decide +kernel
theorem dL_law_846 : decode cL_law 846 = .ok (.if_icmp .eq 107, 3) := by decide +kernel
theorem dL_law_849 : decode cL_law 849 = .ok (.iconst 0, 1) := by decide +kernel
theorem dL_law_850 : decode cL_law 850 = .ok (.ireturn, 1) := by decide +kernel
theorem dL_law_851 : decode cL_law 851 = .ok (.aload_n 1, 1) := by decide +kernel
theorem dL_law_852 : decode cL_law 852 = .ok (.aload_n 0, 1) := by decide +kernel
theorem dL_law_853 : decode cL_law 853 = .ok (.iload_n 3, 1) := by decide +kernel
theorem dL_law_854 : decode cL_law 854 = .ok (.iconst 1, 1) := by decide +kernel
theorem dL_law_855 : decode cL_law 855 = .ok (.iadd, 1) := by decide +kernel
theorem dL_law_856 : decode cL_law 856 = .ok (.iaload, 1) := by decide +kernel
theorem dL_law_857 : decode cL_law 857 = .ok (.aload_n 0, 1) := by decide +kernel
theorem dL_law_858 : decode cL_law 858 = .ok (.iload_n 3, 1) := by decide +kernel
theorem dL_law_859 : decode cL_law 859 = .ok (.iconst 2, 1) := by decide +kernel
theorem dL_law_860 : decode cL_law 860 = .ok (.iadd, 1) := by decide +kernel
theorem dL_law_861 : decode cL_law 861 = .ok (.iaload, 1) := by decide +kernel
theorem dL_law_862 : decode cL_law 862 = .ok (.invokevirtual 100, 3) := by decide +kernel
theorem dL_law_865 : decode cL_law 865 = .ok (.aload_n 2, 1) := by decide +kernel
theorem dL_law_866 : decode cL_law 866 = .ok (.aload_n 0, 1) := by decide +kernel
theorem dL_law_867 : decode cL_law 867 = .ok (.iload_n 3, 1) := by decide +kernel
theorem dL_law_868 : decode cL_law 868 = .ok (.iconst 1, 1) := by decide +kernel
theorem dL_law_869 : decode cL_law 869 = .ok (.iadd, 1) := by decide +kernel
theorem dL_law_870 : decode cL_law 870 = .ok (.iaload, 1) := by decide +kernel
theorem dL_law_871 : decode cL_law 871 = .ok (.aload_n 0, 1) := by decide +kernel
theorem dL_law_872 : decode cL_law 872 = .ok (.iload_n 3, 1) := by decide +kernel
theorem dL_law_873 : decode cL_law 873 = .ok (.iconst 2, 1) := by decide +kernel
theorem dL_law_874 : decode cL_law 874 = .ok (.iadd, 1) := by decide +kernel
theorem dL_law_875 : decode cL_law 875 = .ok (.iaload, 1) := by decide +kernel
theorem dL_law_876 : decode cL_law 876 = .ok (.invokevirtual 103, 3) := by decide +kernel
theorem dL_law_879 : decode cL_law 879 = .ok (.if_icmp .eq 74, 3) := by decide +kernel
theorem dL_law_882 : decode cL_law 882 = .ok (.iconst 0, 1) := by decide +kernel
theorem dL_law_883 : decode cL_law 883 = .ok (.ireturn, 1) := by decide +kernel
theorem dL_law_884 : decode cL_law 884 = .ok (.aload_n 1, 1) := by decide +kernel
theorem dL_law_885 : decode cL_law 885 = .ok (.aload_n 0, 1) := by decide +kernel
theorem dL_law_886 : decode cL_law 886 = .ok (.iload_n 3, 1) := by decide +kernel
theorem dL_law_887 : decode cL_law 887 = .ok (.iconst 1, 1) := by decide +kernel
theorem dL_law_888 : decode cL_law 888 = .ok (.iadd, 1) := by decide +kernel
theorem dL_law_889 : decode cL_law 889 = .ok (.iaload, 1) := by decide +kernel
theorem dL_law_890 : decode cL_law 890 = .ok (.invokevirtual 104, 3) := by decide +kernel
theorem dL_law_893 : decode cL_law 893 = .ok (.aload_n 2, 1) := by decide +kernel
theorem dL_law_894 : decode cL_law 894 = .ok (.aload_n 0, 1) := by decide +kernel
theorem dL_law_895 : decode cL_law 895 = .ok (.iload_n 3, 1) := by decide +kernel
theorem dL_law_896 : decode cL_law 896 = .ok (.iconst 1, 1) := by decide +kernel
theorem dL_law_897 : decode cL_law 897 = .ok (.iadd, 1) := by decide +kernel
theorem dL_law_898 : decode cL_law 898 = .ok (.iaload, 1) := by decide +kernel
theorem dL_law_899 : decode cL_law 899 = .ok (.invokevirtual 107, 3) := by decide +kernel
theorem dL_law_902 : decode cL_law 902 = .ok (.if_icmp .eq 51, 3) := by decide +kernel
theorem dL_law_905 : decode cL_law 905 = .ok (.iconst 0, 1) := by decide +kernel
theorem dL_law_906 : decode cL_law 906 = .ok (.ireturn, 1) := by decide +kernel
theorem dL_law_907 : decode cL_law 907 = .ok (.aload_n 1, 1) := by decide +kernel
theorem dL_law_908 : decode cL_law 908 = .ok (.aload_n 0, 1) := by decide +kernel
theorem dL_law_909 : decode cL_law 909 = .ok (.iload_n 3, 1) := by decide +kernel
theorem dL_law_910 : decode cL_law 910 = .ok (.iconst 1, 1) := by decide +kernel
theorem dL_law_911 : decode cL_law 911 = .ok (.iadd, 1) := by decide +kernel
theorem dL_law_912 : decode cL_law 912 = .ok (.iaload, 1) := by decide +kernel
theorem dL_law_913 : decode cL_law 913 = .ok (.invokevirtual 108, 3) := by decide +kernel
theorem dL_law_916 : decode cL_law 916 = .ok (.aload_n 2, 1) := by decide +kernel
theorem dL_law_917 : decode cL_law 917 = .ok (.aload_n 0, 1) := by decide +kernel
theorem dL_law_918 : decode cL_law 918 = .ok (.iload_n 3, 1) := by decide +kernel
theorem dL_law_919 : decode cL_law 919 = .ok (.iconst 1, 1) := by decide +kernel
theorem dL_law_920 : decode cL_law 920 = .ok (.iadd, 1) := by decide +kernel
theorem dL_law_921 : decode cL_law 921 = .ok (.iaload, 1) := by decide +kernel
theorem dL_law_922 : decode cL_law 922 = .ok (.invokevirtual 111, 3) := by decide +kernel
theorem dL_law_925 : decode cL_law 925 = .ok (.if_icmp .eq 28, 3) := by decide +kernel
theorem dL_law_928 : decode cL_law 928 = .ok (.iconst 0, 1) := by decide +kernel
theorem dL_law_929 : decode cL_law 929 = .ok (.ireturn, 1) := by decide +kernel
theorem dL_law_930 : decode cL_law 930 = .ok (.aload_n 1, 1) := by decide +kernel
theorem dL_law_931 : decode cL_law 931 = .ok (.aload_n 0, 1) := by decide +kernel
theorem dL_law_932 : decode cL_law 932 = .ok (.iload_n 3, 1) := by decide +kernel
theorem dL_law_933 : decode cL_law 933 = .ok (.iconst 1, 1) := by decide +kernel
theorem dL_law_934 : decode cL_law 934 = .ok (.iadd, 1) := by decide +kernel
theorem dL_law_935 : decode cL_law 935 = .ok (.iaload, 1) := by decide +kernel
theorem dL_law_936 : decode cL_law 936 = .ok (.invokevirtual 112, 3) := by decide +kernel
theorem dL_law_939 : decode cL_law 939 = .ok (.aload_n 2, 1) := by decide +kernel
theorem dL_law_940 : decode cL_law 940 = .ok (.aload_n 0, 1) := by decide +kernel
theorem dL_law_941 : decode cL_law 941 = .ok (.iload_n 3, 1) := by decide +kernel
theorem dL_law_942 : decode cL_law 942 = .ok (.iconst 1, 1) := by decide +kernel
theorem dL_law_943 : decode cL_law 943 = .ok (.iadd, 1) := by decide +kernel
theorem dL_law_944 : decode cL_law 944 = .ok (.iaload, 1) := by decide +kernel
theorem dL_law_945 : decode cL_law 945 = .ok (.invokevirtual 115, 3) := by decide +kernel
theorem dL_law_948 : decode cL_law 948 = .ok (.if_icmp .eq 5, 3) := by decide +kernel
theorem dL_law_951 : decode cL_law 951 = .ok (.iconst 0, 1) := by decide +kernel
theorem dL_law_952 : decode cL_law 952 = .ok (.ireturn, 1) := by decide +kernel
theorem dL_law_953 : decode cL_law 953 = .ok (.iinc 3 5, 3) := by decide +kernel
theorem dL_law_956 : decode cL_law 956 = .ok (.goto (-938), 3) := by decide +kernel
theorem dL_law_959 : decode cL_law 959 = .ok (.iconst 1, 1) := by decide +kernel
theorem dL_law_960 : decode cL_law 960 = .ok (.ireturn, 1) := by decide +kernel
end
section
/-! THE LAYER: worlds by node numbers, the judgement J over a state, its rows -/
def LW : List Cond := lw_tbl.filter goodWord
theorem LW_mem {w : Cond} (i : Nat) (h : lw_tbl[i]? = some w) (hg : goodWord w = true) : w ∈ LW := List.mem_filter.mpr ⟨List.mem_of_getElem? h, hg⟩
def wsOf (y : MethodName) (cc : ByteArray) (nL : Nat) (ret : Option FieldType) : List Cond := .code y cc nL ret :: LW
theorem good_LW {w : Cond} (h : w ∈ LW) : (w.onTables && w.keeps) = true ∨ ∃ ty, w = .arrayClass ty := good_of_word (List.mem_filter.mp h).2
theorem goodIn_wsOf {y : MethodName} {cc : ByteArray} {nL : Nat} {ret : Option FieldType} (h : Cond.code y cc nL ret ∈ LW) : GoodIn LW (wsOf y cc nL ret) := fun w hw => by
  have h1 : w ∈ LW := (List.mem_cons.mp hw).elim (fun e => e ▸ h) id
  exact ⟨h1, good_LW h1⟩
theorem inLW {C : String} {T : u_T} {N : Nat} (h : ∀ w ∈ u_ws C T N, w ∈ lw_tbl) (hg : (u_ws C T N).all goodWord = true) : ∀ w ∈ u_ws C T N, w ∈ LW := fun w hw => List.mem_filter.mpr ⟨h w hw, List.all_eq_true.mp hg w hw⟩
abbrev classes : List vw_C := [(RX0, TX0, 1), (RX1, TX1, 3), (RX2, TX2, 2), (RX4, TX4, 7), (RX6, TX6, 1), (RX7, TX7, 4), (RX8, TX8, 3), (RX9, TX9, 2), (RX10, TX10, 5), (RX11, TX11, 31)]

theorem lwX0 : ∀ w ∈ u_ws RX0 TX0 1, w ∈ LW := inLW inX0 (by decide +kernel)
theorem lwX1 : ∀ w ∈ u_ws RX1 TX1 3, w ∈ LW := inLW inX1 (by decide +kernel)
theorem lwX2 : ∀ w ∈ u_ws RX2 TX2 2, w ∈ LW := inLW inX2 (by decide +kernel)
theorem lwX4 : ∀ w ∈ u_ws RX4 TX4 7, w ∈ LW := inLW inX4 (by decide +kernel)
theorem lwX6 : ∀ w ∈ u_ws RX6 TX6 1, w ∈ LW := inLW inX6 (by decide +kernel)
theorem lwX7 : ∀ w ∈ u_ws RX7 TX7 4, w ∈ LW := inLW inX7 (by decide +kernel)
theorem lwX8 : ∀ w ∈ u_ws RX8 TX8 3, w ∈ LW := inLW inX8 (by decide +kernel)
theorem lwX9 : ∀ w ∈ u_ws RX9 TX9 2, w ∈ LW := inLW inX9 (by decide +kernel)
theorem lwX10 : ∀ w ∈ u_ws RX10 TX10 5, w ∈ LW := inLW inX10 (by decide +kernel)
theorem lwX11 : ∀ w ∈ u_ws RX11 TX11 31, w ∈ LW := inLW inX11 (by decide +kernel)
/-- the state: int fields by node and field, arrays by node, the one long field -/
abbrev St : Type := (Nat → Nat → Int32) × (Nat → Nat → Int32) × Int64
def gI (S : St) (n k : Nat) : Int32 := S.1 n k
def gA (S : St) (n : Nat) : Nat → Int32 := S.2.1 n
def gF (S : St) : Int64 := S.2.2
def sI (S : St) (n k : Nat) (v : Int32) : St := (fun m => if m = n then upd (S.1 n) k v else S.1 m, S.2.1, S.2.2)
def sAf (S : St) (n : Nat) (f : Nat → Int32) : St := (S.1, fun m => if m = n then f else S.2.1 m, S.2.2)
def sA (S : St) (n k : Nat) (v : Int32) : St := sAf S n (upd (gA S n) k v)
def sF (S : St) (v : Int64) : St := (S.1, S.2.1, v)
abbrev Sh : Type := (Nat × Nat) ⊕ (Nat × List Nat)

def shL : List Sh := [.inr (9, [11, 12, 13, 14, 15, 0, 16, 0, 0, 17, 0, 18, 19, 0, 20, 21, 22, 0, 23, 0, 0, 0, 24, 0, 25, 1, 0, 26, 27, 0, 0]), .inl (0, 640), .inl (0, 16), .inl (0, 12), .inl (1, 2401), .inl (0, 60), .inl (0, 60), .inl (0, 1600), .inl (1, 2401), .inl (0, 2401), .inl (0, 2400), .inl (0, 60), .inl (0, 60), .inl (0, 40), .inl (1, 2401), .inl (0, 16), .inl (0, 1360), .inl (1, 2), .inr (8, [29, 71, 32, 33, 34]), .inr (3, [30, 0, 0, 31, 0, 0, 0]), .inl (0, 60), .inl (0, 60), .inl (3, 2), .inr (7, [65, 67]), .inr (5, [69, 35, 36, 38]), .inl (0, 25), .inr (0, [37]), .inl (0, 16), .inr (6, [0, 0, 39]), .inl (4, 25), .inl (0, 40), .inl (0, 40), .inl (0, 40), .inl (0, 40), .inl (0, 40), .inl (0, 40), .inl (0, 40), .inl (0, 40), .inl (0, 40), .inl (0, 40), .inl (0, 40), .inl (0, 40), .inl (0, 40), .inl (0, 40), .inl (0, 40), .inl (0, 40), .inl (0, 40), .inl (0, 40), .inl (0, 40), .inl (0, 40), .inl (0, 40), .inl (0, 40), .inl (0, 40), .inl (0, 40), .inl (0, 40), .inr (4, [66]), .inl (0, 343), .inr (4, [68]), .inl (0, 343), .inr (4, [70]), .inl (0, 343), .inr (1, [72, 73, 74]), .inl (2, 4), .inl (2, 12), .inl (0, 12), .inr (2, [76, 0]), .inl (0, 40), .inr (2, [78, 0]), .inl (0, 40), .inr (2, [80, 0]), .inl (0, 40), .inr (2, [82, 0]), .inl (0, 40), .inr (2, [84, 0]), .inl (0, 40), .inr (2, [86, 0]), .inl (0, 40), .inr (2, [88, 0]), .inl (0, 40), .inr (2, [90, 0]), .inl (0, 40), .inr (2, [92, 0]), .inl (0, 40), .inr (2, [94, 0]), .inl (0, 40), .inr (2, [96, 0]), .inl (0, 40), .inr (2, [98, 0]), .inl (0, 40), .inr (2, [100, 0]), .inl (0, 40), .inr (2, [102, 0]), .inl (0, 40), .inr (2, [104, 0]), .inl (0, 40), .inr (2, [106, 0]), .inl (0, 40), .inr (1, [108, 109, 110]), .inl (2, 4), .inl (2, 12), .inl (0, 12), .inr (2, [112, 0]), .inl (0, 40), .inr (2, [114, 0]), .inl (0, 40), .inr (2, [116, 0]), .inl (0, 40), .inr (2, [118, 0]), .inl (0, 40), .inr (2, [120, 0]), .inl (0, 40), .inr (2, [122, 0]), .inl (0, 40), .inr (2, [124, 0]), .inl (0, 40), .inr (2, [126, 0]), .inl (0, 40), .inr (2, [128, 0]), .inl (0, 40), .inr (2, [130, 0]), .inl (0, 40), .inr (2, [132, 0]), .inl (0, 40), .inr (2, [134, 0]), .inl (0, 40), .inr (2, [136, 0]), .inl (0, 40), .inr (2, [138, 0]), .inl (0, 40), .inr (2, [140, 0]), .inl (0, 40), .inr (2, [142, 0]), .inl (0, 40), .inr (1, [144, 145, 146]), .inl (2, 4), .inl (2, 12), .inl (0, 12), .inr (2, [148, 0]), .inl (0, 40), .inr (2, [150, 0]), .inl (0, 40), .inr (2, [152, 0]), .inl (0, 40), .inr (2, [154, 0]), .inl (0, 40), .inr (2, [156, 0]), .inl (0, 40), .inr (2, [158, 0]), .inl (0, 40), .inr (2, [160, 0]), .inl (0, 40), .inr (2, [162, 0]), .inl (0, 40), .inr (2, [164, 0]), .inl (0, 40), .inr (2, [166, 0]), .inl (0, 40), .inr (2, [168, 0]), .inl (0, 40), .inr (2, [170, 0]), .inl (0, 40), .inr (2, [172, 0]), .inl (0, 40), .inr (2, [174, 0]), .inl (0, 40), .inr (2, [176, 0]), .inl (0, 40), .inr (2, [178, 0]), .inl (0, 40)]
def sh (n : Nat) : Sh := shL.getD n (.inl (9, 0))
/-- the node that a place of an array of references holds -/
def el (n j : Nat) : Nat := if n = 22 then 97 + 36 * j else if n = 29 then 30 + j else if (n - 62) % 36 = 0 then n + 3 + 2 * j else n + 10 + 2 * j
/-- the addresses: layout, array classes, address of a node, which images are there, the two static rows -/
abbrev GT : Type := va_G × (Nat → ClassId) × (Nat → Nat) × (Nat → Bool) × Nat × Nat
abbrev gD (g : GT) : va_G := g.1
abbrev gT (g : GT) : Nat → ClassId := g.2.1
def gad (g : GT) : Nat → Nat := g.2.2.1
abbrev gpr (g : GT) : Nat → Bool := g.2.2.2.1
abbrev gs1 (g : GT) : Nat := g.2.2.2.2.1
abbrev gs2 (g : GT) : Nat := g.2.2.2.2.2
def tysOf (g : GT) : List (ClassId × FieldType) := [(gT g 0, .int), (gT g 1, .boolean), (gT g 2, .object RX2), (gT g 3, .object RX1), (gT g 4, .array .int)]
def fval (g : GT) (S : St) (n k x : Nat) : Value := if x = 0 then .int (gI S n k) else if x = 1 then .long (gF S) else .ref (gad g (x - 10))
def cellA (g : GT) (S : St) (n kd len : Nat) : va_E := match kd with
  | 0 => .inl (gT g 0, len, .inl (gA S n))
  | 1 => .inl (gT g 1, len, .inl (gA S n))
  | 2 => .inl (gT g 2, len, .inr (.inr (.inr (.inr (fun j => some (gad g (el n j)))))))
  | 3 => .inl (gT g 3, len, .inr (.inr (.inr (.inr (fun j => if gpr g j then some (gad g (el n j)) else none)))))
  | _ => .inl (gT g 4, len, .inr (.inr (.inr (.inr (fun j => some (gad g (el n j)))))))
def cellS (g : GT) (S : St) (n : Nat) : va_E := match sh n with
  | .inl a => cellA g S n a.1 a.2
  | .inr a => .inr (a.1, a.2.mapIdx (fun k x => fval g S n k x))
def lvb (g : GT) (n : Nat) : Bool := Nat.blt n 97 || ((gpr g 0 && (Nat.ble 97 n && Nat.blt n 133)) || (gpr g 1 && (Nat.ble 133 n && Nat.blt n 169)))
def liveL (g : GT) : List Nat := (List.range 169).filter (lvb g)
def wN (g : GT) (S : St) : va_W := (liveL g).map (fun n => (gad g n, cellS g S n))
def gAd (g : GT) : Nat → Prop := fun q => ∃ n, lvb g n = true ∧ q = gad g n
theorem lvb_lt {g : GT} {n : Nat} (h : lvb g n = true) : n < 169 := by
  unfold lvb at h
  simp only [Bool.or_eq_true, Bool.and_eq_true, Nat.blt_eq] at h
  omega
theorem live_mem {g : GT} {n : Nat} (h : lvb g n = true) : n ∈ liveL g := List.mem_filter.mpr ⟨List.mem_range.mpr (lvb_lt h), h⟩
theorem live_place {g : GT} {n : Nat} (h : lvb g n = true) : ∃ k : Nat, (liveL g)[k]? = some n := List.getElem?_of_mem (live_mem h)
theorem ws_at {g : GT} {S : St} {n k : Nat} (h : (liveL g)[k]? = some n) : (wN g S)[k]? = some (gad g n, cellS g S n) := by
  unfold wN
  rw [List.getElem?_map, h]
  rfl
theorem ws_set {g : GT} {S S' : St} {A : Nat → Prop} {n k : Nat} (hD : va_D A (wN g S)) (hk : (liveL g)[k]? = some n) (ho : ∀ m, m ≠ n → cellS g S' m = cellS g S m) : (wN g S).set k (gad g n, cellS g S' n) = wN g S' := by
  apply List.ext_getElem?
  intro j
  rw [List.getElem?_set]
  by_cases hj : k = j
  · subst hj
    rw [if_pos rfl]
    have h1 := ws_at (S := S) hk
    have hlt : k < (wN g S).length := (List.getElem?_eq_some_iff.mp h1).1
    rw [if_pos hlt, ws_at hk]
  · rw [if_neg hj]
    cases hm : (liveL g)[j]? with
    | none =>
      unfold wN
      rw [List.getElem?_map, List.getElem?_map, hm]
      rfl
    | some m =>
      rw [ws_at hm, ws_at hm]
      by_cases hmn : m = n
      · subst hmn
        exact absurd (hD.1 k j _ _ (ws_at (S := S) hk) (ws_at (S := S) hm) rfl) hj
      · rw [ho m hmn]
theorem cell_arr {g : GT} {S : St} {n kd len : Nat} (h : sh n = .inl (kd, len)) : cellS g S n = cellA g S n kd len := by
  unfold cellS
  rw [h]
theorem cell_obj {g : GT} {S : St} {n ci : Nat} {fl : List Nat} (h : sh n = .inr (ci, fl)) : cellS g S n = .inr (ci, fl.mapIdx (fun k x => fval g S n k x)) := by
  unfold cellS
  rw [h]
theorem fl_at {g : GT} {S : St} {n k x : Nat} {fl : List Nat} (h : fl[k]? = some x) : (fl.mapIdx (fun k x => fval g S n k x))[k]? = some (fval g S n k x) := by
  rw [List.getElem?_mapIdx, h]
  rfl
theorem cellS_sA {g : GT} {S : St} {n m : Nat} {f : Nat → Int32} (h : m ≠ n) : cellS g (sAf S n f) m = cellS g S m := by
  have h1 : gA (sAf S n f) m = gA S m := by
    show (if m = n then f else S.2.1 m) = S.2.1 m
    rw [if_neg h]
  unfold cellS
  cases sh m with
  | inl a =>
    show cellA g (sAf S n f) m a.1 a.2 = cellA g S m a.1 a.2
    unfold cellA
    rw [h1]
  | inr a => rfl
theorem cellS_sI {g : GT} {S : St} {n m k : Nat} {v : Int32} (h : m ≠ n) : cellS g (sI S n k v) m = cellS g S m := by
  have h1 : ∀ j, gI (sI S n k v) m j = gI S m j := by
    intro j
    show (if m = n then upd (S.1 n) k v else S.1 m) j = S.1 m j
    rw [if_neg h]
  unfold cellS
  cases sh m with
  | inl a => rfl
  | inr a =>
    show (Sum.inr (a.1, a.2.mapIdx (fun k' x => fval g (sI S n k v) m k' x)) : va_E) = Sum.inr (a.1, a.2.mapIdx (fun k' x => fval g S m k' x))
    have h2 : (fun k' x => fval g (sI S n k v) m k' x) = (fun k' x => fval g S m k' x) := by
      funext k' x
      unfold fval
      rw [h1]
      rfl
    rw [h2]

/-- the two static rows -/
def ofs : Nat → Int32 := fun j => ([0, 4096, 256, 4352, 16, 4112, 272, 4368, 1, 4097, 257, 4353, 17, 4113, 273, 4369] : List Int32).getD j 0
def stp : Nat → Int32 := fun j => ([1, 0, 0, 0, 1, -1, 0, 0, 1, -2, 1, 0, 1, -3, 3, -1] : List Int32).getD j 0
def stat (g : GT) (U : State) (H : Heap) : Prop := (va_Z RX3 "OF_SET" "[I" (.ref (gs1 g)) (gAd g) U H ∧ va_T .int (gs1 g) 16 (fun j => .int (ofs j)) (gAd g) U H) ∧ va_Z RX7 "STEPS" "[I" (.ref (gs2 g)) (gAd g) U H ∧ va_T .int (gs2 g) 16 (fun j => .int (stp j)) (gAd g) U H
theorem stat.moved {g : GT} {u U : State} {H : Heap} (hvm : u.vm.Alike U.vm) (h : stat g u H) : stat g U H := ⟨⟨h.1.1.moved hvm, h.1.2.moved hvm⟩, h.2.1.moved hvm, h.2.2.moved hvm⟩
theorem stat.kept {g : GT} {U : State} {H H1 : Heap} (h : stat g U H) (hq : ∀ a : Nat, a < H.size → ¬ gAd g a → H1[a]? = H[a]?) : stat g U H1 := ⟨⟨h.1.1.kept hq, h.1.2.kept hq⟩, h.2.1.kept hq, h.2.2.kept hq⟩
def PreG (g : GT) (S : St) (U : State) : Prop := va_P (gD g) classes (wN g S) U.heap ∧ va_K (gD g) classes (tysOf g) U ∧ (∀ S' : St, va_D (gAd g) (wN g S')) ∧ stat g U U.heap
def QS (g : GT) (rS : Option Value × St) : Array Value → State → Outcome → State → Prop := fun _ st oc t => oc = .returned rS.1 ∧ va_P (gD g) classes (wN g rS.2) t.heap ∧ va_F (gAd g) st t
/-- a contract of a method that makes nothing -/
def CT (l : Launch) (y : MethodName) (cc : ByteArray) (nL : Nat) (ret : Option FieldType) (fr lo : Nat) (av : List Value) (g : GT) (S : St) (rS : Option Value × St) : Prop :=
  Met l y (wsOf y cc nL ret) { frames := fr, cells := 0, slots := 0, locals := lo } (va_Pc av (PreG g S)) (QS g rS) 0 0 (gAd g)
abbrev KT : Type := Program × Launch × Env × Room × State × MethodId × Array Value × List Frame × Method × Code
abbrev kp (κ : KT) := κ.1
abbrev kl (κ : KT) := κ.2.1
abbrev ke (κ : KT) := κ.2.2.1
abbrev kR (κ : KT) := κ.2.2.2.1
abbrev ks (κ : KT) := κ.2.2.2.2.1
abbrev km (κ : KT) := κ.2.2.2.2.2.1
abbrev ka (κ : KT) := κ.2.2.2.2.2.2.1
abbrev kb (κ : KT) := κ.2.2.2.2.2.2.2.1
abbrev kt (κ : KT) := κ.2.2.2.2.2.2.2.2.1
abbrev kc (κ : KT) := κ.2.2.2.2.2.2.2.2.2
/-- what is fixed while a method runs -/
def CX (κ : KT) (g : GT) (own : String) (cc : ByteArray) (nL : Nat) (ret : Option FieldType) (fr lo : Nat) : Prop :=
  (kp κ).tables.exec = Jvm.exec ∧ (kc κ).code = cc ∧ (kc κ).maxLocals = nL ∧ (ks κ).vm.findClass own = some (km κ).cls ∧ (∀ w ∈ LW, w.before (ka κ) (ks κ) = true) ∧ (kt κ).locks = false ∧ (kt κ).sig.returnType = ret ∧
  va_K (gD g) classes (tysOf g) (ks κ) ∧ (∀ S' : St, va_D (gAd g) (wN g S')) ∧ stat g (ks κ) (ks κ).heap ∧ kR κ = { frames := fr, cells := 0, slots := 0, locals := lo }
section CXS
variable {κ : KT} {g : GT} {own : String} {cc : ByteArray} {nL : Nat} {ret : Option FieldType} {fr lo : Nat}
theorem CX.ex (C : CX κ g own cc nL ret fr lo) : (kp κ).tables.exec = Jvm.exec := C.1
theorem CX.cd (C : CX κ g own cc nL ret fr lo) : (kc κ).code = cc := C.2.1
theorem CX.ml (C : CX κ g own cc nL ret fr lo) : (kc κ).maxLocals = nL := C.2.2.1
theorem CX.ow (C : CX κ g own cc nL ret fr lo) : (ks κ).vm.findClass own = some (km κ).cls := C.2.2.2.1
theorem CX.ts (C : CX κ g own cc nL ret fr lo) : ∀ w ∈ LW, w.before (ka κ) (ks κ) = true := C.2.2.2.2.1
theorem CX.lk (C : CX κ g own cc nL ret fr lo) : (kt κ).locks = false := C.2.2.2.2.2.1
theorem CX.rt (C : CX κ g own cc nL ret fr lo) : (kt κ).sig.returnType = ret := C.2.2.2.2.2.2.1
theorem CX.K (C : CX κ g own cc nL ret fr lo) : va_K (gD g) classes (tysOf g) (ks κ) := C.2.2.2.2.2.2.2.1
theorem CX.D (C : CX κ g own cc nL ret fr lo) (S : St) : va_D (gAd g) (wN g S) := C.2.2.2.2.2.2.2.2.1 S
theorem CX.sta (C : CX κ g own cc nL ret fr lo) : stat g (ks κ) (ks κ).heap := C.2.2.2.2.2.2.2.2.2.1
theorem CX.R (C : CX κ g own cc nL ret fr lo) : kR κ = { frames := fr, cells := 0, slots := 0, locals := lo } := C.2.2.2.2.2.2.2.2.2.2
end CXS
/-- from this frame over this state, where the mirror's word is 'some out', the machine comes to the method's end with it -/
def J (κ : KT) (g : GT) (nL : Nat) {α : Type} (φ : α → Option Value × St) (S : St) (pc : Nat) (xs : List (Nat × Value)) (st : List Value) (o : Option α) : Prop :=
  ∀ out : α, o = some out → ∀ (H : Heap) (locs : List Loc) (ls : Array Slot), va_P (gD g) classes (wN g S) H → va_S (gAd g) (ks κ).heap H locs → lv_has ls nL xs →
    W (kp κ) (kl κ) (ke κ) (kR κ) (ks κ) (km κ) (ka κ) (kb κ) (kt κ) (kc κ) H locs 0 0 (MQ (kb κ) (QS g (φ out)) (ka κ) (ks κ) 0 0 (gAd g)) (F0 (km κ) pc ls st)
/-- mirror words -/
def bnd {β α : Type} (v : β) (k : β → Option α) : Option α := k v
def inb {α : Type} (n : Nat) (i : Int32) (k : Nat → Option α) : Option α := if i < 0 ∨ n ≤ i.toNatClampNeg then none else k i.toNatClampNeg
def nzg {α : Type} (y : Int32) (k : Option α) : Option α := if y = 0 then none else k
def nzl {α : Type} (y : Int64) (k : Option α) : Option α := if y = 0 then none else k
def zbg {α : Type} (x : Int32) (k : Option α) : Option α := if x = 0 ∨ x = 1 then k else none
def imin (x y : Int32) : Int32 := if y < x then y else x
def imax (x y : Int32) : Int32 := if x < y then y else x
def put (i : Nat) (v : Value) (xs : List (Nat × Value)) : List (Nat × Value) := xs.filter (fun q => Nat.blt q.1 i && !(Nat.beq (q.1 + 1) i && Nat.beq q.2.category 2)) ++ (i, v) :: xs.filter (fun q => Nat.blt i q.1)
def put2 (i : Nat) (v : Value) (xs : List (Nat × Value)) : List (Nat × Value) := xs.filter (fun q => Nat.blt q.1 i && !(Nat.beq (q.1 + 1) i && Nat.beq q.2.category 2)) ++ (i, v) :: xs.filter (fun q => Nat.blt (i + 1) q.1)
theorem put_has {ls : Array Slot} {nL i : Nat} {v : Value} {xs : List (Nat × Value)} (h : lv_has ls nL ((i, v) :: xs.filter (fun q => !(q.1 == i) && !(q.1 + 1 == i && q.2.category == 2)))) : lv_has ls nL (put i v xs) := by
  refine ⟨h.1, h.2.1, fun q hq => h.2.2 q ?_⟩
  unfold put at hq
  rcases List.mem_append.mp hq with hq | hq
  · obtain ⟨h1, h2⟩ := List.mem_filter.mp hq
    refine List.mem_cons_of_mem _ (List.mem_filter.mpr ⟨h1, ?_⟩)
    simp only [Bool.and_eq_true, Nat.blt_eq, Bool.not_eq_true', Bool.and_eq_false_iff] at h2 ⊢
    refine ⟨by simp; omega, ?_⟩
    rcases h2.2 with z | z
    · exact Or.inl (by simpa using Nat.ne_of_beq_eq_false z)
    · exact Or.inr (by simpa using Nat.ne_of_beq_eq_false z)
  · rcases List.mem_cons.mp hq with rfl | hq
    · exact List.mem_cons_self
    · obtain ⟨h1, h2⟩ := List.mem_filter.mp hq
      refine List.mem_cons_of_mem _ (List.mem_filter.mpr ⟨h1, ?_⟩)
      simp only [Nat.blt_eq] at h2
      simp
      omega
theorem put2_has {ls : Array Slot} {nL i : Nat} {v : Value} {xs : List (Nat × Value)} (h : lv_has ls nL ((i, v) :: xs.filter (fun q => !(q.1 == i) && (!(q.1 == i + 1) && !(q.1 + 1 == i && q.2.category == 2))))) : lv_has ls nL (put2 i v xs) := by
  refine ⟨h.1, h.2.1, fun q hq => h.2.2 q ?_⟩
  unfold put2 at hq
  rcases List.mem_append.mp hq with hq | hq
  · obtain ⟨h1, h2⟩ := List.mem_filter.mp hq
    refine List.mem_cons_of_mem _ (List.mem_filter.mpr ⟨h1, ?_⟩)
    simp only [Bool.and_eq_true, Nat.blt_eq, Bool.not_eq_true', Bool.and_eq_false_iff] at h2 ⊢
    refine ⟨by simp; omega, by simp; omega, ?_⟩
    rcases h2.2 with z | z
    · exact Or.inl (by simpa using Nat.ne_of_beq_eq_false z)
    · exact Or.inr (by simpa using Nat.ne_of_beq_eq_false z)
  · rcases List.mem_cons.mp hq with rfl | hq
    · exact List.mem_cons_self
    · obtain ⟨h1, h2⟩ := List.mem_filter.mp hq
      refine List.mem_cons_of_mem _ (List.mem_filter.mpr ⟨h1, ?_⟩)
      simp only [Nat.blt_eq] at h2
      simp
      omega

section ROWS
variable {κ : KT} {g : GT} {own : String} {cc : ByteArray} {nL : Nat} {ret : Option FieldType} {fr lo : Nat} {α : Type} {φ : α → Option Value × St} {S : St} {pc : Nat} {xs xs1 : List (Nat × Value)} {st : List Value} {o o1 o2 : Option α}
theorem j_iconst (C : CX κ g own cc nL ret fr lo) {n : Int} {v : Int32} (hv : Int32.ofInt n = v) (hd : decode cc pc = .ok (.iconst n, 1)) (h : J κ g nL φ S (pc + 1) xs (.int v :: st) (o)) : J κ g nL φ S (pc) xs (st) (o) := fun out ho H locs ls hP hS hl => lv_iconst C.ex C.cd hd hv (h out ho H locs ls hP hS hl)
theorem j_bipush (C : CX κ g own cc nL ret fr lo) {n : Int} {v : Int32} (hv : (Int8.ofInt n).toInt32 = v) (hd : decode cc pc = .ok (.bipush n, 2)) (h : J κ g nL φ S (pc + 2) xs (.int v :: st) (o)) : J κ g nL φ S (pc) xs (st) (o) := fun out ho H locs ls hP hS hl => lv_bipush C.ex C.cd hd hv (h out ho H locs ls hP hS hl)
theorem j_sipush (C : CX κ g own cc nL ret fr lo) {n : Int} {v : Int32} (hv : (Int16.ofInt n).toInt32 = v) (hd : decode cc pc = .ok (.sipush n, 3)) (h : J κ g nL φ S (pc + 3) xs (.int v :: st) (o)) : J κ g nL φ S (pc) xs (st) (o) := fun out ho H locs ls hP hS hl => lv_sipush C.ex C.cd hd hv (h out ho H locs ls hP hS hl)
theorem j_lconst (C : CX κ g own cc nL ret fr lo) {n : Fin 2} {v : Int64} (hv : Int64.ofNat (n : Nat) = v) (hd : decode cc pc = .ok (.lconst n, 1)) (h : J κ g nL φ S (pc + 1) xs (.long v :: st) (o)) : J κ g nL φ S (pc) xs (st) (o) := fun out ho H locs ls hP hS hl => lv_lconst C.ex C.cd hd hv (h out ho H locs ls hP hS hl)
theorem j_iload_n (C : CX κ g own cc nL ret fr lo) {k : Fin 4} {i : Nat} {x : Int32} (q : Nat) (hx : xs[q]? = some (i, .int x)) (hd : decode cc pc = .ok (.iload_n k, 1)) (hi : (k : Nat) = i) (h : J κ g nL φ S (pc + 1) xs (.int x :: st) (o)) : J κ g nL φ S (pc) xs (st) (o) := fun out ho H locs ls hP hS hl => lv_iload_n C.ex C.cd hd hi (lv_at hl q hx) (h out ho H locs ls hP hS hl)
theorem j_iload (C : CX κ g own cc nL ret fr lo) {i : Nat} {x : Int32} (q : Nat) (hx : xs[q]? = some (i, .int x)) (hd : decode cc pc = .ok (.iload i, 2)) (h : J κ g nL φ S (pc + 2) xs (.int x :: st) (o)) : J κ g nL φ S (pc) xs (st) (o) := fun out ho H locs ls hP hS hl => lv_iload C.ex C.cd hd (lv_at hl q hx) (h out ho H locs ls hP hS hl)
theorem j_istore_n (C : CX κ g own cc nL ret fr lo) {k : Fin 4} {i : Nat} {x : Int32} (hd : decode cc pc = .ok (.istore_n k, 1)) (hi : (k : Nat) = i) (hn : i < nL) (hp : put i (.int x) xs = xs1) (h : J κ g nL φ S (pc + 1) xs1 (st) (o)) : J κ g nL φ S (pc) xs (.int x :: st) (o) := fun out ho H locs ls hP hS hl => lv_istore_n C.ex C.cd hd hi hl hn rfl (fun ls2 hl2 => h out ho H locs ls2 hP hS (hp ▸ put_has hl2))
theorem j_istore (C : CX κ g own cc nL ret fr lo) {i : Nat} {x : Int32} (hd : decode cc pc = .ok (.istore i, 2)) (hn : i < nL) (hp : put i (.int x) xs = xs1) (h : J κ g nL φ S (pc + 2) xs1 (st) (o)) : J κ g nL φ S (pc) xs (.int x :: st) (o) := fun out ho H locs ls hP hS hl => lv_istore C.ex C.cd hd hl hn rfl (fun ls2 hl2 => h out ho H locs ls2 hP hS (hp ▸ put_has hl2))
theorem j_lload_n (C : CX κ g own cc nL ret fr lo) {k : Fin 4} {i : Nat} {x : Int64} (q : Nat) (hx : xs[q]? = some (i, .long x)) (hd : decode cc pc = .ok (.lload_n k, 1)) (hi : (k : Nat) = i) (h : J κ g nL φ S (pc + 1) xs (.long x :: st) (o)) : J κ g nL φ S (pc) xs (st) (o) := fun out ho H locs ls hP hS hl => lv_lload_n C.ex C.cd hd hi (lv_at hl q hx) (h out ho H locs ls hP hS hl)
theorem j_lload (C : CX κ g own cc nL ret fr lo) {i : Nat} {x : Int64} (q : Nat) (hx : xs[q]? = some (i, .long x)) (hd : decode cc pc = .ok (.lload i, 2)) (h : J κ g nL φ S (pc + 2) xs (.long x :: st) (o)) : J κ g nL φ S (pc) xs (st) (o) := fun out ho H locs ls hP hS hl => lv_lload C.ex C.cd hd (lv_at hl q hx) (h out ho H locs ls hP hS hl)
theorem j_lstore_n (C : CX κ g own cc nL ret fr lo) {k : Fin 4} {i : Nat} {x : Int64} (hd : decode cc pc = .ok (.lstore_n k, 1)) (hi : (k : Nat) = i) (hn : i + 1 < nL) (hp : put2 i (.long x) xs = xs1) (h : J κ g nL φ S (pc + 1) xs1 (st) (o)) : J κ g nL φ S (pc) xs (.long x :: st) (o) := fun out ho H locs ls hP hS hl => lv_lstore_n C.ex C.cd hd hi hl hn rfl (fun ls2 hl2 => h out ho H locs ls2 hP hS (hp ▸ put2_has hl2))
theorem j_lstore (C : CX κ g own cc nL ret fr lo) {i : Nat} {x : Int64} (hd : decode cc pc = .ok (.lstore i, 2)) (hn : i + 1 < nL) (hp : put2 i (.long x) xs = xs1) (h : J κ g nL φ S (pc + 2) xs1 (st) (o)) : J κ g nL φ S (pc) xs (.long x :: st) (o) := fun out ho H locs ls hP hS hl => lv_lstore C.ex C.cd hd hl hn rfl (fun ls2 hl2 => h out ho H locs ls2 hP hS (hp ▸ put2_has hl2))
theorem j_aload_n (C : CX κ g own cc nL ret fr lo) {k : Fin 4} {i : Nat} {x : Nat} (q : Nat) (hx : xs[q]? = some (i, .ref x)) (hd : decode cc pc = .ok (.aload_n k, 1)) (hi : (k : Nat) = i) (h : J κ g nL φ S (pc + 1) xs (.ref x :: st) (o)) : J κ g nL φ S (pc) xs (st) (o) := fun out ho H locs ls hP hS hl => lv_aload_n C.ex C.cd hd hi (lv_at hl q hx) (h out ho H locs ls hP hS hl)
theorem j_aload (C : CX κ g own cc nL ret fr lo) {i : Nat} {x : Nat} (q : Nat) (hx : xs[q]? = some (i, .ref x)) (hd : decode cc pc = .ok (.aload i, 2)) (h : J κ g nL φ S (pc + 2) xs (.ref x :: st) (o)) : J κ g nL φ S (pc) xs (st) (o) := fun out ho H locs ls hP hS hl => lv_aload C.ex C.cd hd (lv_at hl q hx) (h out ho H locs ls hP hS hl)
theorem j_astore_n (C : CX κ g own cc nL ret fr lo) {k : Fin 4} {i : Nat} {x : Nat} (hd : decode cc pc = .ok (.astore_n k, 1)) (hi : (k : Nat) = i) (hn : i < nL) (hp : put i (.ref x) xs = xs1) (h : J κ g nL φ S (pc + 1) xs1 (st) (o)) : J κ g nL φ S (pc) xs (.ref x :: st) (o) := fun out ho H locs ls hP hS hl => lv_astore_n C.ex C.cd hd hi hl hn rfl (fun ls2 hl2 => h out ho H locs ls2 hP hS (hp ▸ put_has hl2))
theorem j_astore (C : CX κ g own cc nL ret fr lo) {i : Nat} {x : Nat} (hd : decode cc pc = .ok (.astore i, 2)) (hn : i < nL) (hp : put i (.ref x) xs = xs1) (h : J κ g nL φ S (pc + 2) xs1 (st) (o)) : J κ g nL φ S (pc) xs (.ref x :: st) (o) := fun out ho H locs ls hP hS hl => lv_astore C.ex C.cd hd hl hn rfl (fun ls2 hl2 => h out ho H locs ls2 hP hS (hp ▸ put_has hl2))
theorem j_fload_n (C : CX κ g own cc nL ret fr lo) {k : Fin 4} {i : Nat} {x : UInt32} (q : Nat) (hx : xs[q]? = some (i, .float x)) (hd : decode cc pc = .ok (.fload_n k, 1)) (hi : (k : Nat) = i) (h : J κ g nL φ S (pc + 1) xs (.float x :: st) (o)) : J κ g nL φ S (pc) xs (st) (o) := fun out ho H locs ls hP hS hl => lv_fload_n C.ex C.cd hd hi (lv_at hl q hx) (h out ho H locs ls hP hS hl)
theorem j_fload (C : CX κ g own cc nL ret fr lo) {i : Nat} {x : UInt32} (q : Nat) (hx : xs[q]? = some (i, .float x)) (hd : decode cc pc = .ok (.fload i, 2)) (h : J κ g nL φ S (pc + 2) xs (.float x :: st) (o)) : J κ g nL φ S (pc) xs (st) (o) := fun out ho H locs ls hP hS hl => lv_fload C.ex C.cd hd (lv_at hl q hx) (h out ho H locs ls hP hS hl)
theorem j_fstore_n (C : CX κ g own cc nL ret fr lo) {k : Fin 4} {i : Nat} {x : UInt32} (hd : decode cc pc = .ok (.fstore_n k, 1)) (hi : (k : Nat) = i) (hn : i < nL) (hp : put i (.float x) xs = xs1) (h : J κ g nL φ S (pc + 1) xs1 (st) (o)) : J κ g nL φ S (pc) xs (.float x :: st) (o) := fun out ho H locs ls hP hS hl => lv_fstore_n C.ex C.cd hd hi hl hn rfl (fun ls2 hl2 => h out ho H locs ls2 hP hS (hp ▸ put_has hl2))
theorem j_fstore (C : CX κ g own cc nL ret fr lo) {i : Nat} {x : UInt32} (hd : decode cc pc = .ok (.fstore i, 2)) (hn : i < nL) (hp : put i (.float x) xs = xs1) (h : J κ g nL φ S (pc + 2) xs1 (st) (o)) : J κ g nL φ S (pc) xs (.float x :: st) (o) := fun out ho H locs ls hP hS hl => lv_fstore C.ex C.cd hd hl hn rfl (fun ls2 hl2 => h out ho H locs ls2 hP hS (hp ▸ put_has hl2))
theorem j_dload_n (C : CX κ g own cc nL ret fr lo) {k : Fin 4} {i : Nat} {x : UInt64} (q : Nat) (hx : xs[q]? = some (i, .double x)) (hd : decode cc pc = .ok (.dload_n k, 1)) (hi : (k : Nat) = i) (h : J κ g nL φ S (pc + 1) xs (.double x :: st) (o)) : J κ g nL φ S (pc) xs (st) (o) := fun out ho H locs ls hP hS hl => lv_dload_n C.ex C.cd hd hi (lv_at hl q hx) (h out ho H locs ls hP hS hl)
theorem j_dload (C : CX κ g own cc nL ret fr lo) {i : Nat} {x : UInt64} (q : Nat) (hx : xs[q]? = some (i, .double x)) (hd : decode cc pc = .ok (.dload i, 2)) (h : J κ g nL φ S (pc + 2) xs (.double x :: st) (o)) : J κ g nL φ S (pc) xs (st) (o) := fun out ho H locs ls hP hS hl => lv_dload C.ex C.cd hd (lv_at hl q hx) (h out ho H locs ls hP hS hl)
theorem j_dstore_n (C : CX κ g own cc nL ret fr lo) {k : Fin 4} {i : Nat} {x : UInt64} (hd : decode cc pc = .ok (.dstore_n k, 1)) (hi : (k : Nat) = i) (hn : i + 1 < nL) (hp : put2 i (.double x) xs = xs1) (h : J κ g nL φ S (pc + 1) xs1 (st) (o)) : J κ g nL φ S (pc) xs (.double x :: st) (o) := fun out ho H locs ls hP hS hl => lv_dstore_n C.ex C.cd hd hi hl hn rfl (fun ls2 hl2 => h out ho H locs ls2 hP hS (hp ▸ put2_has hl2))
theorem j_dstore (C : CX κ g own cc nL ret fr lo) {i : Nat} {x : UInt64} (hd : decode cc pc = .ok (.dstore i, 2)) (hn : i + 1 < nL) (hp : put2 i (.double x) xs = xs1) (h : J κ g nL φ S (pc + 2) xs1 (st) (o)) : J κ g nL φ S (pc) xs (.double x :: st) (o) := fun out ho H locs ls hP hS hl => lv_dstore C.ex C.cd hd hl hn rfl (fun ls2 hl2 => h out ho H locs ls2 hP hS (hp ▸ put2_has hl2))
theorem j_topi {x : Int32} {k : Int32 → Option α} (h : ∀ y : Int32, J κ g nL φ S (pc) xs (.int y :: st) (k y)) : J κ g nL φ S (pc) xs (.int x :: st) (bnd x k) := h x
theorem j_topl {x : Int64} {k : Int64 → Option α} (h : ∀ y : Int64, J κ g nL φ S (pc) xs (.long y :: st) (k y)) : J κ g nL φ S (pc) xs (.long x :: st) (bnd x k) := h x
theorem j_topf {x : UInt32} {k : UInt32 → Option α} (h : ∀ y : UInt32, J κ g nL φ S (pc) xs (.float y :: st) (k y)) : J κ g nL φ S (pc) xs (.float x :: st) (bnd x k) := h x
theorem j_topd {x : UInt64} {k : UInt64 → Option α} (h : ∀ y : UInt64, J κ g nL φ S (pc) xs (.double y :: st) (k y)) : J κ g nL φ S (pc) xs (.double x :: st) (bnd x k) := h x
theorem j_iinc (C : CX κ g own cc nL ret fr lo) {i : Nat} {n : Int} {x c0 : Int32} {k : Int32 → Option α} {xs2 : Int32 → List (Nat × Value)} (q : Nat) (hx : xs[q]? = some (i, .int x)) (hd : decode cc pc = .ok (.iinc i n, 3)) (hc : Int32.ofInt n = c0) (hn : i < nL) (hp : ∀ v : Int32, put i (.int v) xs = xs2 v) (h : ∀ v : Int32, J κ g nL φ S (pc + 3) (xs2 v) (st) (k v)) : J κ g nL φ S (pc) xs (st) (bnd (x + c0) k) := fun out ho H locs ls hP hS hl => lv_iinc C.ex C.cd hd hl hx rfl hn rfl (fun ls2 hl2 => h (x + c0) out ho H locs ls2 hP hS (hp (x + c0) ▸ put_has (hc ▸ hl2)))
theorem j_iadd (C : CX κ g own cc nL ret fr lo) {x y : Int32} (hd : decode cc pc = .ok (.iadd, 1)) (h : J κ g nL φ S (pc + 1) xs (.int (x + y) :: st) (o)) : J κ g nL φ S (pc) xs (.int y :: .int x :: st) (o) := fun out ho H locs ls hP hS hl => lv_iadd C.ex C.cd hd (h out ho H locs ls hP hS hl)
theorem j_isub (C : CX κ g own cc nL ret fr lo) {x y : Int32} (hd : decode cc pc = .ok (.isub, 1)) (h : J κ g nL φ S (pc + 1) xs (.int (x - y) :: st) (o)) : J κ g nL φ S (pc) xs (.int y :: .int x :: st) (o) := fun out ho H locs ls hP hS hl => lv_isub C.ex C.cd hd (h out ho H locs ls hP hS hl)
theorem j_imul (C : CX κ g own cc nL ret fr lo) {x y : Int32} (hd : decode cc pc = .ok (.imul, 1)) (h : J κ g nL φ S (pc + 1) xs (.int (x * y) :: st) (o)) : J κ g nL φ S (pc) xs (.int y :: .int x :: st) (o) := fun out ho H locs ls hP hS hl => lv_imul C.ex C.cd hd (h out ho H locs ls hP hS hl)
theorem j_iand (C : CX κ g own cc nL ret fr lo) {x y : Int32} (hd : decode cc pc = .ok (.iand, 1)) (h : J κ g nL φ S (pc + 1) xs (.int (x &&& y) :: st) (o)) : J κ g nL φ S (pc) xs (.int y :: .int x :: st) (o) := fun out ho H locs ls hP hS hl => lv_iand C.ex C.cd hd (h out ho H locs ls hP hS hl)
theorem j_ior (C : CX κ g own cc nL ret fr lo) {x y : Int32} (hd : decode cc pc = .ok (.ior, 1)) (h : J κ g nL φ S (pc + 1) xs (.int (x ||| y) :: st) (o)) : J κ g nL φ S (pc) xs (.int y :: .int x :: st) (o) := fun out ho H locs ls hP hS hl => lv_ior C.ex C.cd hd (h out ho H locs ls hP hS hl)
theorem j_ixor (C : CX κ g own cc nL ret fr lo) {x y : Int32} (hd : decode cc pc = .ok (.ixor, 1)) (h : J κ g nL φ S (pc + 1) xs (.int (x ^^^ y) :: st) (o)) : J κ g nL φ S (pc) xs (.int y :: .int x :: st) (o) := fun out ho H locs ls hP hS hl => lv_ixor C.ex C.cd hd (h out ho H locs ls hP hS hl)
theorem j_ishl (C : CX κ g own cc nL ret fr lo) {x y : Int32} (hd : decode cc pc = .ok (.ishl, 1)) (h : J κ g nL φ S (pc + 1) xs (.int (x <<< (y &&& 31)) :: st) (o)) : J κ g nL φ S (pc) xs (.int y :: .int x :: st) (o) := fun out ho H locs ls hP hS hl => lv_ishl C.ex C.cd hd (h out ho H locs ls hP hS hl)
theorem j_ishr (C : CX κ g own cc nL ret fr lo) {x y : Int32} (hd : decode cc pc = .ok (.ishr, 1)) (h : J κ g nL φ S (pc + 1) xs (.int (x >>> (y &&& 31)) :: st) (o)) : J κ g nL φ S (pc) xs (.int y :: .int x :: st) (o) := fun out ho H locs ls hP hS hl => lv_ishr C.ex C.cd hd (h out ho H locs ls hP hS hl)
theorem j_iushr (C : CX κ g own cc nL ret fr lo) {x y : Int32} (hd : decode cc pc = .ok (.iushr, 1)) (h : J κ g nL φ S (pc + 1) xs (.int ((x.toUInt32 >>> (y.toUInt32 &&& Int32.toUInt32 31)).toInt32) :: st) (o)) : J κ g nL φ S (pc) xs (.int y :: .int x :: st) (o) := fun out ho H locs ls hP hS hl => lv_iushr C.ex C.cd hd rfl (h out ho H locs ls hP hS hl)
theorem j_ineg (C : CX κ g own cc nL ret fr lo) {x : Int32} (hd : decode cc pc = .ok (.ineg, 1)) (h : J κ g nL φ S (pc + 1) xs (.int (-x) :: st) (o)) : J κ g nL φ S (pc) xs (.int x :: st) (o) := fun out ho H locs ls hP hS hl => lv_ineg C.ex C.cd hd (h out ho H locs ls hP hS hl)
theorem j_idiv (C : CX κ g own cc nL ret fr lo) {x y : Int32} (hne : ¬ y = 0) (hd : decode cc pc = .ok (.idiv, 1)) (h : J κ g nL φ S (pc + 1) xs (.int (x / y) :: st) (o)) : J κ g nL φ S (pc) xs (.int y :: .int x :: st) (o) := fun out ho H locs ls hP hS hl => lv_idiv C.ex C.cd hd hne (h out ho H locs ls hP hS hl)
theorem j_irem (C : CX κ g own cc nL ret fr lo) {x y : Int32} (hne : ¬ y = 0) (hd : decode cc pc = .ok (.irem, 1)) (h : J κ g nL φ S (pc + 1) xs (.int (x - x / y * y) :: st) (o)) : J κ g nL φ S (pc) xs (.int y :: .int x :: st) (o) := fun out ho H locs ls hP hS hl => lv_irem C.ex C.cd hd hne (h out ho H locs ls hP hS hl)
theorem j_ladd (C : CX κ g own cc nL ret fr lo) {x y : Int64} (hd : decode cc pc = .ok (.ladd, 1)) (h : J κ g nL φ S (pc + 1) xs (.long (x + y) :: st) (o)) : J κ g nL φ S (pc) xs (.long y :: .long x :: st) (o) := fun out ho H locs ls hP hS hl => lv_ladd C.ex C.cd hd (h out ho H locs ls hP hS hl)
theorem j_lsub (C : CX κ g own cc nL ret fr lo) {x y : Int64} (hd : decode cc pc = .ok (.lsub, 1)) (h : J κ g nL φ S (pc + 1) xs (.long (x - y) :: st) (o)) : J κ g nL φ S (pc) xs (.long y :: .long x :: st) (o) := fun out ho H locs ls hP hS hl => lv_lsub C.ex C.cd hd (h out ho H locs ls hP hS hl)
theorem j_lmul (C : CX κ g own cc nL ret fr lo) {x y : Int64} (hd : decode cc pc = .ok (.lmul, 1)) (h : J κ g nL φ S (pc + 1) xs (.long (x * y) :: st) (o)) : J κ g nL φ S (pc) xs (.long y :: .long x :: st) (o) := fun out ho H locs ls hP hS hl => lv_lmul C.ex C.cd hd (h out ho H locs ls hP hS hl)
theorem j_land (C : CX κ g own cc nL ret fr lo) {x y : Int64} (hd : decode cc pc = .ok (.land, 1)) (h : J κ g nL φ S (pc + 1) xs (.long (x &&& y) :: st) (o)) : J κ g nL φ S (pc) xs (.long y :: .long x :: st) (o) := fun out ho H locs ls hP hS hl => lv_land C.ex C.cd hd (h out ho H locs ls hP hS hl)
theorem j_lor (C : CX κ g own cc nL ret fr lo) {x y : Int64} (hd : decode cc pc = .ok (.lor, 1)) (h : J κ g nL φ S (pc + 1) xs (.long (x ||| y) :: st) (o)) : J κ g nL φ S (pc) xs (.long y :: .long x :: st) (o) := fun out ho H locs ls hP hS hl => lv_lor C.ex C.cd hd (h out ho H locs ls hP hS hl)
theorem j_lxor (C : CX κ g own cc nL ret fr lo) {x y : Int64} (hd : decode cc pc = .ok (.lxor, 1)) (h : J κ g nL φ S (pc + 1) xs (.long (x ^^^ y) :: st) (o)) : J κ g nL φ S (pc) xs (.long y :: .long x :: st) (o) := fun out ho H locs ls hP hS hl => lv_lxor C.ex C.cd hd (h out ho H locs ls hP hS hl)
theorem j_ldiv (C : CX κ g own cc nL ret fr lo) {x y : Int64} (hne : ¬ y = 0) (hd : decode cc pc = .ok (.ldiv, 1)) (h : J κ g nL φ S (pc + 1) xs (.long (x / y) :: st) (o)) : J κ g nL φ S (pc) xs (.long y :: .long x :: st) (o) := fun out ho H locs ls hP hS hl => lv_ldiv C.ex C.cd hd hne (h out ho H locs ls hP hS hl)
theorem j_lrem (C : CX κ g own cc nL ret fr lo) {x y : Int64} (hne : ¬ y = 0) (hd : decode cc pc = .ok (.lrem, 1)) (h : J κ g nL φ S (pc + 1) xs (.long (x - x / y * y) :: st) (o)) : J κ g nL φ S (pc) xs (.long y :: .long x :: st) (o) := fun out ho H locs ls hP hS hl => lv_lrem C.ex C.cd hd hne (h out ho H locs ls hP hS hl)
theorem j_lshl (C : CX κ g own cc nL ret fr lo) {x : Int64} {y : Int32} (hd : decode cc pc = .ok (.lshl, 1)) (h : J κ g nL φ S (pc + 1) xs (.long (x <<< (y.toInt64 &&& 63)) :: st) (o)) : J κ g nL φ S (pc) xs (.int y :: .long x :: st) (o) := fun out ho H locs ls hP hS hl => lv_lshl C.ex C.cd hd rfl (h out ho H locs ls hP hS hl)
theorem j_lshr (C : CX κ g own cc nL ret fr lo) {x : Int64} {y : Int32} (hd : decode cc pc = .ok (.lshr, 1)) (h : J κ g nL φ S (pc + 1) xs (.long (x >>> (y.toInt64 &&& 63)) :: st) (o)) : J κ g nL φ S (pc) xs (.int y :: .long x :: st) (o) := fun out ho H locs ls hP hS hl => lv_lshr C.ex C.cd hd rfl (h out ho H locs ls hP hS hl)
theorem j_i2l (C : CX κ g own cc nL ret fr lo) {x : Int32} (hd : decode cc pc = .ok (.i2l, 1)) (h : J κ g nL φ S (pc + 1) xs (.long x.toInt64 :: st) (o)) : J κ g nL φ S (pc) xs (.int x :: st) (o) := fun out ho H locs ls hP hS hl => lv_i2l C.ex C.cd hd rfl (h out ho H locs ls hP hS hl)
theorem j_l2i (C : CX κ g own cc nL ret fr lo) {x : Int64} (hd : decode cc pc = .ok (.l2i, 1)) (h : J κ g nL φ S (pc + 1) xs (.int x.toInt32 :: st) (o)) : J κ g nL φ S (pc) xs (.long x :: st) (o) := fun out ho H locs ls hP hS hl => lv_l2i C.ex C.cd hd rfl (h out ho H locs ls hP hS hl)
theorem j_lcmp (C : CX κ g own cc nL ret fr lo) {x y : Int64} (hd : decode cc pc = .ok (.lcmp, 1)) (h : J κ g nL φ S (pc + 1) xs (.int (lg_cmp x y) :: st) (o)) : J κ g nL φ S (pc) xs (.long y :: .long x :: st) (o) := fun out ho H locs ls hP hS hl => W.lcmp C.ex C.cd hd (h out ho H locs ls hP hS hl)
theorem j_dup (C : CX κ g own cc nL ret fr lo) {v : Value} (hv : v.category = 1) (hd : decode cc pc = .ok (.dup, 1)) (h : J κ g nL φ S (pc + 1) xs (v :: v :: st) (o)) : J κ g nL φ S (pc) xs (v :: st) (o) := fun out ho H locs ls hP hS hl => lv_dup C.ex C.cd hd hv (h out ho H locs ls hP hS hl)
theorem j_pop (C : CX κ g own cc nL ret fr lo) {v : Value} (hv : v.category = 1) (hd : decode cc pc = .ok (.pop, 1)) (h : J κ g nL φ S (pc + 1) xs (st) (o)) : J κ g nL φ S (pc) xs (v :: st) (o) := fun out ho H locs ls hP hS hl => lv_pop C.ex C.cd hd hv (h out ho H locs ls hP hS hl)
theorem j_dup2_11 (C : CX κ g own cc nL ret fr lo) {v u : Value} (hv : v.category = 1) (hu : u.category = 1) (hd : decode cc pc = .ok (.dup2, 1)) (h : J κ g nL φ S (pc + 1) xs (v :: u :: v :: u :: st) (o)) : J κ g nL φ S (pc) xs (v :: u :: st) (o) := fun out ho H locs ls hP hS hl => lv_dup2_11 C.ex C.cd hd hv hu (h out ho H locs ls hP hS hl)
theorem j_dup_x1 (C : CX κ g own cc nL ret fr lo) {v u : Value} (hv : v.category = 1) (hu : u.category = 1) (hd : decode cc pc = .ok (.dup_x1, 1)) (h : J κ g nL φ S (pc + 1) xs (v :: u :: v :: st) (o)) : J κ g nL φ S (pc) xs (v :: u :: st) (o) := fun out ho H locs ls hP hS hl => lv_dup_x1 C.ex C.cd hd hv hu (h out ho H locs ls hP hS hl)
theorem j_if_eq (C : CX κ g own cc nL ret fr lo) {x : Int32} {off : Int} (tgt : Nat) (hd : decode cc pc = .ok (.ifCond .eq off, 3)) (ht : (pc : Int) + off = (tgt : Int)) (h1 : J κ g nL φ S (tgt) xs (st) (o1)) (h2 : J κ g nL φ S (pc + 3) xs (st) (o2)) : J κ g nL φ S (pc) xs (.int x :: st) (if x = 0 then o1 else o2) := fun out ho H locs ls hP hS hl => lv_if_eq C.ex C.cd hd ht (fun z => h1 out ((if_pos z).symm.trans ho) H locs ls hP hS hl) (fun z => h2 out ((if_neg z).symm.trans ho) H locs ls hP hS hl)
theorem j_icmp_eq (C : CX κ g own cc nL ret fr lo) {x y : Int32} {off : Int} (tgt : Nat) (hd : decode cc pc = .ok (.if_icmp .eq off, 3)) (ht : (pc : Int) + off = (tgt : Int)) (h1 : J κ g nL φ S (tgt) xs (st) (o1)) (h2 : J κ g nL φ S (pc + 3) xs (st) (o2)) : J κ g nL φ S (pc) xs (.int y :: .int x :: st) (if x = y then o1 else o2) := fun out ho H locs ls hP hS hl => lv_icmp_eq C.ex C.cd hd ht (fun z => h1 out ((if_pos z).symm.trans ho) H locs ls hP hS hl) (fun z => h2 out ((if_neg z).symm.trans ho) H locs ls hP hS hl)
theorem j_if_ne (C : CX κ g own cc nL ret fr lo) {x : Int32} {off : Int} (tgt : Nat) (hd : decode cc pc = .ok (.ifCond .ne off, 3)) (ht : (pc : Int) + off = (tgt : Int)) (h1 : J κ g nL φ S (tgt) xs (st) (o1)) (h2 : J κ g nL φ S (pc + 3) xs (st) (o2)) : J κ g nL φ S (pc) xs (.int x :: st) (if x = 0 then o2 else o1) := fun out ho H locs ls hP hS hl => lv_if_ne C.ex C.cd hd ht (fun z => h1 out ((if_neg z).symm.trans ho) H locs ls hP hS hl) (fun z => h2 out ((if_pos (z)).symm.trans ho) H locs ls hP hS hl)
theorem j_icmp_ne (C : CX κ g own cc nL ret fr lo) {x y : Int32} {off : Int} (tgt : Nat) (hd : decode cc pc = .ok (.if_icmp .ne off, 3)) (ht : (pc : Int) + off = (tgt : Int)) (h1 : J κ g nL φ S (tgt) xs (st) (o1)) (h2 : J κ g nL φ S (pc + 3) xs (st) (o2)) : J κ g nL φ S (pc) xs (.int y :: .int x :: st) (if x = y then o2 else o1) := fun out ho H locs ls hP hS hl => lv_icmp_ne C.ex C.cd hd ht (fun z => h1 out ((if_neg z).symm.trans ho) H locs ls hP hS hl) (fun z => h2 out ((if_pos (z)).symm.trans ho) H locs ls hP hS hl)
theorem j_if_lt (C : CX κ g own cc nL ret fr lo) {x : Int32} {off : Int} (tgt : Nat) (hd : decode cc pc = .ok (.ifCond .lt off, 3)) (ht : (pc : Int) + off = (tgt : Int)) (h1 : J κ g nL φ S (tgt) xs (st) (o1)) (h2 : J κ g nL φ S (pc + 3) xs (st) (o2)) : J κ g nL φ S (pc) xs (.int x :: st) (if x < 0 then o1 else o2) := fun out ho H locs ls hP hS hl => lv_if_lt C.ex C.cd hd ht (fun z => h1 out ((if_pos z).symm.trans ho) H locs ls hP hS hl) (fun z => h2 out ((if_neg z).symm.trans ho) H locs ls hP hS hl)
theorem j_icmp_lt (C : CX κ g own cc nL ret fr lo) {x y : Int32} {off : Int} (tgt : Nat) (hd : decode cc pc = .ok (.if_icmp .lt off, 3)) (ht : (pc : Int) + off = (tgt : Int)) (h1 : J κ g nL φ S (tgt) xs (st) (o1)) (h2 : J κ g nL φ S (pc + 3) xs (st) (o2)) : J κ g nL φ S (pc) xs (.int y :: .int x :: st) (if x < y then o1 else o2) := fun out ho H locs ls hP hS hl => lv_icmp_lt C.ex C.cd hd ht (fun z => h1 out ((if_pos z).symm.trans ho) H locs ls hP hS hl) (fun z => h2 out ((if_neg z).symm.trans ho) H locs ls hP hS hl)
theorem j_if_ge (C : CX κ g own cc nL ret fr lo) {x : Int32} {off : Int} (tgt : Nat) (hd : decode cc pc = .ok (.ifCond .ge off, 3)) (ht : (pc : Int) + off = (tgt : Int)) (h1 : J κ g nL φ S (tgt) xs (st) (o1)) (h2 : J κ g nL φ S (pc + 3) xs (st) (o2)) : J κ g nL φ S (pc) xs (.int x :: st) (if 0 ≤ x then o1 else o2) := fun out ho H locs ls hP hS hl => lv_if_ge C.ex C.cd hd ht (fun z => h1 out ((if_pos z).symm.trans ho) H locs ls hP hS hl) (fun z => h2 out ((if_neg z).symm.trans ho) H locs ls hP hS hl)
theorem j_icmp_ge (C : CX κ g own cc nL ret fr lo) {x y : Int32} {off : Int} (tgt : Nat) (hd : decode cc pc = .ok (.if_icmp .ge off, 3)) (ht : (pc : Int) + off = (tgt : Int)) (h1 : J κ g nL φ S (tgt) xs (st) (o1)) (h2 : J κ g nL φ S (pc + 3) xs (st) (o2)) : J κ g nL φ S (pc) xs (.int y :: .int x :: st) (if y ≤ x then o1 else o2) := fun out ho H locs ls hP hS hl => lv_icmp_ge C.ex C.cd hd ht (fun z => h1 out ((if_pos z).symm.trans ho) H locs ls hP hS hl) (fun z => h2 out ((if_neg z).symm.trans ho) H locs ls hP hS hl)
theorem j_if_gt (C : CX κ g own cc nL ret fr lo) {x : Int32} {off : Int} (tgt : Nat) (hd : decode cc pc = .ok (.ifCond .gt off, 3)) (ht : (pc : Int) + off = (tgt : Int)) (h1 : J κ g nL φ S (tgt) xs (st) (o1)) (h2 : J κ g nL φ S (pc + 3) xs (st) (o2)) : J κ g nL φ S (pc) xs (.int x :: st) (if 0 < x then o1 else o2) := fun out ho H locs ls hP hS hl => lv_if_gt C.ex C.cd hd ht (fun z => h1 out ((if_pos z).symm.trans ho) H locs ls hP hS hl) (fun z => h2 out ((if_neg z).symm.trans ho) H locs ls hP hS hl)
theorem j_icmp_gt (C : CX κ g own cc nL ret fr lo) {x y : Int32} {off : Int} (tgt : Nat) (hd : decode cc pc = .ok (.if_icmp .gt off, 3)) (ht : (pc : Int) + off = (tgt : Int)) (h1 : J κ g nL φ S (tgt) xs (st) (o1)) (h2 : J κ g nL φ S (pc + 3) xs (st) (o2)) : J κ g nL φ S (pc) xs (.int y :: .int x :: st) (if y < x then o1 else o2) := fun out ho H locs ls hP hS hl => lv_icmp_gt C.ex C.cd hd ht (fun z => h1 out ((if_pos z).symm.trans ho) H locs ls hP hS hl) (fun z => h2 out ((if_neg z).symm.trans ho) H locs ls hP hS hl)
theorem j_if_le (C : CX κ g own cc nL ret fr lo) {x : Int32} {off : Int} (tgt : Nat) (hd : decode cc pc = .ok (.ifCond .le off, 3)) (ht : (pc : Int) + off = (tgt : Int)) (h1 : J κ g nL φ S (tgt) xs (st) (o1)) (h2 : J κ g nL φ S (pc + 3) xs (st) (o2)) : J κ g nL φ S (pc) xs (.int x :: st) (if x ≤ 0 then o1 else o2) := fun out ho H locs ls hP hS hl => lv_if_le C.ex C.cd hd ht (fun z => h1 out ((if_pos z).symm.trans ho) H locs ls hP hS hl) (fun z => h2 out ((if_neg z).symm.trans ho) H locs ls hP hS hl)
theorem j_icmp_le (C : CX κ g own cc nL ret fr lo) {x y : Int32} {off : Int} (tgt : Nat) (hd : decode cc pc = .ok (.if_icmp .le off, 3)) (ht : (pc : Int) + off = (tgt : Int)) (h1 : J κ g nL φ S (tgt) xs (st) (o1)) (h2 : J κ g nL φ S (pc + 3) xs (st) (o2)) : J κ g nL φ S (pc) xs (.int y :: .int x :: st) (if x ≤ y then o1 else o2) := fun out ho H locs ls hP hS hl => lv_icmp_le C.ex C.cd hd ht (fun z => h1 out ((if_pos z).symm.trans ho) H locs ls hP hS hl) (fun z => h2 out ((if_neg z).symm.trans ho) H locs ls hP hS hl)
theorem j_goto (C : CX κ g own cc nL ret fr lo) {off : Int} (tgt : Nat) (hd : decode cc pc = .ok (.goto off, 3)) (ht : (pc : Int) + off = (tgt : Int)) (h : J κ g nL φ S (tgt) xs (st) (o)) : J κ g nL φ S (pc) xs (st) (o) := fun out ho H locs ls hP hS hl => lv_goto C.ex C.cd hd ht (h out ho H locs ls hP hS hl)
theorem j_none : J κ g nL φ S (pc) xs (st) (none) := fun out ho => by cases ho
theorem j_sub (ks : List Nat) (hl0 : lv_pick xs ks = xs1) (h : J κ g nL φ S (pc) xs1 (st) (o)) : J κ g nL φ S (pc) xs (st) (o) := fun out ho H locs ls hP hS hl => h out ho H locs ls hP hS (lv_sub hl ks hl0)
theorem j_fconst0 (C : CX κ g own cc nL ret fr lo)  (hd : decode cc pc = .ok (.fconst 0, 1)) (h : J κ g nL φ S (pc + 1) xs (.float FP.fconst0 :: st) (o)) : J κ g nL φ S (pc) xs (st) (o) := fun out ho H locs ls hP hS hl => lv_fconst0 C.ex C.cd hd (h out ho H locs ls hP hS hl)
theorem j_fconst2 (C : CX κ g own cc nL ret fr lo)  (hd : decode cc pc = .ok (.fconst 2, 1)) (h : J κ g nL φ S (pc + 1) xs (.float FP.fconst2 :: st) (o)) : J κ g nL φ S (pc) xs (st) (o) := fun out ho H locs ls hP hS hl => lv_fconst2 C.ex C.cd hd (h out ho H locs ls hP hS hl)
theorem j_dconst0 (C : CX κ g own cc nL ret fr lo)  (hd : decode cc pc = .ok (.dconst 0, 1)) (h : J κ g nL φ S (pc + 1) xs (.double FP.dconst0 :: st) (o)) : J κ g nL φ S (pc) xs (st) (o) := fun out ho H locs ls hP hS hl => lv_dconst0 C.ex C.cd hd (h out ho H locs ls hP hS hl)
theorem j_i2f (C : CX κ g own cc nL ret fr lo) {x : Int32} (hd : decode cc pc = .ok (.i2f, 1)) (h : J κ g nL φ S (pc + 1) xs (.float (FP.i2f x) :: st) (o)) : J κ g nL φ S (pc) xs (.int x :: st) (o) := fun out ho H locs ls hP hS hl => lv_i2f C.ex C.cd hd (h out ho H locs ls hP hS hl)
theorem j_i2d (C : CX κ g own cc nL ret fr lo) {x : Int32} (hd : decode cc pc = .ok (.i2d, 1)) (h : J κ g nL φ S (pc + 1) xs (.double (FP.i2d x) :: st) (o)) : J κ g nL φ S (pc) xs (.int x :: st) (o) := fun out ho H locs ls hP hS hl => lv_i2d C.ex C.cd hd (h out ho H locs ls hP hS hl)
theorem j_f2l (C : CX κ g own cc nL ret fr lo) {x : UInt32} (hd : decode cc pc = .ok (.f2l, 1)) (h : J κ g nL φ S (pc + 1) xs (.long (FP.f2l x) :: st) (o)) : J κ g nL φ S (pc) xs (.float x :: st) (o) := fun out ho H locs ls hP hS hl => lv_f2l C.ex C.cd hd (h out ho H locs ls hP hS hl)
theorem j_d2l (C : CX κ g own cc nL ret fr lo) {x : UInt64} (hd : decode cc pc = .ok (.d2l, 1)) (h : J κ g nL φ S (pc + 1) xs (.long (FP.d2l x) :: st) (o)) : J κ g nL φ S (pc) xs (.double x :: st) (o) := fun out ho H locs ls hP hS hl => lv_d2l C.ex C.cd hd (h out ho H locs ls hP hS hl)
theorem j_fcmp (C : CX κ g own cc nL ret fr lo) {x y : UInt32} {op : CmpOp} (hd : decode cc pc = .ok (.fcmp op, 1)) (h : J κ g nL φ S (pc + 1) xs (.int (Op.cmpValue (FP.fcmp x y) op) :: st) (o)) : J κ g nL φ S (pc) xs (.float y :: .float x :: st) (o) := fun out ho H locs ls hP hS hl => lv_fcmp C.ex C.cd hd (h out ho H locs ls hP hS hl)
theorem j_dcmp (C : CX κ g own cc nL ret fr lo) {x y : UInt64} {op : CmpOp} (hd : decode cc pc = .ok (.dcmp op, 1)) (h : J κ g nL φ S (pc + 1) xs (.int (Op.cmpValue (FP.dcmp x y) op) :: st) (o)) : J κ g nL φ S (pc) xs (.double y :: .double x :: st) (o) := fun out ho H locs ls hP hS hl => lv_dcmp C.ex C.cd hd (h out ho H locs ls hP hS hl)
end ROWS
end
section
theorem w_mmin : Cond.static Lib.Math.min.name ∈ LW ∧ Cond.initialized "java/lang/Math" ∈ LW ∧ Cond.code Lib.Math.min.name Lib.Math.min.code 2 (some .int) ∈ LW := ⟨LW_mem 323 (by decide +kernel) rfl, LW_mem 71 (by decide +kernel) rfl, LW_mem 324 (by decide +kernel) rfl⟩
theorem w_mmax : Cond.static Lib.Math.max.name ∈ LW ∧ Cond.initialized "java/lang/Math" ∈ LW ∧ Cond.code Lib.Math.max.name Lib.Math.max.code 2 (some .int) ∈ LW := ⟨LW_mem 399 (by decide +kernel) rfl, LW_mem 71 (by decide +kernel) rfl, LW_mem 400 (by decide +kernel) rfl⟩
theorem w_copy : Cond.native arraycopyName ∈ LW ∧ Cond.static arraycopyName ∈ LW ∧ Cond.initialized "java/lang/System" ∈ LW := ⟨LW_mem 585 (by decide +kernel) rfl, LW_mem 584 (by decide +kernel) rfl, LW_mem 73 (by decide +kernel) rfl⟩
/-! THE LAYER, heap rows, returns, calls -/
/-- a field as an instruction names it -/
def FL (own : String) (idx ci k : Nat) : Prop := ∃ (Cn : String) (T : u_T) (N : Nat), classes[ci]? = some (Cn, T, N) ∧ (∀ w ∈ u_ws Cn T N, w ∈ LW) ∧ k < N ∧ Cond.fieldLink own idx (T k).1 (T k).2.1 (T k).2.2.1 ∈ LW
def FPt (own : String) (idx ci k : Nat) (ty : FieldType) : Prop := ∃ (Cn : String) (T : u_T) (N : Nat) (tf : Nat → FieldType), classes[ci]? = some (Cn, T, N) ∧ (∀ w ∈ u_ws Cn T N, w ∈ LW) ∧ k < N ∧ Cond.fieldLink own idx (T k).1 (T k).2.1 (T k).2.2.1 ∈ LW ∧ (∀ k, k < N → parseFieldDescriptor (T k).2.2.1 = some (tf k)) ∧ (∀ a, a < N → ∀ b, b < N → a ≠ b → (T a).2.1 ≠ (T b).2.1) ∧ (T k).2.2.2 = false ∧ parseFieldDescriptor (T k).2.2.1 = some ty
def MSt (own : String) (idx : Nat) (y : MethodName) (cb : ByteArray) (nb : Nat) (rb : Option FieldType) (n : Nat) : Prop := Cond.methodLink own idx y ∈ LW ∧ Cond.static y ∈ LW ∧ Cond.initialized y.cls ∈ LW ∧ Cond.code y cb nb rb ∈ LW ∧ y.cls ≠ "java/lang/invoke/MethodHandle" ∧ y.cls ≠ "java/lang/invoke/VarHandle" ∧ (parseMethodDescriptor y.desc).map (fun d => d.parameters.length) = some n
def MVt (own : String) (idx : Nat) (y : MethodName) (cb : ByteArray) (nb : Nat) (rb : Option FieldType) (n : Nat) : Prop := Cond.methodLink own idx y ∈ LW ∧ Cond.instanceMethod y ∈ LW ∧ Cond.selects y.cls y y ∈ LW ∧ Cond.initialized y.cls ∈ LW ∧ Cond.code y cb nb rb ∈ LW ∧ y.cls ≠ "java/lang/invoke/MethodHandle" ∧ y.cls ≠ "java/lang/invoke/VarHandle" ∧ (parseMethodDescriptor y.desc).map (fun d => d.parameters.length) = some n
theorem fval_ref (g : GT) (S : St) (n k x : Nat) : fval g S n k (x + 10) = .ref (gad g x) := by
  unfold fval
  rw [if_neg (by omega), if_neg (by omega), Nat.add_sub_cancel]
theorem upd_at (f : Nat → Int32) (k : Nat) (v : Int32) : upd f k v k = v := if_pos rfl
theorem upd_ne {f : Nat → Int32} {k j : Nat} {v : Int32} (h : j ≠ k) : upd f k v j = f j := if_neg h
theorem set_int {g : GT} {S : St} {n k : Nat} {v : Int32} {fl : List Nat} (hf : fl[k]? = some 0) : (fl.mapIdx (fun k x => fval g S n k x)).set k (.int v) = fl.mapIdx (fun j x => fval g (sI S n k v) n j x) := by
  apply List.ext_getElem?
  intro j
  rw [List.getElem?_set, List.getElem?_mapIdx, List.getElem?_mapIdx]
  by_cases hj : k = j
  · subst hj
    have hlt : k < fl.length := (List.getElem?_eq_some_iff.mp hf).1
    rw [if_pos rfl, if_pos (by rw [List.length_mapIdx]; exact hlt), hf]
    show some (Value.int v) = some (Value.int ((if n = n then upd (S.1 n) k v else S.1 n) k))
    rw [if_pos rfl, upd_at]
  · rw [if_neg hj]
    cases fl[j]? with
    | none => rfl
    | some x =>
      show some (fval g S n j x) = some (fval g (sI S n k v) n j x)
      have h1 : gI (sI S n k v) n j = gI S n j := by
        show (if n = n then upd (S.1 n) k v else S.1 n) j = S.1 n j
        rw [if_pos rfl, upd_ne (fun z => hj z.symm)]
      unfold fval
      rw [h1]
      rfl
theorem cell_put {g : GT} {S : St} {n ci k : Nat} {v : Int32} {fl : List Nat} (hs : sh n = .inr (ci, fl)) (hf : fl[k]? = some 0) : (.inr (ci, (fl.mapIdx (fun k x => fval g S n k x)).set k (.int v)) : va_E) = cellS g (sI S n k v) n := by
  rw [cell_obj hs, set_int hf]
def fl0 : List Nat := [11, 12, 13, 14, 15, 0, 16, 0, 0, 17, 0, 18, 19, 0, 20, 21, 22, 0, 23, 0, 0, 0, 24, 0, 25, 1, 0, 26, 27, 0, 0]
theorem sh0 : sh 0 = .inr (9, fl0) := by decide +kernel
theorem fl0_no : ∀ j, j < 31 → j ≠ 25 → fl0[j]? ≠ some 1 := by decide +kernel
theorem cell_putL {g : GT} {S : St} {v : Int64} : (.inr (9, (fl0.mapIdx (fun k x => fval g S 0 k x)).set 25 (.long v)) : va_E) = cellS g (sF S v) 0 := by
  rw [cell_obj sh0]
  suffices hL : (fl0.mapIdx (fun k x => fval g S 0 k x)).set 25 (.long v) = fl0.mapIdx (fun k x => fval g (sF S v) 0 k x) by rw [hL]
  apply List.ext_getElem?
  intro j
  rw [List.getElem?_set, List.getElem?_mapIdx, List.getElem?_mapIdx]
  by_cases hj : 25 = j
  · subst hj
    rw [if_pos rfl, if_pos (by rw [List.length_mapIdx]; decide)]
    rfl
  · rw [if_neg hj]
    cases hx : fl0[j]? with
    | none => rfl
    | some x =>
      have hlt : j < fl0.length := (List.getElem?_eq_some_iff.mp hx).1
      have hx1 : x ≠ 1 := fun z => fl0_no j hlt (fun z => hj z.symm) (z ▸ hx)
      show some (fval g S 0 j x) = some (fval g (sF S v) 0 j x)
      unfold fval
      by_cases h0 : x = 0
      · rw [if_pos h0, if_pos h0]; rfl
      · rw [if_neg h0, if_neg h0, if_neg hx1, if_neg hx1]
theorem sh_long : ∀ m, m ≠ 0 → ∀ a, sh m = .inr a → 1 ∉ a.2 := by
  intro m hm a ha
  have h : (List.range 169).all (fun m => m == 0 || (match sh m with | .inl _ => true | .inr a => !(a.2.contains 1))) = true := by decide +kernel
  by_cases hlt : m < 169
  · have h1 := List.all_eq_true.mp h m (List.mem_range.mpr hlt)
    rw [ha] at h1
    simp only [Bool.or_eq_true, beq_iff_eq, Bool.not_eq_true'] at h1
    rcases h1 with h1 | h1
    · exact absurd h1 hm
    · intro hc
      rw [List.contains_iff_mem.mpr hc] at h1
      cases h1
  · have h2 : sh m = .inl (9, 0) := by
      unfold sh
      have hlen : shL.length = 169 := by decide +kernel
      have hn : shL[m]? = none := List.getElem?_eq_none (by omega)
      rw [List.getD_eq_getElem?_getD, hn]
      rfl
    rw [h2] at ha
    cases ha
theorem cellS_sF {g : GT} {S : St} {m : Nat} {v : Int64} (h : m ≠ 0) : cellS g (sF S v) m = cellS g S m := by
  cases hs : sh m with
  | inl a => rw [cell_arr (g := g) (S := sF S v) (kd := a.1) (len := a.2) hs, cell_arr (g := g) (S := S) (kd := a.1) (len := a.2) hs]; rfl
  | inr a =>
    rw [cell_obj (S := sF S v) (ci := a.1) (fl := a.2) hs, cell_obj (S := S) (ci := a.1) (fl := a.2) hs]
    have hn := sh_long m h a hs
    congr 2
    apply List.ext_getElem?
    intro j
    rw [List.getElem?_mapIdx, List.getElem?_mapIdx]
    cases hx : a.2[j]? with
    | none => rfl
    | some x =>
      have hx1 : x ≠ 1 := fun z => hn (z ▸ List.mem_of_getElem? hx)
      show some (fval g (sF S v) m j x) = some (fval g S m j x)
      unfold fval
      by_cases h0 : x = 0
      · rw [if_pos h0, if_pos h0]; rfl
      · rw [if_neg h0, if_neg h0, if_neg hx1, if_neg hx1]

section ROWS
variable {κ : KT} {g : GT} {own : String} {cc : ByteArray} {nL : Nat} {ret : Option FieldType} {fr lo : Nat} {α β : Type} {φ : α → Option Value × St} {S : St} {pc : Nat} {xs xs1 : List (Nat × Value)} {st : List Value} {o o1 o2 : Option α}
theorem j_getI (C : CX κ g own cc nL ret fr lo) {idx ci k n : Nat} {fl : List Nat} (F : FL own idx ci k) (hs : sh n = .inr (ci, fl)) (hlv : lvb g n = true) (hf : fl[k]? = some 0) (hd : decode cc pc = .ok (.getfield idx, 3)) (h : J κ g nL φ S (pc + 3) xs (.int (gI S n k) :: st) (o)) : J κ g nL φ S (pc) xs (.ref (gad g n) :: st) (o) := by
  obtain ⟨Cn, T, N, hc, hin, hk, hw⟩ := F
  intro out ho H locs ls hP hS hl
  obtain ⟨q, hq⟩ := live_place hlv
  exact va_get C.ex C.cd C.ts hin C.ow C.K hP q (by rw [ws_at hq, cell_obj hs]) hc k hk (C.ts _ hw) (fun _ z => z) (v := .int (gI S n k)) (fl_at hf) hd (h out ho H locs ls hP hS hl)
theorem j_getL (C : CX κ g own cc nL ret fr lo) {idx ci k n : Nat} {fl : List Nat} (F : FL own idx ci k) (hs : sh n = .inr (ci, fl)) (hlv : lvb g n = true) (hf : fl[k]? = some 1) (hd : decode cc pc = .ok (.getfield idx, 3)) (h : J κ g nL φ S (pc + 3) xs (.long (gF S) :: st) (o)) : J κ g nL φ S (pc) xs (.ref (gad g n) :: st) (o) := by
  obtain ⟨Cn, T, N, hc, hin, hk, hw⟩ := F
  intro out ho H locs ls hP hS hl
  obtain ⟨q, hq⟩ := live_place hlv
  exact va_get C.ex C.cd C.ts hin C.ow C.K hP q (by rw [ws_at hq, cell_obj hs]) hc k hk (C.ts _ hw) (fun _ z => z) (v := .long (gF S)) (fl_at hf) hd (h out ho H locs ls hP hS hl)
theorem j_getR (C : CX κ g own cc nL ret fr lo) {idx ci k n x : Nat} {fl : List Nat} (F : FL own idx ci k) (hs : sh n = .inr (ci, fl)) (hlv : lvb g n = true) (hf : fl[k]? = some (x + 10)) (hd : decode cc pc = .ok (.getfield idx, 3)) (h : J κ g nL φ S (pc + 3) xs (.ref (gad g x) :: st) (o)) : J κ g nL φ S (pc) xs (.ref (gad g n) :: st) (o) := by
  obtain ⟨Cn, T, N, hc, hin, hk, hw⟩ := F
  intro out ho H locs ls hP hS hl
  obtain ⟨q, hq⟩ := live_place hlv
  exact va_get C.ex C.cd C.ts hin C.ow C.K hP q (by rw [ws_at hq, cell_obj hs]) hc k hk (C.ts _ hw) (fun _ z => z) (v := .ref (gad g x)) ((fl_at hf).trans (congrArg some (fval_ref g S n k x))) hd (h out ho H locs ls hP hS hl)
theorem j_putI (C : CX κ g own cc nL ret fr lo) {idx ci k n : Nat} {fl : List Nat} {v : Int32} {ty : FieldType} (F : FPt own idx ci k ty) (hs : sh n = .inr (ci, fl)) (hlv : lvb g n = true) (hf : fl[k]? = some 0) (hnw : narrow ty (.int v) = .int v) (hfi : fits ty (.int v) = true) (hd : decode cc pc = .ok (.putfield idx, 3)) (h : J κ g nL φ (sI S n k v) (pc + 3) xs (st) (o)) : J κ g nL φ S (pc) xs (.int v :: .ref (gad g n) :: st) (o) := by
  obtain ⟨Cn, T, N, tf, hc, hin, hk, hw, hty, hnm, hfin, hd1⟩ := F
  intro out ho H locs ls hP hS hl
  obtain ⟨q, hq⟩ := live_place hlv
  have hlt : k < (fl.mapIdx (fun k x => fval g S n k x)).length := by rw [List.length_mapIdx]; exact (List.getElem?_eq_some_iff.mp hf).1
  refine va_put C.ex C.cd C.ts hin tf hty hnm C.ow C.K hP (C.D S) hS q (by rw [ws_at hq, cell_obj hs]) hc k hk (C.ts _ hw) (fun _ z => z) hfin hd1 hnw hfi hlt hd (fun H1 locs1 hP1 _ hS1 => h out ho H1 locs1 ls ?_ hS1 hl)
  rw [cell_put hs hf, ws_set (C.D S) hq (fun m hm => cellS_sI hm)] at hP1
  exact hP1
theorem j_putL (C : CX κ g own cc nL ret fr lo) {idx : Nat} {v : Int64} (F : FPt own idx 9 25 .long) (hd : decode cc pc = .ok (.putfield idx, 3)) (h : J κ g nL φ (sF S v) (pc + 3) xs (st) (o)) : J κ g nL φ S (pc) xs (.long v :: .ref (gad g 0) :: st) (o) := by
  obtain ⟨Cn, T, N, tf, hc, hin, hk, hw, hty, hnm, hfin, hd1⟩ := F
  intro out ho H locs ls hP hS hl
  obtain ⟨q, hq⟩ := live_place (g := g) (n := 0) rfl
  have hlt : 25 < (fl0.mapIdx (fun k x => fval g S 0 k x)).length := by rw [List.length_mapIdx]; decide
  refine va_put C.ex C.cd C.ts hin tf hty hnm C.ow C.K hP (C.D S) hS q (by rw [ws_at hq, cell_obj sh0]) hc 25 hk (C.ts _ hw) (fun _ z => z) hfin hd1 rfl rfl hlt hd (fun H1 locs1 hP1 _ hS1 => h out ho H1 locs1 ls ?_ hS1 hl)
  rw [cell_putL, ws_set (S' := sF S v) (C.D S) hq (fun m hm => cellS_sF hm)] at hP1
  exact hP1
theorem j_iald (C : CX κ g own cc nL ret fr lo) {n len : Nat} {i : Int32} {k : Nat → Option α} (hs : sh n = .inl (0, len)) (hlv : lvb g n = true) (hd : decode cc pc = .ok (.iaload, 1)) (h : ∀ j, J κ g nL φ S (pc + 1) xs (.int (gA S n j) :: st) (k j)) : J κ g nL φ S (pc) xs (.int i :: .ref (gad g n) :: st) (inb len i k) := by
  intro out ho H locs ls hP hS hl
  by_cases hi : i < 0 ∨ len ≤ i.toNatClampNeg
  · rw [show inb len i k = none from if_pos hi] at ho; cases ho
  rw [show inb len i k = k i.toNatClampNeg from if_neg hi] at ho
  obtain ⟨q, hq⟩ := live_place hlv
  exact va_iald C.ex C.cd C.K hP q 0 (by rw [ws_at hq, cell_arr hs]; rfl) rfl hi hd (h _ out ho H locs ls hP hS hl)
theorem j_zald (C : CX κ g own cc nL ret fr lo) {n len : Nat} {i : Int32} {k : Nat → Option α} (hs : sh n = .inl (1, len)) (hlv : lvb g n = true) (hd : decode cc pc = .ok (.baload, 1)) (h : ∀ j, J κ g nL φ S (pc + 1) xs (.int (gA S n j) :: st) (k j)) : J κ g nL φ S (pc) xs (.int i :: .ref (gad g n) :: st) (inb len i k) := by
  intro out ho H locs ls hP hS hl
  by_cases hi : i < 0 ∨ len ≤ i.toNatClampNeg
  · rw [show inb len i k = none from if_pos hi] at ho; cases ho
  rw [show inb len i k = k i.toNatClampNeg from if_neg hi] at ho
  obtain ⟨q, hq⟩ := live_place hlv
  exact va_zald C.ex C.cd C.K hP q 1 (by rw [ws_at hq, cell_arr hs]; rfl) rfl hi hd (h _ out ho H locs ls hP hS hl)
theorem j_iast (C : CX κ g own cc nL ret fr lo) {n len : Nat} {i v : Int32} {k : Nat → Option α} (hs : sh n = .inl (0, len)) (hlv : lvb g n = true) (hd : decode cc pc = .ok (.iastore, 1)) (h : ∀ j, J κ g nL φ (sA S n j v) (pc + 1) xs (st) (k j)) : J κ g nL φ S (pc) xs (.int v :: .int i :: .ref (gad g n) :: st) (inb len i k) := by
  intro out ho H locs ls hP hS hl
  by_cases hi : i < 0 ∨ len ≤ i.toNatClampNeg
  · rw [show inb len i k = none from if_pos hi] at ho; cases ho
  rw [show inb len i k = k i.toNatClampNeg from if_neg hi] at ho
  obtain ⟨q, hq⟩ := live_place hlv
  refine va_iast C.ex C.cd C.K hP (C.D S) hS q 0 (by rw [ws_at hq, cell_arr hs]; rfl) rfl hi hd (fun H1 locs1 hP1 _ hS1 => h _ out ho H1 locs1 ls ?_ hS1 hl)
  have e : (.inl (gT g 0, len, .inl (upd (gA S n) i.toNatClampNeg v)) : va_E) = cellS g (sA S n i.toNatClampNeg v) n := by
    rw [cell_arr hs]
    show _ = (.inl (gT g 0, len, .inl (if n = n then upd (gA S n) i.toNatClampNeg v else S.2.1 n)) : va_E)
    rw [if_pos rfl]
  rw [e, ws_set (S' := sA S n i.toNatClampNeg v) (C.D S) hq (fun m hm => cellS_sA hm)] at hP1
  exact hP1
theorem nar_b {v : Int32} (h : v = 0 ∨ v = 1) : vp_nar .boolean v = v := by rcases h with rfl | rfl <;> decide
theorem j_zast (C : CX κ g own cc nL ret fr lo) {n len : Nat} {i v : Int32} {k : Nat → Option α} (hs : sh n = .inl (1, len)) (hlv : lvb g n = true) (hv : v = 0 ∨ v = 1) (hd : decode cc pc = .ok (.bastore, 1)) (h : ∀ j, J κ g nL φ (sA S n j v) (pc + 1) xs (st) (k j)) : J κ g nL φ S (pc) xs (.int v :: .int i :: .ref (gad g n) :: st) (inb len i k) := by
  intro out ho H locs ls hP hS hl
  by_cases hi : i < 0 ∨ len ≤ i.toNatClampNeg
  · rw [show inb len i k = none from if_pos hi] at ho; cases ho
  rw [show inb len i k = k i.toNatClampNeg from if_neg hi] at ho
  obtain ⟨q, hq⟩ := live_place hlv
  refine va_zast C.ex C.cd C.K hP (C.D S) hS q 1 (by rw [ws_at hq, cell_arr hs]; rfl) rfl hi hd (fun H1 locs1 hP1 _ hS1 => h _ out ho H1 locs1 ls ?_ hS1 hl)
  have e : (.inl (gT g 1, len, .inl (upd (gA S n) i.toNatClampNeg (vp_nar .boolean v))) : va_E) = cellS g (sA S n i.toNatClampNeg v) n := by
    rw [cell_arr hs, nar_b hv]
    show _ = (.inl (gT g 1, len, .inl (if n = n then upd (gA S n) i.toNatClampNeg v else S.2.1 n)) : va_E)
    rw [if_pos rfl]
  rw [e, ws_set (S' := sA S n i.toNatClampNeg v) (C.D S) hq (fun m hm => cellS_sA hm)] at hP1
  exact hP1
theorem j_zbg {v : Int32} (h : v = 0 ∨ v = 1 → J κ g nL φ S (pc) xs (st) (o)) : J κ g nL φ S (pc) xs (st) (zbg v o) := fun out ho => by
  by_cases hv : v = 0 ∨ v = 1
  · exact h hv out (by rw [show zbg v o = o from if_pos hv] at ho; exact ho)
  · rw [show zbg v o = none from if_neg hv] at ho; cases ho
theorem j_nzg {v : Int32} (h : ¬ v = 0 → J κ g nL φ S (pc) xs (st) (o)) : J κ g nL φ S (pc) xs (st) (nzg v o) := fun out ho => by
  by_cases hv : v = 0
  · rw [show nzg v o = none from if_pos hv] at ho; cases ho
  · exact h hv out (by rw [show nzg v o = o from if_neg hv] at ho; exact ho)
theorem j_nzl {v : Int64} (h : ¬ v = 0 → J κ g nL φ S (pc) xs (st) (o)) : J κ g nL φ S (pc) xs (st) (nzl v o) := fun out ho => by
  by_cases hv : v = 0
  · rw [show nzl v o = none from if_pos hv] at ho; cases ho
  · exact h hv out (by rw [show nzl v o = o from if_neg hv] at ho; exact ho)
theorem j_aald2 (C : CX κ g own cc nL ret fr lo) {n len : Nat} {i : Int32} {k : Nat → Option α} (hs : sh n = .inl (2, len)) (hlv : lvb g n = true) (hd : decode cc pc = .ok (.aaload, 1)) (h : ∀ j, j < len → J κ g nL φ S (pc + 1) xs (.ref (gad g (el n j)) :: st) (k j)) : J κ g nL φ S (pc) xs (.int i :: .ref (gad g n) :: st) (inb len i k) := by
  intro out ho H locs ls hP hS hl
  by_cases hi : i < 0 ∨ len ≤ i.toNatClampNeg
  · rw [show inb len i k = none from if_pos hi] at ho; cases ho
  rw [show inb len i k = k i.toNatClampNeg from if_neg hi] at ho
  obtain ⟨q, hq⟩ := live_place hlv
  exact va_aldq (f := fun j => some (gad g (el n j))) C.ex C.cd C.K hP q 2 (by rw [ws_at hq, cell_arr hs]; rfl) rfl hi hd (h _ (Nat.not_le.mp fun z => hi (Or.inr z)) out ho H locs ls hP hS hl)
theorem j_aald3 (C : CX κ g own cc nL ret fr lo) {n len : Nat} {i : Int32} {k : Nat → Option α} (hs : sh n = .inl (3, len)) (hlv : lvb g n = true) (hd : decode cc pc = .ok (.aaload, 1)) (h : ∀ j, j < len → J κ g nL φ S (pc + 1) xs (va_rf (if gpr g j then some (gad g (el n j)) else none) :: st) (k j)) : J κ g nL φ S (pc) xs (.int i :: .ref (gad g n) :: st) (inb len i k) := by
  intro out ho H locs ls hP hS hl
  by_cases hi : i < 0 ∨ len ≤ i.toNatClampNeg
  · rw [show inb len i k = none from if_pos hi] at ho; cases ho
  rw [show inb len i k = k i.toNatClampNeg from if_neg hi] at ho
  obtain ⟨q, hq⟩ := live_place hlv
  exact va_aldq (f := fun j => if gpr g j then some (gad g (el n j)) else none) C.ex C.cd C.K hP q 3 (by rw [ws_at hq, cell_arr hs]; rfl) rfl hi hd (h _ (Nat.not_le.mp fun z => hi (Or.inr z)) out ho H locs ls hP hS hl)
theorem j_aald4 (C : CX κ g own cc nL ret fr lo) {n len : Nat} {i : Int32} {k : Nat → Option α} (hs : sh n = .inl (4, len)) (hlv : lvb g n = true) (hd : decode cc pc = .ok (.aaload, 1)) (h : ∀ j, j < len → J κ g nL φ S (pc + 1) xs (.ref (gad g (el n j)) :: st) (k j)) : J κ g nL φ S (pc) xs (.int i :: .ref (gad g n) :: st) (inb len i k) := by
  intro out ho H locs ls hP hS hl
  by_cases hi : i < 0 ∨ len ≤ i.toNatClampNeg
  · rw [show inb len i k = none from if_pos hi] at ho; cases ho
  rw [show inb len i k = k i.toNatClampNeg from if_neg hi] at ho
  obtain ⟨q, hq⟩ := live_place hlv
  have hlt : i.toNatClampNeg < len := Nat.not_le.mp fun z => hi (Or.inr z)
  have ha : (wN g S)[q]? = some (gad g n, .inl (gT g 4, len, .inr (.inr (.inr (.inr (fun j => some (gad g (el n j)))))))) := by rw [ws_at hq, cell_arr hs]; rfl
  exact W.aald (v := .ref (gad g (el n i.toNatClampNeg))) (ty := .array .int) C.ex C.cd (hP q _ ha) ((C.K.2 4 _ rfl).1 len (fun j => va_rf (some (gad g (el n j))))) rfl (fun z => by cases z) (by show ¬ (i < 0 ∨ (arrV _ _ _).slots.size ≤ _); rw [arrV_size]; exact hi) (by show (arrV _ _ _).slots[_]? = _; rw [arrV_read _ _ hlt]; rfl) rfl rfl hd (h _ hlt out ho H locs ls hP hS hl)
theorem j_alen0 (C : CX κ g own cc nL ret fr lo) {n len : Nat} {v : Int32} (hs : sh n = .inl (0, len)) (hlv : lvb g n = true) (hv : Int32.ofNat len = v) (hd : decode cc pc = .ok (.arraylength, 1)) (h : J κ g nL φ S (pc + 1) xs (.int v :: st) (o)) : J κ g nL φ S (pc) xs (.ref (gad g n) :: st) (o) := by
  intro out ho H locs ls hP hS hl
  obtain ⟨q, hq⟩ := live_place hlv
  exact va_alen C.ex C.cd C.K hP q 0 (by rw [ws_at hq, cell_arr hs]; rfl) rfl hv hd (h out ho H locs ls hP hS hl)
theorem j_alen2 (C : CX κ g own cc nL ret fr lo) {n len : Nat} {v : Int32} (hs : sh n = .inl (2, len)) (hlv : lvb g n = true) (hv : Int32.ofNat len = v) (hd : decode cc pc = .ok (.arraylength, 1)) (h : J κ g nL φ S (pc + 1) xs (.int v :: st) (o)) : J κ g nL φ S (pc) xs (.ref (gad g n) :: st) (o) := by
  intro out ho H locs ls hP hS hl
  obtain ⟨q, hq⟩ := live_place hlv
  exact va_alen C.ex C.cd C.K hP q 2 (by rw [ws_at hq, cell_arr hs]; rfl) rfl hv hd (h out ho H locs ls hP hS hl)
theorem j_gets1 (C : CX κ g own cc nL ret fr lo) {idx : Nat} (hw : Cond.fieldLink own idx RX3 "OF_SET" "[I" ∈ LW) (hd : decode cc pc = .ok (.getstatic idx, 3)) (h : J κ g nL φ S (pc + 3) xs (.ref (gs1 g) :: st) (o)) : J κ g nL φ S (pc) xs (st) (o) := by
  intro out ho H locs ls hP hS hl
  exact va_gets C.ex C.cd C.sta.1.1 hS C.ow (C.ts _ hw) (fun _ z => z) hd (h out ho H locs ls hP hS hl)
theorem j_tald1 (C : CX κ g own cc nL ret fr lo) {i : Int32} {k : Nat → Option α} (hd : decode cc pc = .ok (.iaload, 1)) (h : ∀ j, J κ g nL φ S (pc + 1) xs (.int (ofs j) :: st) (k j)) : J κ g nL φ S (pc) xs (.int i :: .ref (gs1 g) :: st) (inb 16 i k) := by
  intro out ho H locs ls hP hS hl
  by_cases hi : i < 0 ∨ 16 ≤ i.toNatClampNeg
  · rw [show inb 16 i k = none from if_pos hi] at ho; cases ho
  rw [show inb 16 i k = k i.toNatClampNeg from if_neg hi] at ho
  exact va_ti C.ex C.cd C.sta.1.2 hS hi rfl hd (h _ out ho H locs ls hP hS hl)
theorem j_gets2 (C : CX κ g own cc nL ret fr lo) {idx : Nat} (hw : Cond.fieldLink own idx RX7 "STEPS" "[I" ∈ LW) (hd : decode cc pc = .ok (.getstatic idx, 3)) (h : J κ g nL φ S (pc + 3) xs (.ref (gs2 g) :: st) (o)) : J κ g nL φ S (pc) xs (st) (o) := by
  intro out ho H locs ls hP hS hl
  exact va_gets C.ex C.cd C.sta.2.1 hS C.ow (C.ts _ hw) (fun _ z => z) hd (h out ho H locs ls hP hS hl)
theorem j_tald2 (C : CX κ g own cc nL ret fr lo) {i : Int32} {k : Nat → Option α} (hd : decode cc pc = .ok (.iaload, 1)) (h : ∀ j, J κ g nL φ S (pc + 1) xs (.int (stp j) :: st) (k j)) : J κ g nL φ S (pc) xs (.int i :: .ref (gs2 g) :: st) (inb 16 i k) := by
  intro out ho H locs ls hP hS hl
  by_cases hi : i < 0 ∨ 16 ≤ i.toNatClampNeg
  · rw [show inb 16 i k = none from if_pos hi] at ho; cases ho
  rw [show inb 16 i k = k i.toNatClampNeg from if_neg hi] at ho
  exact va_ti C.ex C.cd C.sta.2.2 hS hi rfl hd (h _ out ho H locs ls hP hS hl)
theorem j_tlen2 (C : CX κ g own cc nL ret fr lo) {v : Int32} (hv : Int32.ofNat 16 = v) (hd : decode cc pc = .ok (.arraylength, 1)) (h : J κ g nL φ S (pc + 1) xs (.int v :: st) (o)) : J κ g nL φ S (pc) xs (.ref (gs2 g) :: st) (o) := by
  intro out ho H locs ls hP hS hl
  exact va_tlen C.ex C.cd C.sta.2.2 hS hv hd (h out ho H locs ls hP hS hl)
theorem j_ldc (C : CX κ g own cc nL ret fr lo) {idx : Nat} {v : Int32} (hw : Cond.constant own idx v ∈ LW) (hd : decode cc pc = .ok (.ldc idx, 2)) (h : J κ g nL φ S (pc + 2) xs (.int v :: st) (o)) : J κ g nL φ S (pc) xs (st) (o) := fun out ho H locs ls hP hS hl => lv_ldc C.ex C.cd C.ow (C.ts _ hw) hd (h out ho H locs ls hP hS hl)
theorem j_ldcw (C : CX κ g own cc nL ret fr lo) {idx : Nat} {v : Int32} (hw : Cond.constant own idx v ∈ LW) (hd : decode cc pc = .ok (.ldc_w idx, 3)) (h : J κ g nL φ S (pc + 3) xs (.int v :: st) (o)) : J κ g nL φ S (pc) xs (st) (o) := fun out ho H locs ls hP hS hl => lv_ldcw C.ex C.cd C.ow (C.ts _ hw) hd (h out ho H locs ls hP hS hl)
theorem j_ldc2 (C : CX κ g own cc nL ret fr lo) {idx : Nat} {v : Int64} (hw : Cond.constantLong own idx v ∈ LW) (hd : decode cc pc = .ok (.ldc2_w idx, 3)) (h : J κ g nL φ S (pc + 3) xs (.long v :: st) (o)) : J κ g nL φ S (pc) xs (st) (o) := fun out ho H locs ls hP hS hl => lv_ldc2 C.ex C.cd C.ow (C.ts _ hw) hd (h out ho H locs ls hP hS hl)
theorem j_ldcf (C : CX κ g own cc nL ret fr lo) {idx : Nat} {v : UInt32} (hw : Cond.constantFloat own idx v ∈ LW) (hd : decode cc pc = .ok (.ldc idx, 2)) (h : J κ g nL φ S (pc + 2) xs (.float v :: st) (o)) : J κ g nL φ S (pc) xs (st) (o) := fun out ho H locs ls hP hS hl => lv_ldcf C.ex C.cd C.ow (C.ts _ hw) hd (h out ho H locs ls hP hS hl)
theorem j_ldc2d (C : CX κ g own cc nL ret fr lo) {idx : Nat} {v : UInt64} (hw : Cond.constantDouble own idx v ∈ LW) (hd : decode cc pc = .ok (.ldc2_w idx, 3)) (h : J κ g nL φ S (pc + 3) xs (.double v :: st) (o)) : J κ g nL φ S (pc) xs (st) (o) := fun out ho H locs ls hP hS hl => lv_ldc2d C.ex C.cd C.ow (C.ts _ hw) hd (h out ho H locs ls hP hS hl)
theorem j_mmin (C : CX κ g own cc nL ret fr lo) {idx : Nat} {x y : Int32} (hw : Cond.methodLink own idx Lib.Math.min.name ∈ LW) (hfr : 1 ≤ fr) (hlo : (st.map fun v => v.category).sum + 13 ≤ lo) (hd : decode cc pc = .ok (.invokestatic idx, 3)) (h : J κ g nL φ S (pc + 3) xs (.int (imin x y) :: st) (o)) : J κ g nL φ S (pc) xs (.int y :: .int x :: st) (o) := by
  intro out ho H locs ls hP hS hl
  exact va_mmin C.ex C.cd (C.ml.trans hl.1.symm) C.ow (C.ts _ hw) (C.ts _ w_mmin.1) (C.ts _ w_mmin.2.1) (C.ts _ w_mmin.2.2) (by rw [C.R]; exact hfr) (by rw [C.R]; exact hlo) (Nat.zero_le _) (Nat.zero_le _) hd (h out ho H locs ls hP hS hl)
theorem j_mmax (C : CX κ g own cc nL ret fr lo) {idx : Nat} {x y : Int32} (hw : Cond.methodLink own idx Lib.Math.max.name ∈ LW) (hfr : 1 ≤ fr) (hlo : (st.map fun v => v.category).sum + 13 ≤ lo) (hd : decode cc pc = .ok (.invokestatic idx, 3)) (h : J κ g nL φ S (pc + 3) xs (.int (imax x y) :: st) (o)) : J κ g nL φ S (pc) xs (.int y :: .int x :: st) (o) := by
  intro out ho H locs ls hP hS hl
  exact va_mmax C.ex C.cd (C.ml.trans hl.1.symm) C.ow (C.ts _ hw) (C.ts _ w_mmax.1) (C.ts _ w_mmax.2.1) (C.ts _ w_mmax.2.2) (by rw [C.R]; exact hfr) (by rw [C.R]; exact hlo) (Nat.zero_le _) (Nat.zero_le _) hd (h out ho H locs ls hP hS hl)
theorem j_copy40 (C : CX κ g own cc nL ret fr lo) {idx n0 n1 : Nat} (hs0 : sh n0 = .inl (0, 40)) (hs1 : sh n1 = .inl (0, 40)) (hv0 : lvb g n0 = true) (hv1 : lvb g n1 = true) (hw : Cond.methodLink own idx arraycopyName ∈ LW) (hfr : 1 ≤ fr) (hlo : (st.map fun v => v.category).sum + (nativeFrameWords "java/lang/System" "arraycopy" 5 + 11) ≤ lo) (hd : decode cc pc = .ok (.invokestatic idx, 3)) (h : J κ g nL φ (sAf S n1 (va_cpy (gA S n0) (gA S n1) 0 0 40)) (pc + 3) xs (st) (o)) : J κ g nL φ S (pc) xs (.int 40 :: .int 0 :: .ref (gad g n1) :: .int 0 :: .ref (gad g n0) :: st) (o) := by
  intro out ho H locs ls hP hS hl
  obtain ⟨q0, hq0⟩ := live_place hv0
  obtain ⟨q1, hq1⟩ := live_place hv1
  refine va_copyi C.ex C.cd (C.ml.trans hl.1.symm) C.ow (C.ts _ hw) (C.ts _ w_copy.1) (C.ts _ w_copy.2.1) (C.ts _ w_copy.2.2) C.K hP (C.D S) hS q0 q1 0 0 (ty := .int) (n0 := 40) (n1 := 40) (by rw [ws_at hq0, cell_arr hs0]; rfl) (by rw [ws_at hq1, cell_arr hs1]; rfl) rfl rfl rfl (by decide) (by decide) (by decide) (by decide) (by decide) (fun _ _ => rfl) (by rw [C.R]; exact hfr) (by rw [C.R]; exact hlo) hd (fun H1 locs1 hP1 _ hS1 => h out ho H1 locs1 ls ?_ hS1 hl)
  have e : (.inl (gT g 0, 40, .inl (va_cpy (gA S n0) (gA S n1) (0 : Int32).toNatClampNeg (0 : Int32).toNatClampNeg (40 : Int32).toNatClampNeg)) : va_E) = cellS g (sAf S n1 (va_cpy (gA S n0) (gA S n1) 0 0 40)) n1 := by
    rw [cell_arr hs1]
    show _ = (.inl (gT g 0, 40, .inl (if n1 = n1 then va_cpy (gA S n0) (gA S n1) 0 0 40 else S.2.1 n1)) : va_E)
    rw [if_pos rfl]
    rfl
  rw [e, ws_set (C.D S) hq1 (fun m hm => cellS_sA hm)] at hP1
  exact hP1
theorem j_iret (C : CX κ g own cc nL (some .int) fr lo) {v : Int32} {a : α} (hφ : φ a = (some (.int v), S)) (hd : decode cc pc = .ok (.ireturn, 1)) : J κ g nL φ S (pc) xs ([.int v]) (some a) := by
  intro out ho H locs ls hP hS hl
  cases ho
  exact W.iret C.ex C.cd C.rt (fun t ht _ => by rw [hφ]; exact ⟨rfl, ht ▸ hP, hS.F ht⟩) hS.2.2 hd C.lk
theorem j_zret (C : CX κ g own cc nL (some .boolean) fr lo) {v : Int32} {a : α} (hv : narrow .boolean (.int v) = .int v) (hφ : φ a = (some (.int v), S)) (hd : decode cc pc = .ok (.ireturn, 1)) : J κ g nL φ S (pc) xs ([.int v]) (some a) := by
  intro out ho H locs ls hP hS hl
  cases ho
  exact W.zret C.ex C.cd C.rt hv (fun t ht _ => by rw [hφ]; exact ⟨rfl, ht ▸ hP, hS.F ht⟩) hS.2.2 hd C.lk
theorem j_lret (C : CX κ g own cc nL (some .long) fr lo) {v : Int64} {a : α} (hφ : φ a = (some (.long v), S)) (hd : decode cc pc = .ok (.lreturn, 1)) : J κ g nL φ S (pc) xs ([.long v]) (some a) := by
  intro out ho H locs ls hP hS hl
  cases ho
  exact W.lret C.ex C.cd C.rt (fun t ht _ => by rw [hφ]; exact ⟨rfl, ht ▸ hP, hS.F ht⟩) hS.2.2 hd C.lk
theorem j_fret (C : CX κ g own cc nL (some .float) fr lo) {v : UInt32} {a : α} (hφ : φ a = (some (.float v), S)) (hd : decode cc pc = .ok (.freturn, 1)) : J κ g nL φ S (pc) xs ([.float v]) (some a) := by
  intro out ho H locs ls hP hS hl
  cases ho
  exact W.fret C.ex C.cd C.rt (fun t ht _ => by rw [hφ]; exact ⟨rfl, ht ▸ hP, hS.F ht⟩) hS.2.2 hd C.lk
theorem nar_z {v : Int32} (h : v = 0 ∨ v = 1) : narrow .boolean (.int v) = .int v := by rcases h with rfl | rfl <;> rfl
theorem j_vret (C : CX κ g own cc nL none fr lo) {a : α} (hφ : φ a = (none, S)) (hd : decode cc pc = .ok (.return_, 1)) : J κ g nL φ S (pc) xs ([]) (some a) := by
  intro out ho H locs ls hP hS hl
  cases ho
  exact W.vret C.ex C.cd C.rt (fun t ht _ => by rw [hφ]; exact ⟨rfl, ht ▸ hP, hS.F ht⟩) hS.2.2 hd C.lk
theorem pre_blind (av : List Value) (S : St) : FrameBlind (va_Pc av (PreG g S)) := fun a U f mk q => by
  obtain ⟨q1, q2, q3, q4, q5⟩ := q
  exact ⟨q1, q2, va_K.moved (u := U) (U := U.calling f mk a) (Vm.Alike.refl U.vm) q3, q4, stat.moved (u := U) (U := U.calling f mk a) (Vm.Alike.refl U.vm) q5⟩
theorem pre_at (C : CX κ g own cc nL ret fr lo) {H : Heap} {locs : List Loc} {U : State} (hP : va_P (gD g) classes (wN g S) H) (hS : va_S (gAd g) (ks κ).heap H locs) (hU : U.heap = H) (hW : (ks κ).WarmedH U.vm) : PreG g S U :=
  ⟨by rw [hU]; exact hP, va_K.moved hW.alike C.K, C.D, stat.moved hW.alike (by rw [hU]; exact C.sta.kept (fun a ha hn => hS.2.1 a ha hn))⟩
theorem j_run {rS : Option Value × St} {a : Array Value} {st0 rest : List Value} {H : Heap} {locs : List Loc} {ls : Array Slot} {Q : State → Prop} (hS : va_S (gAd g) (ks κ).heap H locs)
    (hr : va_Run (kp κ) (kl κ) (ke κ) (kR κ) (ks κ) (km κ) (ka κ) (kb κ) (kt κ) (kc κ) H locs 0 0 0 0 (F0 (km κ) pc ls st0) rest (QS g rS a) (gAd g))
    (kk : ∀ (H1 : Heap) (locs1 : List Loc), va_P (gD g) classes (wN g rS.2) H1 → va_S (gAd g) (ks κ).heap H1 locs1 → W (kp κ) (kl κ) (ke κ) (kR κ) (ks κ) (km κ) (ka κ) (kb κ) (kt κ) (kc κ) H1 locs1 0 0 Q (F0 (km κ) (pc + 3) ls (rS.1.toList ++ rest))) : W (kp κ) (kl κ) (ke κ) (kR κ) (ks κ) (km κ) (ka κ) (kb κ) (kt κ) (kc κ) H locs 0 0 Q (F0 (km κ) pc ls st0) := by
  intro T hT X
  obtain ⟨v, st₀, t, T', L, h0, X', hL, e1, e2, ⟨hv, hp, hz, hk⟩, sx⟩ := hr T hT X
  have hv' : v = rS.1 := by cases hv; rfl
  subst hv'
  rw [h0] at hz hk
  obtain ⟨t2, a1, b1⟩ := kk T'.heap (locs ++ L) (by rw [e1]; exact hp)
    ⟨Nat.le_trans hS.1 (by rw [e1]; exact hz), fun q h1 h2 => by rw [e1, hk q (Nat.lt_of_lt_of_le h1 hS.1) h2]; exact hS.2.1 q h1 h2, fun q hq => by
      rcases List.mem_append.mp hq with h | h
      · exact hS.2.2 q h
      · exact hL q h⟩ T' rfl X'
  exact ⟨t2, sx t2 a1, b1⟩
theorem j_callS (C : CX κ g own cc nL ret fr lo) {idx nb fb lb : Nat} {y : MethodName} {cb : ByteArray} {rb : Option FieldType} {As st0 rest : List Value} {ob : Option β} {ψ : β → Option Value × St} {k : β → Option α} (M : MSt own idx y cb nb rb As.length) (hR : fb + 1 ≤ fr ∧ 8 + (nb + 11) + lb ≤ lo) (hw : (rest.map fun v => v.category).sum ≤ 8) (hd : decode cc pc = .ok (.invokestatic idx, 3)) (hst : st0 = As.reverse ++ rest)
    (hM : ∀ a, ob = some a → CT (kl κ) y cb nb rb fb lb As g S (ψ a)) (h : ∀ a, J κ g nL φ (ψ a).2 (pc + 3) xs ((ψ a).1.toList ++ rest) (k a)) : J κ g nL φ S pc xs st0 (ob.bind k) := by
  intro out ho H locs ls hP hS hl
  obtain ⟨a, ha, hk⟩ := Option.bind_eq_some_iff.mp ho
  obtain ⟨m1, m2, m3, m4, m5, m6, m7⟩ := M
  refine j_run (rS := ψ a) (a := As.toArray) (rest := rest) hS (va_runS (Ts := LW) (own := own) (nL := nL) (cc := cc) (As := As) (n := As.length) ⟨C.ex, C.cd, C.ml, C.ow, C.ts⟩ (hM a ha) ⟨callB_of As.length C.ts (goodIn_wsOf m4) rfl rfl rfl (C.ts _ m3) (C.ts _ m1) ⟨m5, m6, m7⟩ (by rw [C.R]; exact hR), C.ts _ m2⟩ ⟨pre_blind As S, fun U hU hW => ⟨rfl, pre_at C hP hS hU hW⟩⟩ rfl rfl hl.1 hst (lv_room hw) hd ⟨Nat.zero_le _, Nat.zero_le _⟩) (fun H1 locs1 hP1 hS1 => h a out hk H1 locs1 ls hP1 hS1 hl)
theorem j_callV (C : CX κ g own cc nL ret fr lo) {idx nb fb lb n ci N : Nat} {fl : List Nat} {T : u_T} {y : MethodName} {cb : ByteArray} {rb : Option FieldType} {As st0 rest : List Value} {ob : Option β} {ψ : β → Option Value × St} {k : β → Option α} (M : MVt own idx y cb nb rb As.length) (hs : sh n = .inr (ci, fl)) (hlv : lvb g n = true) (hc : classes[ci]? = some (y.cls, T, N)) (hR : fb + 1 ≤ fr ∧ 8 + (nb + 11) + lb ≤ lo) (hw : (rest.map fun v => v.category).sum ≤ 8) (hd : decode cc pc = .ok (.invokevirtual idx, 3)) (hst : st0 = As.reverse ++ .ref (gad g n) :: rest)
    (hM : ∀ a, ob = some a → CT (kl κ) y cb nb rb fb lb (.ref (gad g n) :: As) g S (ψ a)) (h : ∀ a, J κ g nL φ (ψ a).2 (pc + 3) xs ((ψ a).1.toList ++ rest) (k a)) : J κ g nL φ S pc xs st0 (ob.bind k) := by
  intro out ho H locs ls hP hS hl
  obtain ⟨a, ha, hk⟩ := Option.bind_eq_some_iff.mp ho
  obtain ⟨m1, m2, m2b, m3, m4, m5, m6, m7⟩ := M
  obtain ⟨q, hq⟩ := live_place hlv
  have he : (wN g S)[q]? = some (gad g n, .inr (ci, fl.mapIdx (fun k x => fval g S n k x))) := by rw [ws_at hq, cell_obj hs]
  refine j_run (rS := ψ a) (a := (Value.ref (gad g n) :: As).toArray) (rest := rest) hS (va_runV (Ts := LW) (own := own) (C := y.cls) (nL := nL) (cc := cc) (As := As) (n := As.length) ⟨C.ex, C.cd, C.ml, C.ow, C.ts⟩ (hM a ha) ⟨callB_of As.length C.ts (goodIn_wsOf m4) rfl rfl rfl (C.ts _ m3) (C.ts _ m1) ⟨m5, m6, m7⟩ (by rw [C.R]; exact hR), C.ts _ m2, C.ts _ m2b⟩ ⟨pre_blind _ S, va_recv C.K hP hc he, fun U hU hW => ⟨rfl, pre_at C hP hS hU hW⟩⟩ rfl rfl hl.1 hst (lv_room hw) hd ⟨Nat.zero_le _, Nat.zero_le _⟩) (fun H1 locs1 hP1 hS1 => h a out hk H1 locs1 ls hP1 hS1 hl)
end ROWS
theorem CT_of {l : Launch} {y : MethodName} {cc : ByteArray} {nL : Nat} {ret : Option FieldType} {fr lo : Nat} {g : GT} {S : St} {β : Type} {φ : β → Option Value × St} {o : Option β} {out : β} (av : List Value) {xs : List (Nat × Value)} (ho : o = some out) (hy : plainName y.cls = true) (hlen : (lg_sl av).length ≤ nL) (hxs : lv_args 0 av = xs)
    (body : ∀ κ : KT, CX κ g y.cls cc nL ret fr lo → J κ g nL φ S 0 xs [] o) : CT l y cc nL ret fr lo av g S (φ out) := by
  refine Met.ofW (cc := cc) (maxL := nL) (ret := ret) hy rfl ?_
  intro p e s m args below meth c s₁ B hml hv
  obtain ⟨rfl, hP, hK, hD, hst⟩ := hv
  have hts := atoms_spec (ws := wsOf y cc nL ret) B.pre
  have C : CX (p, l, e, (headSpec (wsOf y cc nL ret) { frames := fr, cells := 0, slots := 0, locals := lo }).room, s, m, av.toArray, below, meth, c) g y.cls cc nL ret fr lo :=
    ⟨B.exec, B.bytes, hml, findClass_of_methodNamed B.named, fun w h => hts w (List.mem_cons_of_mem _ h), B.notSynchronized, B.returns, hK, hD, hst, rfl⟩
  have hl := lv_entry av (n := nL) hlen
  rw [lg_entry_eq]
  exact body _ C out ho s.heap [] _ hP va_S.rf (hxs ▸ hl)
end
section
section ROWS
variable {κ : KT} {g : GT} {own : String} {cc : ByteArray} {nL : Nat} {ret : Option FieldType} {fr lo : Nat} {α β : Type} {φ : α → Option Value × St} {S : St} {pc : Nat} {xs xs1 : List (Nat × Value)} {st : List Value} {o o1 o2 : Option α}
theorem j_callSi (C : CX κ g own cc nL ret fr lo) {idx nb fb lb : Nat} {y : MethodName} {cb : ByteArray} {rb : Option FieldType} (As rest : List Value) {st0 : List Value} {ob : Option (Int32)} {k : (Int32) → Option α} (M : MSt own idx y cb nb rb As.length) (hM : ∀ a, ob = some a → CT (kl κ) y cb nb rb fb lb As g S ((fun a : Int32 => (some (Value.int a), S)) a)) (hR : fb + 1 ≤ fr ∧ 8 + (nb + 11) + lb ≤ lo) (hw : (rest.map fun v => v.category).sum ≤ 8) (hd : decode cc pc = .ok (.invokestatic idx, 3)) (hst : st0 = As.reverse ++ rest) (h : ∀ a, J κ g nL φ S (pc + 3) xs (.int a :: rest) (k a)) : J κ g nL φ S pc xs st0 (ob.bind k) := j_callS C (ψ := (fun a : Int32 => (some (Value.int a), S))) M hR hw hd hst hM h
theorem j_callVi (C : CX κ g own cc nL ret fr lo) {idx nb fb lb n ci N : Nat} {fl : List Nat} {T : u_T} {y : MethodName} {cb : ByteArray} {rb : Option FieldType} (As rest : List Value) {st0 : List Value} {ob : Option (Int32)} {k : (Int32) → Option α} (M : MVt own idx y cb nb rb As.length) (hs : sh n = .inr (ci, fl)) (hlv : lvb g n = true) (hc : classes[ci]? = some (y.cls, T, N)) (hM : ∀ a, ob = some a → CT (kl κ) y cb nb rb fb lb (.ref (gad g n) :: As) g S ((fun a : Int32 => (some (Value.int a), S)) a)) (hR : fb + 1 ≤ fr ∧ 8 + (nb + 11) + lb ≤ lo) (hw : (rest.map fun v => v.category).sum ≤ 8) (hd : decode cc pc = .ok (.invokevirtual idx, 3)) (hst : st0 = As.reverse ++ .ref (gad g n) :: rest) (h : ∀ a, J κ g nL φ S (pc + 3) xs (.int a :: rest) (k a)) : J κ g nL φ S pc xs st0 (ob.bind k) := j_callV C (ψ := (fun a : Int32 => (some (Value.int a), S))) M hs hlv hc hR hw hd hst hM h
theorem j_callSiS (C : CX κ g own cc nL ret fr lo) {idx nb fb lb : Nat} {y : MethodName} {cb : ByteArray} {rb : Option FieldType} (As rest : List Value) {st0 : List Value} {ob : Option (Int32 × St)} {k : (Int32 × St) → Option α} (M : MSt own idx y cb nb rb As.length) (hM : ∀ a, ob = some a → CT (kl κ) y cb nb rb fb lb As g S ((fun a : Int32 × St => (some (Value.int a.1), a.2)) a)) (hR : fb + 1 ≤ fr ∧ 8 + (nb + 11) + lb ≤ lo) (hw : (rest.map fun v => v.category).sum ≤ 8) (hd : decode cc pc = .ok (.invokestatic idx, 3)) (hst : st0 = As.reverse ++ rest) (h : ∀ a, J κ g nL φ a.2 (pc + 3) xs (.int a.1 :: rest) (k a)) : J κ g nL φ S pc xs st0 (ob.bind k) := j_callS C (ψ := (fun a : Int32 × St => (some (Value.int a.1), a.2))) M hR hw hd hst hM h
theorem j_callViS (C : CX κ g own cc nL ret fr lo) {idx nb fb lb n ci N : Nat} {fl : List Nat} {T : u_T} {y : MethodName} {cb : ByteArray} {rb : Option FieldType} (As rest : List Value) {st0 : List Value} {ob : Option (Int32 × St)} {k : (Int32 × St) → Option α} (M : MVt own idx y cb nb rb As.length) (hs : sh n = .inr (ci, fl)) (hlv : lvb g n = true) (hc : classes[ci]? = some (y.cls, T, N)) (hM : ∀ a, ob = some a → CT (kl κ) y cb nb rb fb lb (.ref (gad g n) :: As) g S ((fun a : Int32 × St => (some (Value.int a.1), a.2)) a)) (hR : fb + 1 ≤ fr ∧ 8 + (nb + 11) + lb ≤ lo) (hw : (rest.map fun v => v.category).sum ≤ 8) (hd : decode cc pc = .ok (.invokevirtual idx, 3)) (hst : st0 = As.reverse ++ .ref (gad g n) :: rest) (h : ∀ a, J κ g nL φ a.2 (pc + 3) xs (.int a.1 :: rest) (k a)) : J κ g nL φ S pc xs st0 (ob.bind k) := j_callV C (ψ := (fun a : Int32 × St => (some (Value.int a.1), a.2))) M hs hlv hc hR hw hd hst hM h
theorem j_callSvS (C : CX κ g own cc nL ret fr lo) {idx nb fb lb : Nat} {y : MethodName} {cb : ByteArray} {rb : Option FieldType} (As rest : List Value) {st0 : List Value} {ob : Option (St)} {k : (St) → Option α} (M : MSt own idx y cb nb rb As.length) (hM : ∀ a, ob = some a → CT (kl κ) y cb nb rb fb lb As g S ((fun a : St => (none, a)) a)) (hR : fb + 1 ≤ fr ∧ 8 + (nb + 11) + lb ≤ lo) (hw : (rest.map fun v => v.category).sum ≤ 8) (hd : decode cc pc = .ok (.invokestatic idx, 3)) (hst : st0 = As.reverse ++ rest) (h : ∀ a, J κ g nL φ a (pc + 3) xs (rest) (k a)) : J κ g nL φ S pc xs st0 (ob.bind k) := j_callS C (ψ := (fun a : St => (none, a))) M hR hw hd hst hM h
theorem j_callVvS (C : CX κ g own cc nL ret fr lo) {idx nb fb lb n ci N : Nat} {fl : List Nat} {T : u_T} {y : MethodName} {cb : ByteArray} {rb : Option FieldType} (As rest : List Value) {st0 : List Value} {ob : Option (St)} {k : (St) → Option α} (M : MVt own idx y cb nb rb As.length) (hs : sh n = .inr (ci, fl)) (hlv : lvb g n = true) (hc : classes[ci]? = some (y.cls, T, N)) (hM : ∀ a, ob = some a → CT (kl κ) y cb nb rb fb lb (.ref (gad g n) :: As) g S ((fun a : St => (none, a)) a)) (hR : fb + 1 ≤ fr ∧ 8 + (nb + 11) + lb ≤ lo) (hw : (rest.map fun v => v.category).sum ≤ 8) (hd : decode cc pc = .ok (.invokevirtual idx, 3)) (hst : st0 = As.reverse ++ .ref (gad g n) :: rest) (h : ∀ a, J κ g nL φ a (pc + 3) xs (rest) (k a)) : J κ g nL φ S pc xs st0 (ob.bind k) := j_callV C (ψ := (fun a : St => (none, a))) M hs hlv hc hR hw hd hst hM h
theorem j_callSl (C : CX κ g own cc nL ret fr lo) {idx nb fb lb : Nat} {y : MethodName} {cb : ByteArray} {rb : Option FieldType} (As rest : List Value) {st0 : List Value} {ob : Option (Int64)} {k : (Int64) → Option α} (M : MSt own idx y cb nb rb As.length) (hM : ∀ a, ob = some a → CT (kl κ) y cb nb rb fb lb As g S ((fun a : Int64 => (some (Value.long a), S)) a)) (hR : fb + 1 ≤ fr ∧ 8 + (nb + 11) + lb ≤ lo) (hw : (rest.map fun v => v.category).sum ≤ 8) (hd : decode cc pc = .ok (.invokestatic idx, 3)) (hst : st0 = As.reverse ++ rest) (h : ∀ a, J κ g nL φ S (pc + 3) xs (.long a :: rest) (k a)) : J κ g nL φ S pc xs st0 (ob.bind k) := j_callS C (ψ := (fun a : Int64 => (some (Value.long a), S))) M hR hw hd hst hM h
theorem j_callVl (C : CX κ g own cc nL ret fr lo) {idx nb fb lb n ci N : Nat} {fl : List Nat} {T : u_T} {y : MethodName} {cb : ByteArray} {rb : Option FieldType} (As rest : List Value) {st0 : List Value} {ob : Option (Int64)} {k : (Int64) → Option α} (M : MVt own idx y cb nb rb As.length) (hs : sh n = .inr (ci, fl)) (hlv : lvb g n = true) (hc : classes[ci]? = some (y.cls, T, N)) (hM : ∀ a, ob = some a → CT (kl κ) y cb nb rb fb lb (.ref (gad g n) :: As) g S ((fun a : Int64 => (some (Value.long a), S)) a)) (hR : fb + 1 ≤ fr ∧ 8 + (nb + 11) + lb ≤ lo) (hw : (rest.map fun v => v.category).sum ≤ 8) (hd : decode cc pc = .ok (.invokevirtual idx, 3)) (hst : st0 = As.reverse ++ .ref (gad g n) :: rest) (h : ∀ a, J κ g nL φ S (pc + 3) xs (.long a :: rest) (k a)) : J κ g nL φ S pc xs st0 (ob.bind k) := j_callV C (ψ := (fun a : Int64 => (some (Value.long a), S))) M hs hlv hc hR hw hd hst hM h
theorem j_callSlS (C : CX κ g own cc nL ret fr lo) {idx nb fb lb : Nat} {y : MethodName} {cb : ByteArray} {rb : Option FieldType} (As rest : List Value) {st0 : List Value} {ob : Option (Int64 × St)} {k : (Int64 × St) → Option α} (M : MSt own idx y cb nb rb As.length) (hM : ∀ a, ob = some a → CT (kl κ) y cb nb rb fb lb As g S ((fun a : Int64 × St => (some (Value.long a.1), a.2)) a)) (hR : fb + 1 ≤ fr ∧ 8 + (nb + 11) + lb ≤ lo) (hw : (rest.map fun v => v.category).sum ≤ 8) (hd : decode cc pc = .ok (.invokestatic idx, 3)) (hst : st0 = As.reverse ++ rest) (h : ∀ a, J κ g nL φ a.2 (pc + 3) xs (.long a.1 :: rest) (k a)) : J κ g nL φ S pc xs st0 (ob.bind k) := j_callS C (ψ := (fun a : Int64 × St => (some (Value.long a.1), a.2))) M hR hw hd hst hM h
theorem j_callVlS (C : CX κ g own cc nL ret fr lo) {idx nb fb lb n ci N : Nat} {fl : List Nat} {T : u_T} {y : MethodName} {cb : ByteArray} {rb : Option FieldType} (As rest : List Value) {st0 : List Value} {ob : Option (Int64 × St)} {k : (Int64 × St) → Option α} (M : MVt own idx y cb nb rb As.length) (hs : sh n = .inr (ci, fl)) (hlv : lvb g n = true) (hc : classes[ci]? = some (y.cls, T, N)) (hM : ∀ a, ob = some a → CT (kl κ) y cb nb rb fb lb (.ref (gad g n) :: As) g S ((fun a : Int64 × St => (some (Value.long a.1), a.2)) a)) (hR : fb + 1 ≤ fr ∧ 8 + (nb + 11) + lb ≤ lo) (hw : (rest.map fun v => v.category).sum ≤ 8) (hd : decode cc pc = .ok (.invokevirtual idx, 3)) (hst : st0 = As.reverse ++ .ref (gad g n) :: rest) (h : ∀ a, J κ g nL φ a.2 (pc + 3) xs (.long a.1 :: rest) (k a)) : J κ g nL φ S pc xs st0 (ob.bind k) := j_callV C (ψ := (fun a : Int64 × St => (some (Value.long a.1), a.2))) M hs hlv hc hR hw hd hst hM h
theorem j_callSf (C : CX κ g own cc nL ret fr lo) {idx nb fb lb : Nat} {y : MethodName} {cb : ByteArray} {rb : Option FieldType} (As rest : List Value) {st0 : List Value} {ob : Option (UInt32)} {k : (UInt32) → Option α} (M : MSt own idx y cb nb rb As.length) (hM : ∀ a, ob = some a → CT (kl κ) y cb nb rb fb lb As g S ((fun a : UInt32 => (some (Value.float a), S)) a)) (hR : fb + 1 ≤ fr ∧ 8 + (nb + 11) + lb ≤ lo) (hw : (rest.map fun v => v.category).sum ≤ 8) (hd : decode cc pc = .ok (.invokestatic idx, 3)) (hst : st0 = As.reverse ++ rest) (h : ∀ a, J κ g nL φ S (pc + 3) xs (.float a :: rest) (k a)) : J κ g nL φ S pc xs st0 (ob.bind k) := j_callS C (ψ := (fun a : UInt32 => (some (Value.float a), S))) M hR hw hd hst hM h
theorem j_callVf (C : CX κ g own cc nL ret fr lo) {idx nb fb lb n ci N : Nat} {fl : List Nat} {T : u_T} {y : MethodName} {cb : ByteArray} {rb : Option FieldType} (As rest : List Value) {st0 : List Value} {ob : Option (UInt32)} {k : (UInt32) → Option α} (M : MVt own idx y cb nb rb As.length) (hs : sh n = .inr (ci, fl)) (hlv : lvb g n = true) (hc : classes[ci]? = some (y.cls, T, N)) (hM : ∀ a, ob = some a → CT (kl κ) y cb nb rb fb lb (.ref (gad g n) :: As) g S ((fun a : UInt32 => (some (Value.float a), S)) a)) (hR : fb + 1 ≤ fr ∧ 8 + (nb + 11) + lb ≤ lo) (hw : (rest.map fun v => v.category).sum ≤ 8) (hd : decode cc pc = .ok (.invokevirtual idx, 3)) (hst : st0 = As.reverse ++ .ref (gad g n) :: rest) (h : ∀ a, J κ g nL φ S (pc + 3) xs (.float a :: rest) (k a)) : J κ g nL φ S pc xs st0 (ob.bind k) := j_callV C (ψ := (fun a : UInt32 => (some (Value.float a), S))) M hs hlv hc hR hw hd hst hM h
end ROWS
end
