section
-- ===== PART A: goes FIRST, ahead of the names: the tables' words, and 'selects' of the private methods out of them =====
/-- a private method of a class that the tables say can be made, by its rows of tables_1 -/
def lw_okq (q : MethodName × Nat) : Prop := (q.1.cls ≠ "java/lang/invoke/MethodHandle" ∧ q.1.cls ≠ "java/lang/invoke/VarHandle") ∧ Cond.instantiable q.1.cls q.2 ∈ tables_1 ∧ Cond.privateMethod q.1 ∈ tables_1 ∧ Cond.instanceMethod q.1 ∈ tables_1
theorem lw_p0 : lw_okq (⟨"CreakingGhosts$Row", "reaches", "(I)Z"⟩, 1) := ⟨⟨by decide +kernel, by decide +kernel⟩, List.mem_of_getElem? (i := 31) (by decide +kernel), List.mem_of_getElem? (i := 145) (by decide +kernel), List.mem_of_getElem? (i := 146) (by decide +kernel)⟩
theorem lw_p1 : lw_okq (⟨"CreakingGhosts$Shelf", "has", "(I)Z"⟩, 1) := ⟨⟨by decide +kernel, by decide +kernel⟩, List.mem_of_getElem? (i := 196) (by decide +kernel), List.mem_of_getElem? (i := 288) (by decide +kernel), List.mem_of_getElem? (i := 289) (by decide +kernel)⟩
theorem lw_p2 : lw_okq (⟨"CreakingGhosts$Pad", "canStand", "(I)Z"⟩, 2) := ⟨⟨by decide +kernel, by decide +kernel⟩, List.mem_of_getElem? (i := 174) (by decide +kernel), List.mem_of_getElem? (i := 349) (by decide +kernel), List.mem_of_getElem? (i := 350) (by decide +kernel)⟩
theorem lw_p3 : lw_okq (⟨"CreakingGhosts$Attic", "letCreak", "(I)I"⟩, 6) := ⟨⟨by decide +kernel, by decide +kernel⟩, List.mem_of_getElem? (i := 25) (by decide +kernel), List.mem_of_getElem? (i := 449) (by decide +kernel), List.mem_of_getElem? (i := 450) (by decide +kernel)⟩
theorem lw_p4 : lw_okq (⟨"CreakingGhosts$Attic", "wakes", "(II)Z"⟩, 6) := ⟨⟨by decide +kernel, by decide +kernel⟩, List.mem_of_getElem? (i := 25) (by decide +kernel), List.mem_of_getElem? (i := 459) (by decide +kernel), List.mem_of_getElem? (i := 460) (by decide +kernel)⟩
theorem lw_p5 : lw_okq (⟨"CreakingGhosts$Attic", "minutesBetweenBells", "()I"⟩, 6) := ⟨⟨by decide +kernel, by decide +kernel⟩, List.mem_of_getElem? (i := 25) (by decide +kernel), List.mem_of_getElem? (i := 486) (by decide +kernel), List.mem_of_getElem? (i := 487) (by decide +kernel)⟩
theorem lw_p6 : lw_okq (⟨"CreakingGhosts", "findWay", "(II)V"⟩, 6) := ⟨⟨by decide +kernel, by decide +kernel⟩, List.mem_of_getElem? (i := 17) (by decide +kernel), List.mem_of_getElem? (i := 513) (by decide +kernel), List.mem_of_getElem? (i := 514) (by decide +kernel)⟩
theorem lw_p7 : lw_okq (⟨"CreakingGhosts$Way", "weigh", "(LCreakingGhosts$Boards;II)V"⟩, 5) := ⟨⟨by decide +kernel, by decide +kernel⟩, List.mem_of_getElem? (i := 223) (by decide +kernel), List.mem_of_getElem? (i := 522) (by decide +kernel), List.mem_of_getElem? (i := 523) (by decide +kernel)⟩
theorem lw_p8 : lw_okq (⟨"CreakingGhosts$Way", "lowerCosts", "(LCreakingGhosts$Boards;I)Z"⟩, 5) := ⟨⟨by decide +kernel, by decide +kernel⟩, List.mem_of_getElem? (i := 223) (by decide +kernel), List.mem_of_getElem? (i := 530) (by decide +kernel), List.mem_of_getElem? (i := 531) (by decide +kernel)⟩
theorem lw_p9 : lw_okq (⟨"CreakingGhosts$Way", "firstStep", "(LCreakingGhosts$Boards;II)I"⟩, 5) := ⟨⟨by decide +kernel, by decide +kernel⟩, List.mem_of_getElem? (i := 223) (by decide +kernel), List.mem_of_getElem? (i := 538) (by decide +kernel), List.mem_of_getElem? (i := 539) (by decide +kernel)⟩
theorem lw_p10 : lw_okq (⟨"CreakingGhostsModel", "record", "()V"⟩, 15) := ⟨⟨by decide +kernel, by decide +kernel⟩, List.mem_of_getElem? (i := 709) (by decide +kernel), List.mem_of_getElem? (i := 778) (by decide +kernel), List.mem_of_getElem? (i := 779) (by decide +kernel)⟩
theorem lw_p11 : lw_okq (⟨"CreakingGhostsModel", "whyNotLay", "(IIII)I"⟩, 15) := ⟨⟨by decide +kernel, by decide +kernel⟩, List.mem_of_getElem? (i := 709) (by decide +kernel), List.mem_of_getElem? (i := 790) (by decide +kernel), List.mem_of_getElem? (i := 791) (by decide +kernel)⟩
theorem lw_p12 : lw_okq (⟨"CreakingGhostsModel", "lies", "(IIII)I"⟩, 15) := ⟨⟨by decide +kernel, by decide +kernel⟩, List.mem_of_getElem? (i := 709) (by decide +kernel), List.mem_of_getElem? (i := 797) (by decide +kernel), List.mem_of_getElem? (i := 798) (by decide +kernel)⟩
theorem lw_p13 : lw_okq (⟨"CreakingGhostsModel", "isBoard", "(I)Z"⟩, 15) := ⟨⟨by decide +kernel, by decide +kernel⟩, List.mem_of_getElem? (i := 709) (by decide +kernel), List.mem_of_getElem? (i := 805) (by decide +kernel), List.mem_of_getElem? (i := 806) (by decide +kernel)⟩
theorem lw_p14 : lw_okq (⟨"CreakingGhostsModel", "ofGhost", "(II)I"⟩, 15) := ⟨⟨by decide +kernel, by decide +kernel⟩, List.mem_of_getElem? (i := 709) (by decide +kernel), List.mem_of_getElem? (i := 809) (by decide +kernel), List.mem_of_getElem? (i := 810) (by decide +kernel)⟩
theorem lw_p15 : lw_okq (⟨"CreakingGhostsModel", "farOf", "(II)I"⟩, 15) := ⟨⟨by decide +kernel, by decide +kernel⟩, List.mem_of_getElem? (i := 709) (by decide +kernel), List.mem_of_getElem? (i := 817) (by decide +kernel), List.mem_of_getElem? (i := 818) (by decide +kernel)⟩
def lw_privs_1 : List (MethodName × Nat) := [(⟨"CreakingGhosts$Row", "reaches", "(I)Z"⟩, 1), (⟨"CreakingGhosts$Shelf", "has", "(I)Z"⟩, 1), (⟨"CreakingGhosts$Pad", "canStand", "(I)Z"⟩, 2), (⟨"CreakingGhosts$Attic", "letCreak", "(I)I"⟩, 6), (⟨"CreakingGhosts$Attic", "wakes", "(II)Z"⟩, 6), (⟨"CreakingGhosts$Attic", "minutesBetweenBells", "()I"⟩, 6), (⟨"CreakingGhosts", "findWay", "(II)V"⟩, 6), (⟨"CreakingGhosts$Way", "weigh", "(LCreakingGhosts$Boards;II)V"⟩, 5), (⟨"CreakingGhosts$Way", "lowerCosts", "(LCreakingGhosts$Boards;I)Z"⟩, 5), (⟨"CreakingGhosts$Way", "firstStep", "(LCreakingGhosts$Boards;II)I"⟩, 5), (⟨"CreakingGhostsModel", "record", "()V"⟩, 15), (⟨"CreakingGhostsModel", "whyNotLay", "(IIII)I"⟩, 15), (⟨"CreakingGhostsModel", "lies", "(IIII)I"⟩, 15), (⟨"CreakingGhostsModel", "isBoard", "(I)Z"⟩, 15), (⟨"CreakingGhostsModel", "ofGhost", "(II)I"⟩, 15), (⟨"CreakingGhostsModel", "farOf", "(II)I"⟩, 15)]
theorem lw_r1 : ∀ q ∈ lw_privs_1, lw_okq q := List.forall_mem_cons.mpr ⟨lw_p0, List.forall_mem_cons.mpr ⟨lw_p1, List.forall_mem_cons.mpr ⟨lw_p2, List.forall_mem_cons.mpr ⟨lw_p3, List.forall_mem_cons.mpr ⟨lw_p4, List.forall_mem_cons.mpr ⟨lw_p5, List.forall_mem_cons.mpr ⟨lw_p6, List.forall_mem_cons.mpr ⟨lw_p7, List.forall_mem_cons.mpr ⟨lw_p8, List.forall_mem_cons.mpr ⟨lw_p9, List.forall_mem_cons.mpr ⟨lw_p10, List.forall_mem_cons.mpr ⟨lw_p11, List.forall_mem_cons.mpr ⟨lw_p12, List.forall_mem_cons.mpr ⟨lw_p13, List.forall_mem_cons.mpr ⟨lw_p14, List.forall_mem_cons.mpr ⟨lw_p15, fun _ h => absurd h List.not_mem_nil⟩⟩⟩⟩⟩⟩⟩⟩⟩⟩⟩⟩⟩⟩⟩⟩
theorem lw_p16 : lw_okq (⟨"CreakingGhostsModel", "all", "()I"⟩, 15) := ⟨⟨by decide +kernel, by decide +kernel⟩, List.mem_of_getElem? (i := 709) (by decide +kernel), List.mem_of_getElem? (i := 821) (by decide +kernel), List.mem_of_getElem? (i := 822) (by decide +kernel)⟩
theorem lw_p17 : lw_okq (⟨"CreakingGhostsModel", "measure", "(IIZ)V"⟩, 15) := ⟨⟨by decide +kernel, by decide +kernel⟩, List.mem_of_getElem? (i := 709) (by decide +kernel), List.mem_of_getElem? (i := 825) (by decide +kernel), List.mem_of_getElem? (i := 826) (by decide +kernel)⟩
theorem lw_p18 : lw_okq (⟨"CreakingGhostsModel", "ofBoard", "(II)I"⟩, 15) := ⟨⟨by decide +kernel, by decide +kernel⟩, List.mem_of_getElem? (i := 709) (by decide +kernel), List.mem_of_getElem? (i := 830) (by decide +kernel), List.mem_of_getElem? (i := 831) (by decide +kernel)⟩
theorem lw_p19 : lw_okq (⟨"CreakingGhostsModel", "isSleeper", "(I)Z"⟩, 15) := ⟨⟨by decide +kernel, by decide +kernel⟩, List.mem_of_getElem? (i := 709) (by decide +kernel), List.mem_of_getElem? (i := 838) (by decide +kernel), List.mem_of_getElem? (i := 839) (by decide +kernel)⟩
theorem lw_p20 : lw_okq (⟨"CreakingGhostsModel", "loud", "(II)I"⟩, 15) := ⟨⟨by decide +kernel, by decide +kernel⟩, List.mem_of_getElem? (i := 709) (by decide +kernel), List.mem_of_getElem? (i := 842) (by decide +kernel), List.mem_of_getElem? (i := 843) (by decide +kernel)⟩
theorem lw_p21 : lw_okq (⟨"CreakingGhostsModel", "ofSleeper", "(II)I"⟩, 15) := ⟨⟨by decide +kernel, by decide +kernel⟩, List.mem_of_getElem? (i := 709) (by decide +kernel), List.mem_of_getElem? (i := 846) (by decide +kernel), List.mem_of_getElem? (i := 847) (by decide +kernel)⟩
theorem lw_p22 : lw_okq (⟨"CreakingGhostsModel", "minutes", "(I)I"⟩, 15) := ⟨⟨by decide +kernel, by decide +kernel⟩, List.mem_of_getElem? (i := 709) (by decide +kernel), List.mem_of_getElem? (i := 859) (by decide +kernel), List.mem_of_getElem? (i := 860) (by decide +kernel)⟩
theorem lw_p23 : lw_okq (⟨"CreakingGhostsModel", "roomOf", "(I)I"⟩, 15) := ⟨⟨by decide +kernel, by decide +kernel⟩, List.mem_of_getElem? (i := 709) (by decide +kernel), List.mem_of_getElem? (i := 870) (by decide +kernel), List.mem_of_getElem? (i := 871) (by decide +kernel)⟩
theorem lw_p24 : lw_okq (⟨"CreakingGhostsModel", "isAt", "(II)Z"⟩, 15) := ⟨⟨by decide +kernel, by decide +kernel⟩, List.mem_of_getElem? (i := 709) (by decide +kernel), List.mem_of_getElem? (i := 878) (by decide +kernel), List.mem_of_getElem? (i := 879) (by decide +kernel)⟩
theorem lw_p25 : lw_okq (⟨"CreakingGhostsModel", "isFree", "(II)Z"⟩, 15) := ⟨⟨by decide +kernel, by decide +kernel⟩, List.mem_of_getElem? (i := 709) (by decide +kernel), List.mem_of_getElem? (i := 882) (by decide +kernel), List.mem_of_getElem? (i := 883) (by decide +kernel)⟩
theorem lw_p26 : lw_okq (⟨"CreakingGhostsModel", "watched", "()I"⟩, 15) := ⟨⟨by decide +kernel, by decide +kernel⟩, List.mem_of_getElem? (i := 709) (by decide +kernel), List.mem_of_getElem? (i := 886) (by decide +kernel), List.mem_of_getElem? (i := 887) (by decide +kernel)⟩
theorem lw_p27 : lw_okq (⟨"CreakingGhostsModel", "hasCrossed", "(II)Z"⟩, 15) := ⟨⟨by decide +kernel, by decide +kernel⟩, List.mem_of_getElem? (i := 709) (by decide +kernel), List.mem_of_getElem? (i := 890) (by decide +kernel), List.mem_of_getElem? (i := 891) (by decide +kernel)⟩
theorem lw_p28 : lw_okq (⟨"CreakingGhostsModel", "glides", "(II)I"⟩, 15) := ⟨⟨by decide +kernel, by decide +kernel⟩, List.mem_of_getElem? (i := 709) (by decide +kernel), List.mem_of_getElem? (i := 894) (by decide +kernel), List.mem_of_getElem? (i := 895) (by decide +kernel)⟩
theorem lw_p29 : lw_okq (⟨"CreakingGhostsModel", "across", "(II)I"⟩, 15) := ⟨⟨by decide +kernel, by decide +kernel⟩, List.mem_of_getElem? (i := 709) (by decide +kernel), List.mem_of_getElem? (i := 898) (by decide +kernel), List.mem_of_getElem? (i := 899) (by decide +kernel)⟩
theorem lw_p30 : lw_okq (⟨"CreakingGhostsModel", "creak", "(I)I"⟩, 15) := ⟨⟨by decide +kernel, by decide +kernel⟩, List.mem_of_getElem? (i := 709) (by decide +kernel), List.mem_of_getElem? (i := 902) (by decide +kernel), List.mem_of_getElem? (i := 903) (by decide +kernel)⟩
theorem lw_p31 : lw_okq (⟨"CreakingGhostsModel", "findWay", "(II)V"⟩, 15) := ⟨⟨by decide +kernel, by decide +kernel⟩, List.mem_of_getElem? (i := 709) (by decide +kernel), List.mem_of_getElem? (i := 910) (by decide +kernel), List.mem_of_getElem? (i := 911) (by decide +kernel)⟩
def lw_privs_2 : List (MethodName × Nat) := [(⟨"CreakingGhostsModel", "all", "()I"⟩, 15), (⟨"CreakingGhostsModel", "measure", "(IIZ)V"⟩, 15), (⟨"CreakingGhostsModel", "ofBoard", "(II)I"⟩, 15), (⟨"CreakingGhostsModel", "isSleeper", "(I)Z"⟩, 15), (⟨"CreakingGhostsModel", "loud", "(II)I"⟩, 15), (⟨"CreakingGhostsModel", "ofSleeper", "(II)I"⟩, 15), (⟨"CreakingGhostsModel", "minutes", "(I)I"⟩, 15), (⟨"CreakingGhostsModel", "roomOf", "(I)I"⟩, 15), (⟨"CreakingGhostsModel", "isAt", "(II)Z"⟩, 15), (⟨"CreakingGhostsModel", "isFree", "(II)Z"⟩, 15), (⟨"CreakingGhostsModel", "watched", "()I"⟩, 15), (⟨"CreakingGhostsModel", "hasCrossed", "(II)Z"⟩, 15), (⟨"CreakingGhostsModel", "glides", "(II)I"⟩, 15), (⟨"CreakingGhostsModel", "across", "(II)I"⟩, 15), (⟨"CreakingGhostsModel", "creak", "(I)I"⟩, 15), (⟨"CreakingGhostsModel", "findWay", "(II)V"⟩, 15)]
theorem lw_r2 : ∀ q ∈ lw_privs_2, lw_okq q := List.forall_mem_cons.mpr ⟨lw_p16, List.forall_mem_cons.mpr ⟨lw_p17, List.forall_mem_cons.mpr ⟨lw_p18, List.forall_mem_cons.mpr ⟨lw_p19, List.forall_mem_cons.mpr ⟨lw_p20, List.forall_mem_cons.mpr ⟨lw_p21, List.forall_mem_cons.mpr ⟨lw_p22, List.forall_mem_cons.mpr ⟨lw_p23, List.forall_mem_cons.mpr ⟨lw_p24, List.forall_mem_cons.mpr ⟨lw_p25, List.forall_mem_cons.mpr ⟨lw_p26, List.forall_mem_cons.mpr ⟨lw_p27, List.forall_mem_cons.mpr ⟨lw_p28, List.forall_mem_cons.mpr ⟨lw_p29, List.forall_mem_cons.mpr ⟨lw_p30, List.forall_mem_cons.mpr ⟨lw_p31, fun _ h => absurd h List.not_mem_nil⟩⟩⟩⟩⟩⟩⟩⟩⟩⟩⟩⟩⟩⟩⟩⟩
theorem lw_p32 : lw_okq (⟨"CreakingGhostsModel", "freeTo", "(I)I"⟩, 15) := ⟨⟨by decide +kernel, by decide +kernel⟩, List.mem_of_getElem? (i := 709) (by decide +kernel), List.mem_of_getElem? (i := 914) (by decide +kernel), List.mem_of_getElem? (i := 915) (by decide +kernel)⟩
theorem lw_p33 : lw_okq (⟨"CreakingGhostsModel", "reached", "(II)I"⟩, 15) := ⟨⟨by decide +kernel, by decide +kernel⟩, List.mem_of_getElem? (i := 709) (by decide +kernel), List.mem_of_getElem? (i := 926) (by decide +kernel), List.mem_of_getElem? (i := 927) (by decide +kernel)⟩
theorem lw_p34 : lw_okq (⟨"CreakingGhostsModel", "left", "(I)I"⟩, 15) := ⟨⟨by decide +kernel, by decide +kernel⟩, List.mem_of_getElem? (i := 709) (by decide +kernel), List.mem_of_getElem? (i := 934) (by decide +kernel), List.mem_of_getElem? (i := 935) (by decide +kernel)⟩
theorem lw_p35 : lw_okq (⟨"CreakingGhostsModel", "whyNot", "(II)I"⟩, 15) := ⟨⟨by decide +kernel, by decide +kernel⟩, List.mem_of_getElem? (i := 709) (by decide +kernel), List.mem_of_getElem? (i := 938) (by decide +kernel), List.mem_of_getElem? (i := 939) (by decide +kernel)⟩
theorem lw_p36 : lw_okq (⟨"CreakingGhostsModel", "boardsAt", "(II)I"⟩, 15) := ⟨⟨by decide +kernel, by decide +kernel⟩, List.mem_of_getElem? (i := 709) (by decide +kernel), List.mem_of_getElem? (i := 942) (by decide +kernel), List.mem_of_getElem? (i := 943) (by decide +kernel)⟩
theorem lw_p37 : lw_okq (⟨"CreakingGhostsModel", "pairs", "(I)I"⟩, 15) := ⟨⟨by decide +kernel, by decide +kernel⟩, List.mem_of_getElem? (i := 709) (by decide +kernel), List.mem_of_getElem? (i := 954) (by decide +kernel), List.mem_of_getElem? (i := 955) (by decide +kernel)⟩
theorem lw_p38 : lw_okq (⟨"CreakingGhostsModel", "crossers", "(IZ)I"⟩, 15) := ⟨⟨by decide +kernel, by decide +kernel⟩, List.mem_of_getElem? (i := 709) (by decide +kernel), List.mem_of_getElem? (i := 962) (by decide +kernel), List.mem_of_getElem? (i := 963) (by decide +kernel)⟩
theorem lw_p39 : lw_okq (⟨"CreakingGhostsModel", "awake", "()I"⟩, 15) := ⟨⟨by decide +kernel, by decide +kernel⟩, List.mem_of_getElem? (i := 709) (by decide +kernel), List.mem_of_getElem? (i := 978) (by decide +kernel), List.mem_of_getElem? (i := 979) (by decide +kernel)⟩
theorem lw_p40 : lw_okq (⟨"CreakingGhostsModel", "readPad", "()I"⟩, 15) := ⟨⟨by decide +kernel, by decide +kernel⟩, List.mem_of_getElem? (i := 709) (by decide +kernel), List.mem_of_getElem? (i := 986) (by decide +kernel), List.mem_of_getElem? (i := 987) (by decide +kernel)⟩
theorem lw_p41 : lw_okq (⟨"CreakingGhostsModel", "roomRead", "(I)I"⟩, 15) := ⟨⟨by decide +kernel, by decide +kernel⟩, List.mem_of_getElem? (i := 709) (by decide +kernel), List.mem_of_getElem? (i := 990) (by decide +kernel), List.mem_of_getElem? (i := 991) (by decide +kernel)⟩
theorem lw_p42 : lw_okq (⟨"CreakingGhostsModel", "letter", "()I"⟩, 15) := ⟨⟨by decide +kernel, by decide +kernel⟩, List.mem_of_getElem? (i := 709) (by decide +kernel), List.mem_of_getElem? (i := 994) (by decide +kernel), List.mem_of_getElem? (i := 995) (by decide +kernel)⟩
theorem lw_p43 : lw_okq (⟨"CreakingGhostsModel", "wants", "(Z)V"⟩, 15) := ⟨⟨by decide +kernel, by decide +kernel⟩, List.mem_of_getElem? (i := 709) (by decide +kernel), List.mem_of_getElem? (i := 998) (by decide +kernel), List.mem_of_getElem? (i := 999) (by decide +kernel)⟩
theorem lw_p44 : lw_okq (⟨"CreakingGhostsModel", "digit", "()I"⟩, 15) := ⟨⟨by decide +kernel, by decide +kernel⟩, List.mem_of_getElem? (i := 709) (by decide +kernel), List.mem_of_getElem? (i := 1002) (by decide +kernel), List.mem_of_getElem? (i := 1003) (by decide +kernel)⟩
def lw_privs_3 : List (MethodName × Nat) := [(⟨"CreakingGhostsModel", "freeTo", "(I)I"⟩, 15), (⟨"CreakingGhostsModel", "reached", "(II)I"⟩, 15), (⟨"CreakingGhostsModel", "left", "(I)I"⟩, 15), (⟨"CreakingGhostsModel", "whyNot", "(II)I"⟩, 15), (⟨"CreakingGhostsModel", "boardsAt", "(II)I"⟩, 15), (⟨"CreakingGhostsModel", "pairs", "(I)I"⟩, 15), (⟨"CreakingGhostsModel", "crossers", "(IZ)I"⟩, 15), (⟨"CreakingGhostsModel", "awake", "()I"⟩, 15), (⟨"CreakingGhostsModel", "readPad", "()I"⟩, 15), (⟨"CreakingGhostsModel", "roomRead", "(I)I"⟩, 15), (⟨"CreakingGhostsModel", "letter", "()I"⟩, 15), (⟨"CreakingGhostsModel", "wants", "(Z)V"⟩, 15), (⟨"CreakingGhostsModel", "digit", "()I"⟩, 15)]
theorem lw_r3 : ∀ q ∈ lw_privs_3, lw_okq q := List.forall_mem_cons.mpr ⟨lw_p32, List.forall_mem_cons.mpr ⟨lw_p33, List.forall_mem_cons.mpr ⟨lw_p34, List.forall_mem_cons.mpr ⟨lw_p35, List.forall_mem_cons.mpr ⟨lw_p36, List.forall_mem_cons.mpr ⟨lw_p37, List.forall_mem_cons.mpr ⟨lw_p38, List.forall_mem_cons.mpr ⟨lw_p39, List.forall_mem_cons.mpr ⟨lw_p40, List.forall_mem_cons.mpr ⟨lw_p41, List.forall_mem_cons.mpr ⟨lw_p42, List.forall_mem_cons.mpr ⟨lw_p43, List.forall_mem_cons.mpr ⟨lw_p44, fun _ h => absurd h List.not_mem_nil⟩⟩⟩⟩⟩⟩⟩⟩⟩⟩⟩⟩⟩
def lw_privs : List (MethodName × Nat) := lw_privs_1 ++ (lw_privs_2 ++ (lw_privs_3))
def lw_tbl : List Cond := k2_sels lw_privs ++ tables_1
theorem lw_privs_ok : ∀ q ∈ lw_privs, lw_okq q := by
  show ∀ q ∈ lw_privs_1 ++ (lw_privs_2 ++ (lw_privs_3)), lw_okq q
  exact List.forall_mem_append.mpr ⟨lw_r1, List.forall_mem_append.mpr ⟨lw_r2, lw_r3⟩⟩
end
section
def RX0 : String := "CreakingGhosts$Attic"
def TX0 : u_T := fun k => match k with
  | 0 => ("CreakingGhosts$Attic", "minutes", "I", false)
  | 1 => ("CreakingGhosts$Attic", "bells", "I", false)
  | 2 => ("CreakingGhosts$Attic", "settings", "LCreakingGhosts$Row;", true)
  | 3 => ("CreakingGhosts$Attic", "boards", "LCreakingGhosts$Boards;", true)
  | 4 => ("CreakingGhosts$Attic", "ghosts", "LCreakingGhosts$Ghosts;", true)
  | _ => ("CreakingGhosts$Attic", "sleepers", "LCreakingGhosts$Sleepers;", true)
def tyX0 : Nat → FieldType := fun k => match k with
  | 0 => .int
  | 1 => .int
  | 2 => .object "CreakingGhosts$Row"
  | 3 => .object "CreakingGhosts$Boards"
  | 4 => .object "CreakingGhosts$Ghosts"
  | _ => .object "CreakingGhosts$Sleepers"
abbrev wsX00 : List Cond := u_ws RX0 TX0 6
theorem nmX0 : ∀ a, a < 6 → ∀ b, b < 6 → a ≠ b → (TX0 a).2.1 ≠ (TX0 b).2.1 := by decide +kernel
theorem tyX0_ok : ∀ k, k < 6 → parseFieldDescriptor (TX0 k).2.2.1 = some (tyX0 k) := by decide +kernel
abbrev cX0_init : ByteArray := prog_2_method_1_code
def yX0_init : MethodName := ⟨RX0, "<init>", "()V"⟩
abbrev cX0_copyFrom : ByteArray := prog_2_method_2_code
def yX0_copyFrom : MethodName := ⟨RX0, "copyFrom", "(LCreakingGhosts$Attic;)V"⟩
abbrev cX0_minutesBetweenBells : ByteArray := prog_2_method_3_code
def yX0_minutesBetweenBells : MethodName := ⟨RX0, "minutesBetweenBells", "()I"⟩
abbrev cX0_minutesToBell : ByteArray := prog_2_method_4_code
def yX0_minutesToBell : MethodName := ⟨RX0, "minutesToBell", "()I"⟩
abbrev cX0_leftTo : ByteArray := prog_2_method_5_code
def yX0_leftTo : MethodName := ⟨RX0, "leftTo", "(I)I"⟩
abbrev cX0_freeTo : ByteArray := prog_2_method_6_code
def yX0_freeTo : MethodName := ⟨RX0, "freeTo", "(I)I"⟩
abbrev cX0_freeAtRoomOf : ByteArray := prog_2_method_7_code
def yX0_freeAtRoomOf : MethodName := ⟨RX0, "freeAtRoomOf", "(I)I"⟩
abbrev cX0_ghostsFreeFor : ByteArray := prog_2_method_8_code
def yX0_ghostsFreeFor : MethodName := ⟨RX0, "ghostsFreeFor", "(I)I"⟩
abbrev cX0_wakes : ByteArray := prog_2_method_9_code
def yX0_wakes : MethodName := ⟨RX0, "wakes", "(II)Z"⟩
abbrev cX0_boardsThatWake : ByteArray := prog_2_method_10_code
def yX0_boardsThatWake : MethodName := ⟨RX0, "boardsThatWake", "(I)I"⟩
abbrev cX0_letCreak : ByteArray := prog_2_method_11_code
def yX0_letCreak : MethodName := ⟨RX0, "letCreak", "(I)I"⟩
abbrev cX0_letPass : ByteArray := prog_2_method_12_code
def yX0_letPass : MethodName := ⟨RX0, "letPass", "(I)I"⟩
abbrev cX0_letGlide : ByteArray := prog_2_method_13_code
def yX0_letGlide : MethodName := ⟨RX0, "letGlide", "(II)I"⟩
def RX1 : String := "CreakingGhosts$Boards"
def TX1 : u_T := fun k => match k with
  | 0 => ("CreakingGhosts$Boards", "laid", "I", false)
  | 1 => ("CreakingGhosts$Boards", "lower", "LCreakingGhosts$Row;", true)
  | 2 => ("CreakingGhosts$Boards", "greater", "LCreakingGhosts$Row;", true)
  | 3 => ("CreakingGhosts$Boards", "creak", "LCreakingGhosts$Row;", true)
  | 4 => ("CreakingGhosts$Boards", "minutes", "LCreakingGhosts$Row;", true)
  | _ => ("CreakingGhosts$Boards", "creaked", "LCreakingGhosts$Row;", true)
def tyX1 : Nat → FieldType := fun k => match k with
  | 0 => .int
  | 1 => .object "CreakingGhosts$Row"
  | 2 => .object "CreakingGhosts$Row"
  | 3 => .object "CreakingGhosts$Row"
  | 4 => .object "CreakingGhosts$Row"
  | _ => .object "CreakingGhosts$Row"
abbrev wsX10 : List Cond := u_ws RX1 TX1 6
theorem nmX1 : ∀ a, a < 6 → ∀ b, b < 6 → a ≠ b → (TX1 a).2.1 ≠ (TX1 b).2.1 := by decide +kernel
theorem tyX1_ok : ∀ k, k < 6 → parseFieldDescriptor (TX1 k).2.2.1 = some (tyX1 k) := by decide +kernel
abbrev cX1_init : ByteArray := prog_3_method_1_code
def yX1_init : MethodName := ⟨RX1, "<init>", "()V"⟩
abbrev cX1_copyFrom : ByteArray := prog_3_method_2_code
def yX1_copyFrom : MethodName := ⟨RX1, "copyFrom", "(LCreakingGhosts$Boards;)V"⟩
abbrev cX1_has : ByteArray := prog_3_method_3_code
def yX1_has : MethodName := ⟨RX1, "has", "(I)Z"⟩
abbrev cX1_append : ByteArray := prog_3_method_4_code
def yX1_append : MethodName := ⟨RX1, "append", "(IIII)V"⟩
abbrev cX1_remove : ByteArray := prog_3_method_5_code
def yX1_remove : MethodName := ⟨RX1, "remove", "(I)V"⟩
abbrev cX1_all : ByteArray := prog_3_method_6_code
def yX1_all : MethodName := ⟨RX1, "all", "()I"⟩
abbrev cX1_ends : ByteArray := prog_3_method_7_code
def yX1_ends : MethodName := ⟨RX1, "ends", "(I)I"⟩
abbrev cX1_beyond : ByteArray := prog_3_method_8_code
def yX1_beyond : MethodName := ⟨RX1, "beyond", "(II)I"⟩
abbrev cX1_touching : ByteArray := prog_3_method_9_code
def yX1_touching : MethodName := ⟨RX1, "touching", "(I)I"⟩
abbrev cX1_atMostAsLoud : ByteArray := prog_3_method_10_code
def yX1_atMostAsLoud : MethodName := ⟨RX1, "atMostAsLoud", "(I)I"⟩
abbrev cX1_widened : ByteArray := prog_3_method_11_code
def yX1_widened : MethodName := ⟨RX1, "widened", "(II)I"⟩
abbrev cX1_roomsFrom : ByteArray := prog_3_method_12_code
def yX1_roomsFrom : MethodName := ⟨RX1, "roomsFrom", "(II)I"⟩
abbrev cX1_fewestTo : ByteArray := prog_3_method_13_code
def yX1_fewestTo : MethodName := ⟨RX1, "fewestTo", "(II)I"⟩
abbrev cX1_loudnessIn : ByteArray := prog_3_method_14_code
def yX1_loudnessIn : MethodName := ⟨RX1, "loudnessIn", "(II)I"⟩
abbrev cX1_pairsApartWithout : ByteArray := prog_3_method_15_code
def yX1_pairsApartWithout : MethodName := ⟨RX1, "pairsApartWithout", "(I)I"⟩
def RX2 : String := "CreakingGhosts$Ghosts"
def TX2 : u_T := fun k => match k with
  | 0 => ("CreakingGhosts$Ghosts", "room", "LCreakingGhosts$Row;", true)
  | 1 => ("CreakingGhosts$Ghosts", "crossed", "LCreakingGhosts$Row;", true)
  | _ => ("CreakingGhosts$Ghosts", "crossings", "LCreakingGhosts$Row;", true)
def tyX2 : Nat → FieldType := fun k => match k with
  | 0 => .object "CreakingGhosts$Row"
  | 1 => .object "CreakingGhosts$Row"
  | _ => .object "CreakingGhosts$Row"
abbrev wsX20 : List Cond := u_ws RX2 TX2 3
theorem nmX2 : ∀ a, a < 3 → ∀ b, b < 3 → a ≠ b → (TX2 a).2.1 ≠ (TX2 b).2.1 := by decide +kernel
theorem tyX2_ok : ∀ k, k < 3 → parseFieldDescriptor (TX2 k).2.2.1 = some (tyX2 k) := by decide +kernel
abbrev cX2_init : ByteArray := prog_4_method_1_code
def yX2_init : MethodName := ⟨RX2, "<init>", "()V"⟩
abbrev cX2_copyFrom : ByteArray := prog_4_method_2_code
def yX2_copyFrom : MethodName := ⟨RX2, "copyFrom", "(LCreakingGhosts$Ghosts;)V"⟩
abbrev cX2_whoCrossed : ByteArray := prog_4_method_3_code
def yX2_whoCrossed : MethodName := ⟨RX2, "whoCrossed", "(I)I"⟩
abbrev cX2_cross : ByteArray := prog_4_method_4_code
def yX2_cross : MethodName := ⟨RX2, "cross", "(III)V"⟩
abbrev cX2_forgetBoard : ByteArray := prog_4_method_5_code
def yX2_forgetBoard : MethodName := ⟨RX2, "forgetBoard", "(I)V"⟩
def RX3 : String := "CreakingGhosts$History"
def TX3 : u_T := fun k => match k with
  | 0 => ("CreakingGhosts$History", "states", "LCreakingGhosts$Shelf;", true)
  | 1 => ("CreakingGhosts$History", "next", "I", false)
  | _ => ("CreakingGhosts$History", "kept", "I", false)
def tyX3 : Nat → FieldType := fun k => match k with
  | 0 => .object "CreakingGhosts$Shelf"
  | 1 => .int
  | _ => .int
abbrev wsX30 : List Cond := u_ws RX3 TX3 3
theorem nmX3 : ∀ a, a < 3 → ∀ b, b < 3 → a ≠ b → (TX3 a).2.1 ≠ (TX3 b).2.1 := by decide +kernel
theorem tyX3_ok : ∀ k, k < 3 → parseFieldDescriptor (TX3 k).2.2.1 = some (tyX3 k) := by decide +kernel
abbrev cX3_init : ByteArray := prog_5_method_1_code
def yX3_init : MethodName := ⟨RX3, "<init>", "()V"⟩
abbrev cX3_record : ByteArray := prog_5_method_2_code
def yX3_record : MethodName := ⟨RX3, "record", "(LCreakingGhosts$Attic;)V"⟩
abbrev cX3_stepBack : ByteArray := prog_5_method_3_code
def yX3_stepBack : MethodName := ⟨RX3, "stepBack", "(LCreakingGhosts$Attic;)V"⟩
def RX4 : String := "CreakingGhosts$Pad"
def TX4 : u_T := fun k => match k with
  | 0 => ("CreakingGhosts$Pad", "length", "I", false)
  | _ => ("CreakingGhosts$Pad", "signs", "LCreakingGhosts$Row;", true)
def tyX4 : Nat → FieldType := fun k => match k with
  | 0 => .int
  | _ => .object "CreakingGhosts$Row"
abbrev wsX40 : List Cond := u_ws RX4 TX4 2
theorem nmX4 : ∀ a, a < 2 → ∀ b, b < 2 → a ≠ b → (TX4 a).2.1 ≠ (TX4 b).2.1 := by decide +kernel
theorem tyX4_ok : ∀ k, k < 2 → parseFieldDescriptor (TX4 k).2.2.1 = some (tyX4 k) := by decide +kernel
abbrev cX4_init : ByteArray := prog_6_method_1_code
def yX4_init : MethodName := ⟨RX4, "<init>", "()V"⟩
abbrev cX4_howMany : ByteArray := prog_6_method_2_code
def yX4_howMany : MethodName := ⟨RX4, "howMany", "(J)I"⟩
abbrev cX4_signAt : ByteArray := prog_6_method_3_code
def yX4_signAt : MethodName := ⟨RX4, "signAt", "(JI)I"⟩
abbrev cX4_append : ByteArray := prog_6_method_4_code
def yX4_append : MethodName := ⟨RX4, "append", "(JI)V"⟩
abbrev cX4_firstFault : ByteArray := prog_6_method_5_code
def yX4_firstFault : MethodName := ⟨RX4, "firstFault", "()I"⟩
abbrev cX4_canStand : ByteArray := prog_6_method_6_code
def yX4_canStand : MethodName := ⟨RX4, "canStand", "(I)Z"⟩
abbrev cX4_isLetter : ByteArray := prog_6_method_7_code
def yX4_isLetter : MethodName := ⟨RX4, "isLetter", "(I)Z"⟩
abbrev cX4_boardsInText : ByteArray := prog_6_method_8_code
def yX4_boardsInText : MethodName := ⟨RX4, "boardsInText", "()I"⟩
abbrev cX4_layAllInto : ByteArray := prog_6_method_9_code
def yX4_layAllInto : MethodName := ⟨RX4, "layAllInto", "(LCreakingGhosts$Boards;)V"⟩
def RX5 : String := "CreakingGhosts$Row"
def TX5 : u_T := fun k => match k with
  | _ => ("CreakingGhosts$Row", "cells", "[I", true)
def tyX5 : Nat → FieldType := fun k => match k with
  | _ => .array .int
abbrev wsX50 : List Cond := u_ws RX5 TX5 1
theorem nmX5 : ∀ a, a < 1 → ∀ b, b < 1 → a ≠ b → (TX5 a).2.1 ≠ (TX5 b).2.1 := by decide +kernel
theorem tyX5_ok : ∀ k, k < 1 → parseFieldDescriptor (TX5 k).2.2.1 = some (tyX5 k) := by decide +kernel
abbrev cX5_init : ByteArray := prog_7_method_1_code
def yX5_init : MethodName := ⟨RX5, "<init>", "(I)V"⟩
abbrev cX5_reaches : ByteArray := prog_7_method_2_code
def yX5_reaches : MethodName := ⟨RX5, "reaches", "(I)Z"⟩
abbrev cX5_at : ByteArray := prog_7_method_3_code
def yX5_at : MethodName := ⟨RX5, "at", "(I)I"⟩
abbrev cX5_store : ByteArray := prog_7_method_4_code
def yX5_store : MethodName := ⟨RX5, "store", "(II)V"⟩
abbrev cX5_increase : ByteArray := prog_7_method_5_code
def yX5_increase : MethodName := ⟨RX5, "increase", "(I)V"⟩
abbrev cX5_fill : ByteArray := prog_7_method_6_code
def yX5_fill : MethodName := ⟨RX5, "fill", "(I)V"⟩
abbrev cX5_moveUpBehind : ByteArray := prog_7_method_7_code
def yX5_moveUpBehind : MethodName := ⟨RX5, "moveUpBehind", "(I)V"⟩
abbrev cX5_copyFrom : ByteArray := prog_7_method_8_code
def yX5_copyFrom : MethodName := ⟨RX5, "copyFrom", "(LCreakingGhosts$Row;)V"⟩
def RX6 : String := "CreakingGhosts$Shelf"
def TX6 : u_T := fun k => match k with
  | _ => ("CreakingGhosts$Shelf", "copies", "[LCreakingGhosts$Attic;", true)
def tyX6 : Nat → FieldType := fun k => match k with
  | _ => .array (.object "CreakingGhosts$Attic")
abbrev wsX60 : List Cond := u_ws RX6 TX6 1
theorem nmX6 : ∀ a, a < 1 → ∀ b, b < 1 → a ≠ b → (TX6 a).2.1 ≠ (TX6 b).2.1 := by decide +kernel
theorem tyX6_ok : ∀ k, k < 1 → parseFieldDescriptor (TX6 k).2.2.1 = some (tyX6 k) := by decide +kernel
abbrev cX6_init : ByteArray := prog_8_method_1_code
def yX6_init : MethodName := ⟨RX6, "<init>", "(I)V"⟩
abbrev cX6_has : ByteArray := prog_8_method_2_code
def yX6_has : MethodName := ⟨RX6, "has", "(I)Z"⟩
abbrev cX6_keep : ByteArray := prog_8_method_3_code
def yX6_keep : MethodName := ⟨RX6, "keep", "(ILCreakingGhosts$Attic;)V"⟩
abbrev cX6_fetch : ByteArray := prog_8_method_4_code
def yX6_fetch : MethodName := ⟨RX6, "fetch", "(ILCreakingGhosts$Attic;)V"⟩
def RX7 : String := "CreakingGhosts$Sleepers"
def TX7 : u_T := fun k => match k with
  | 0 => ("CreakingGhosts$Sleepers", "come", "I", false)
  | 1 => ("CreakingGhosts$Sleepers", "room", "LCreakingGhosts$Row;", true)
  | 2 => ("CreakingGhosts$Sleepers", "ear", "LCreakingGhosts$Row;", true)
  | 3 => ("CreakingGhosts$Sleepers", "awake", "LCreakingGhosts$Row;", true)
  | _ => ("CreakingGhosts$Sleepers", "woke", "LCreakingGhosts$Row;", true)
def tyX7 : Nat → FieldType := fun k => match k with
  | 0 => .int
  | 1 => .object "CreakingGhosts$Row"
  | 2 => .object "CreakingGhosts$Row"
  | 3 => .object "CreakingGhosts$Row"
  | _ => .object "CreakingGhosts$Row"
abbrev wsX70 : List Cond := u_ws RX7 TX7 5
theorem nmX7 : ∀ a, a < 5 → ∀ b, b < 5 → a ≠ b → (TX7 a).2.1 ≠ (TX7 b).2.1 := by decide +kernel
theorem tyX7_ok : ∀ k, k < 5 → parseFieldDescriptor (TX7 k).2.2.1 = some (tyX7 k) := by decide +kernel
abbrev cX7_init : ByteArray := prog_9_method_1_code
def yX7_init : MethodName := ⟨RX7, "<init>", "()V"⟩
abbrev cX7_copyFrom : ByteArray := prog_9_method_2_code
def yX7_copyFrom : MethodName := ⟨RX7, "copyFrom", "(LCreakingGhosts$Sleepers;)V"⟩
abbrev cX7_has : ByteArray := prog_9_method_3_code
def yX7_has : MethodName := ⟨RX7, "has", "(I)Z"⟩
abbrev cX7_append : ByteArray := prog_9_method_4_code
def yX7_append : MethodName := ⟨RX7, "append", "(II)V"⟩
abbrev cX7_whoAreAwake : ByteArray := prog_9_method_5_code
def yX7_whoAreAwake : MethodName := ⟨RX7, "whoAreAwake", "()I"⟩
abbrev cX7_watchedRooms : ByteArray := prog_9_method_6_code
def yX7_watchedRooms : MethodName := ⟨RX7, "watchedRooms", "()I"⟩
abbrev cX7_wake : ByteArray := prog_9_method_7_code
def yX7_wake : MethodName := ⟨RX7, "wake", "(II)V"⟩
abbrev cX7_tire : ByteArray := prog_9_method_8_code
def yX7_tire : MethodName := ⟨RX7, "tire", "(I)V"⟩
def RX8 : String := "CreakingGhosts$Trail"
def TX8 : u_T := fun k => match k with
  | _ => ("", "", "", false)
def tyX8 : Nat → FieldType := fun k => match k with
  | _ => .int
abbrev wsX80 : List Cond := u_ws RX8 TX8 0
theorem nmX8 : ∀ a, a < 0 → ∀ b, b < 0 → a ≠ b → (TX8 a).2.1 ≠ (TX8 b).2.1 := by decide +kernel
theorem tyX8_ok : ∀ k, k < 0 → parseFieldDescriptor (TX8 k).2.2.1 = some (tyX8 k) := by decide +kernel
abbrev cX8_whyNot : ByteArray := prog_10_method_2_code
def yX8_whyNot : MethodName := ⟨RX8, "whyNot", "(LCreakingGhosts$Boards;II)I"⟩
abbrev cX8_boardAt : ByteArray := prog_10_method_3_code
def yX8_boardAt : MethodName := ⟨RX8, "boardAt", "(LCreakingGhosts$Boards;III)I"⟩
abbrev cX8_firstBoard : ByteArray := prog_10_method_4_code
def yX8_firstBoard : MethodName := ⟨RX8, "firstBoard", "(LCreakingGhosts$Boards;II)I"⟩
def RX9 : String := "CreakingGhosts$Way"
def TX9 : u_T := fun k => match k with
  | 0 => ("CreakingGhosts$Way", "costs", "LCreakingGhosts$Row;", true)
  | 1 => ("CreakingGhosts$Way", "steps", "LCreakingGhosts$Row;", true)
  | 2 => ("CreakingGhosts$Way", "found", "Z", false)
  | 3 => ("CreakingGhosts$Way", "minutes", "I", false)
  | _ => ("CreakingGhosts$Way", "length", "I", false)
def tyX9 : Nat → FieldType := fun k => match k with
  | 0 => .object "CreakingGhosts$Row"
  | 1 => .object "CreakingGhosts$Row"
  | 2 => .boolean
  | 3 => .int
  | _ => .int
abbrev wsX90 : List Cond := u_ws RX9 TX9 5
theorem nmX9 : ∀ a, a < 5 → ∀ b, b < 5 → a ≠ b → (TX9 a).2.1 ≠ (TX9 b).2.1 := by decide +kernel
theorem tyX9_ok : ∀ k, k < 5 → parseFieldDescriptor (TX9 k).2.2.1 = some (tyX9 k) := by decide +kernel
abbrev cX9_init : ByteArray := prog_11_method_1_code
def yX9_init : MethodName := ⟨RX9, "<init>", "()V"⟩
abbrev cX9_find : ByteArray := prog_11_method_2_code
def yX9_find : MethodName := ⟨RX9, "find", "(LCreakingGhosts$Boards;III)V"⟩
abbrev cX9_weigh : ByteArray := prog_11_method_3_code
def yX9_weigh : MethodName := ⟨RX9, "weigh", "(LCreakingGhosts$Boards;II)V"⟩
abbrev cX9_lowerCosts : ByteArray := prog_11_method_4_code
def yX9_lowerCosts : MethodName := ⟨RX9, "lowerCosts", "(LCreakingGhosts$Boards;I)Z"⟩
abbrev cX9_priceOf : ByteArray := prog_11_method_5_code
def yX9_priceOf : MethodName := ⟨RX9, "priceOf", "(LCreakingGhosts$Boards;I)I"⟩
abbrev cX9_firstStep : ByteArray := prog_11_method_6_code
def yX9_firstStep : MethodName := ⟨RX9, "firstStep", "(LCreakingGhosts$Boards;II)I"⟩
def RX10 : String := "CreakingGhosts"
def TX10 : u_T := fun k => match k with
  | 0 => ("CreakingGhosts", "attic", "LCreakingGhosts$Attic;", true)
  | 1 => ("CreakingGhosts", "pad", "LCreakingGhosts$Pad;", true)
  | 2 => ("CreakingGhosts", "history", "LCreakingGhosts$History;", true)
  | 3 => ("CreakingGhosts", "slots", "LCreakingGhosts$Shelf;", true)
  | 4 => ("CreakingGhosts", "savedSlots", "I", false)
  | _ => ("CreakingGhosts", "way", "LCreakingGhosts$Way;", true)
def tyX10 : Nat → FieldType := fun k => match k with
  | 0 => .object "CreakingGhosts$Attic"
  | 1 => .object "CreakingGhosts$Pad"
  | 2 => .object "CreakingGhosts$History"
  | 3 => .object "CreakingGhosts$Shelf"
  | 4 => .int
  | _ => .object "CreakingGhosts$Way"
abbrev wsX100 : List Cond := u_ws RX10 TX10 6
theorem nmX10 : ∀ a, a < 6 → ∀ b, b < 6 → a ≠ b → (TX10 a).2.1 ≠ (TX10 b).2.1 := by decide +kernel
theorem tyX10_ok : ∀ k, k < 6 → parseFieldDescriptor (TX10 k).2.2.1 = some (tyX10 k) := by decide +kernel
abbrev cX10_init : ByteArray := prog_1_method_1_code
def yX10_init : MethodName := ⟨RX10, "<init>", "()V"⟩
abbrev cX10_set : ByteArray := prog_1_method_2_code
def yX10_set : MethodName := ⟨RX10, "set", "(II)I"⟩
abbrev cX10_lay : ByteArray := prog_1_method_3_code
def yX10_lay : MethodName := ⟨RX10, "lay", "(IIII)I"⟩
abbrev cX10_read : ByteArray := prog_1_method_4_code
def yX10_read : MethodName := ⟨RX10, "read", "()I"⟩
abbrev cX10_takeUp : ByteArray := prog_1_method_5_code
def yX10_takeUp : MethodName := ⟨RX10, "takeUp", "(I)I"⟩
abbrev cX10_sleeper : ByteArray := prog_1_method_6_code
def yX10_sleeper : MethodName := ⟨RX10, "sleeper", "(II)I"⟩
abbrev cX10_put : ByteArray := prog_1_method_7_code
def yX10_put : MethodName := ⟨RX10, "put", "(II)I"⟩
abbrev cX10_glide : ByteArray := prog_1_method_8_code
def yX10_glide : MethodName := ⟨RX10, "glide", "(II)I"⟩
abbrev cX10_go : ByteArray := prog_1_method_9_code
def yX10_go : MethodName := ⟨RX10, "go", "(II)I"⟩
abbrev cX10_pass : ByteArray := prog_1_method_10_code
def yX10_pass : MethodName := ⟨RX10, "pass", "(I)I"⟩
abbrev cX10_board : ByteArray := prog_1_method_11_code
def yX10_board : MethodName := ⟨RX10, "board", "(II)I"⟩
abbrev cX10_ghost : ByteArray := prog_1_method_12_code
def yX10_ghost : MethodName := ⟨RX10, "ghost", "(II)I"⟩
abbrev cX10_sleeperOf : ByteArray := prog_1_method_13_code
def yX10_sleeperOf : MethodName := ⟨RX10, "sleeperOf", "(II)I"⟩
abbrev cX10_loudness : ByteArray := prog_1_method_14_code
def yX10_loudness : MethodName := ⟨RX10, "loudness", "(II)I"⟩
abbrev cX10_far : ByteArray := prog_1_method_15_code
def yX10_far : MethodName := ⟨RX10, "far", "(II)I"⟩
abbrev cX10_count : ByteArray := prog_1_method_16_code
def yX10_count : MethodName := ⟨RX10, "count", "(I)I"⟩
abbrev cX10_soonest : ByteArray := prog_1_method_17_code
def yX10_soonest : MethodName := ⟨RX10, "soonest", "(III)I"⟩
abbrev cX10_quietest : ByteArray := prog_1_method_18_code
def yX10_quietest : MethodName := ⟨RX10, "quietest", "(II)I"⟩
abbrev cX10_reason : ByteArray := prog_1_method_19_code
def yX10_reason : MethodName := ⟨RX10, "reason", "(I)I"⟩
abbrev cX10_trail : ByteArray := prog_1_method_20_code
def yX10_trail : MethodName := ⟨RX10, "trail", "(II)I"⟩
abbrev cX10_worstGap : ByteArray := prog_1_method_21_code
def yX10_worstGap : MethodName := ⟨RX10, "worstGap", "(I)I"⟩
abbrev cX10_write : ByteArray := prog_1_method_22_code
def yX10_write : MethodName := ⟨RX10, "write", "(J)I"⟩
abbrev cX10_wipe : ByteArray := prog_1_method_23_code
def yX10_wipe : MethodName := ⟨RX10, "wipe", "()I"⟩
abbrev cX10_fault : ByteArray := prog_1_method_24_code
def yX10_fault : MethodName := ⟨RX10, "fault", "()I"⟩
abbrev cX10_undo : ByteArray := prog_1_method_25_code
def yX10_undo : MethodName := ⟨RX10, "undo", "()I"⟩
abbrev cX10_save : ByteArray := prog_1_method_26_code
def yX10_save : MethodName := ⟨RX10, "save", "(I)I"⟩
abbrev cX10_restore : ByteArray := prog_1_method_27_code
def yX10_restore : MethodName := ⟨RX10, "restore", "(I)I"⟩
abbrev cX10_findWay : ByteArray := prog_1_method_28_code
def yX10_findWay : MethodName := ⟨RX10, "findWay", "(II)V"⟩
abbrev cX10_isWithin : ByteArray := prog_1_method_29_code
def yX10_isWithin : MethodName := ⟨RX10, "isWithin", "(III)Z"⟩
abbrev cX10_isSetting : ByteArray := prog_1_method_30_code
def yX10_isSetting : MethodName := ⟨RX10, "isSetting", "(II)Z"⟩
abbrev cX10_isRoom : ByteArray := prog_1_method_31_code
def yX10_isRoom : MethodName := ⟨RX10, "isRoom", "(I)Z"⟩
abbrev cX10_isGhost : ByteArray := prog_1_method_32_code
def yX10_isGhost : MethodName := ⟨RX10, "isGhost", "(I)Z"⟩
abbrev cX10_isSlot : ByteArray := prog_1_method_33_code
def yX10_isSlot : MethodName := ⟨RX10, "isSlot", "(I)Z"⟩
abbrev cX10_holds : ByteArray := prog_1_method_34_code
def yX10_holds : MethodName := ⟨RX10, "holds", "(II)Z"⟩
def RX11 : String := "CreakingGhostsModel"
def TX11 : u_T := fun k => match k with
  | 0 => ("CreakingGhostsModel", "z", "[I", true)
  | 1 => ("CreakingGhostsModel", "past", "[I", true)
  | 2 => ("CreakingGhostsModel", "pastMany", "I", false)
  | 3 => ("CreakingGhostsModel", "slots", "[I", true)
  | 4 => ("CreakingGhostsModel", "isSaved", "[Z", true)
  | 5 => ("CreakingGhostsModel", "pad", "[C", true)
  | 6 => ("CreakingGhostsModel", "typed", "I", false)
  | 7 => ("CreakingGhostsModel", "fars", "[I", true)
  | 8 => ("CreakingGhostsModel", "way", "[I", true)
  | 9 => ("CreakingGhostsModel", "wayMany", "I", false)
  | 10 => ("CreakingGhostsModel", "wayMinutes", "I", false)
  | 11 => ("CreakingGhostsModel", "told", "[I", true)
  | 12 => ("CreakingGhostsModel", "toldMany", "I", false)
  | 13 => ("CreakingGhostsModel", "spot", "I", false)
  | _ => ("CreakingGhostsModel", "wrong", "I", false)
def tyX11 : Nat → FieldType := fun k => match k with
  | 0 => .array .int
  | 1 => .array .int
  | 2 => .int
  | 3 => .array .int
  | 4 => .array .boolean
  | 5 => .array .char
  | 6 => .int
  | 7 => .array .int
  | 8 => .array .int
  | 9 => .int
  | 10 => .int
  | 11 => .array .int
  | 12 => .int
  | 13 => .int
  | _ => .int
abbrev wsX110 : List Cond := u_ws RX11 TX11 15
theorem nmX11 : ∀ a, a < 15 → ∀ b, b < 15 → a ≠ b → (TX11 a).2.1 ≠ (TX11 b).2.1 := by decide +kernel
theorem tyX11_ok : ∀ k, k < 15 → parseFieldDescriptor (TX11 k).2.2.1 = some (tyX11 k) := by decide +kernel
abbrev cX11_init : ByteArray := prog_13_method_1_code
def yX11_init : MethodName := ⟨RX11, "<init>", "()V"⟩
abbrev cX11_in : ByteArray := prog_13_method_2_code
def yX11_in : MethodName := ⟨RX11, "in", "(III)Z"⟩
abbrev cX11_isRoom : ByteArray := prog_13_method_3_code
def yX11_isRoom : MethodName := ⟨RX11, "isRoom", "(I)Z"⟩
abbrev cX11_isGhost : ByteArray := prog_13_method_4_code
def yX11_isGhost : MethodName := ⟨RX11, "isGhost", "(I)Z"⟩
abbrev cX11_isBoard : ByteArray := prog_13_method_5_code
def yX11_isBoard : MethodName := ⟨RX11, "isBoard", "(I)Z"⟩
abbrev cX11_isSleeper : ByteArray := prog_13_method_6_code
def yX11_isSleeper : MethodName := ⟨RX11, "isSleeper", "(I)Z"⟩
abbrev cX11_ofBoard : ByteArray := prog_13_method_7_code
def yX11_ofBoard : MethodName := ⟨RX11, "ofBoard", "(II)I"⟩
abbrev cX11_ofGhost : ByteArray := prog_13_method_8_code
def yX11_ofGhost : MethodName := ⟨RX11, "ofGhost", "(II)I"⟩
abbrev cX11_ofSleeper : ByteArray := prog_13_method_9_code
def yX11_ofSleeper : MethodName := ⟨RX11, "ofSleeper", "(II)I"⟩
abbrev cX11_roomOf : ByteArray := prog_13_method_10_code
def yX11_roomOf : MethodName := ⟨RX11, "roomOf", "(I)I"⟩
abbrev cX11_hasCrossed : ByteArray := prog_13_method_11_code
def yX11_hasCrossed : MethodName := ⟨RX11, "hasCrossed", "(II)Z"⟩
abbrev cX11_record : ByteArray := prog_13_method_12_code
def yX11_record : MethodName := ⟨RX11, "record", "()V"⟩
abbrev cX11_undo : ByteArray := prog_13_method_13_code
def yX11_undo : MethodName := ⟨RX11, "undo", "()I"⟩
abbrev cX11_save : ByteArray := prog_13_method_14_code
def yX11_save : MethodName := ⟨RX11, "save", "(I)I"⟩
abbrev cX11_restore : ByteArray := prog_13_method_15_code
def yX11_restore : MethodName := ⟨RX11, "restore", "(I)I"⟩
abbrev cX11_set : ByteArray := prog_13_method_16_code
def yX11_set : MethodName := ⟨RX11, "set", "(II)I"⟩
abbrev cX11_whyNotLay : ByteArray := prog_13_method_17_code
def yX11_whyNotLay : MethodName := ⟨RX11, "whyNotLay", "(IIII)I"⟩
abbrev cX11_lies : ByteArray := prog_13_method_18_code
def yX11_lies : MethodName := ⟨RX11, "lies", "(IIII)I"⟩
abbrev cX11_lay : ByteArray := prog_13_method_19_code
def yX11_lay : MethodName := ⟨RX11, "lay", "(IIII)I"⟩
abbrev cX11_takeUp : ByteArray := prog_13_method_20_code
def yX11_takeUp : MethodName := ⟨RX11, "takeUp", "(I)I"⟩
abbrev cX11_isAt : ByteArray := prog_13_method_21_code
def yX11_isAt : MethodName := ⟨RX11, "isAt", "(II)Z"⟩
abbrev cX11_across : ByteArray := prog_13_method_22_code
def yX11_across : MethodName := ⟨RX11, "across", "(II)I"⟩
abbrev cX11_measure : ByteArray := prog_13_method_23_code
def yX11_measure : MethodName := ⟨RX11, "measure", "(IIZ)V"⟩
abbrev cX11_all : ByteArray := prog_13_method_24_code
def yX11_all : MethodName := ⟨RX11, "all", "()I"⟩
abbrev cX11_farOf : ByteArray := prog_13_method_25_code
def yX11_farOf : MethodName := ⟨RX11, "farOf", "(II)I"⟩
abbrev cX11_far : ByteArray := prog_13_method_26_code
def yX11_far : MethodName := ⟨RX11, "far", "(II)I"⟩
abbrev cX11_loud : ByteArray := prog_13_method_27_code
def yX11_loud : MethodName := ⟨RX11, "loud", "(II)I"⟩
abbrev cX11_loudness : ByteArray := prog_13_method_28_code
def yX11_loudness : MethodName := ⟨RX11, "loudness", "(II)I"⟩
abbrev cX11_sleeper : ByteArray := prog_13_method_29_code
def yX11_sleeper : MethodName := ⟨RX11, "sleeper", "(II)I"⟩
abbrev cX11_watched : ByteArray := prog_13_method_30_code
def yX11_watched : MethodName := ⟨RX11, "watched", "()I"⟩
abbrev cX11_isFree : ByteArray := prog_13_method_31_code
def yX11_isFree : MethodName := ⟨RX11, "isFree", "(II)Z"⟩
abbrev cX11_freeTo : ByteArray := prog_13_method_32_code
def yX11_freeTo : MethodName := ⟨RX11, "freeTo", "(I)I"⟩
abbrev cX11_creak : ByteArray := prog_13_method_33_code
def yX11_creak : MethodName := ⟨RX11, "creak", "(I)I"⟩
abbrev cX11_minutes : ByteArray := prog_13_method_34_code
def yX11_minutes : MethodName := ⟨RX11, "minutes", "(I)I"⟩
abbrev cX11_pass : ByteArray := prog_13_method_35_code
def yX11_pass : MethodName := ⟨RX11, "pass", "(I)I"⟩
abbrev cX11_put : ByteArray := prog_13_method_36_code
def yX11_put : MethodName := ⟨RX11, "put", "(II)I"⟩
abbrev cX11_glides : ByteArray := prog_13_method_37_code
def yX11_glides : MethodName := ⟨RX11, "glides", "(II)I"⟩
abbrev cX11_glide : ByteArray := prog_13_method_38_code
def yX11_glide : MethodName := ⟨RX11, "glide", "(II)I"⟩
abbrev cX11_findWay : ByteArray := prog_13_method_39_code
def yX11_findWay : MethodName := ⟨RX11, "findWay", "(II)V"⟩
abbrev cX11_soonest : ByteArray := prog_13_method_40_code
def yX11_soonest : MethodName := ⟨RX11, "soonest", "(III)I"⟩
abbrev cX11_go : ByteArray := prog_13_method_41_code
def yX11_go : MethodName := ⟨RX11, "go", "(II)I"⟩
abbrev cX11_reached : ByteArray := prog_13_method_42_code
def yX11_reached : MethodName := ⟨RX11, "reached", "(II)I"⟩
abbrev cX11_quietest : ByteArray := prog_13_method_43_code
def yX11_quietest : MethodName := ⟨RX11, "quietest", "(II)I"⟩
abbrev cX11_boardsAt : ByteArray := prog_13_method_44_code
def yX11_boardsAt : MethodName := ⟨RX11, "boardsAt", "(II)I"⟩
abbrev cX11_whyNot : ByteArray := prog_13_method_45_code
def yX11_whyNot : MethodName := ⟨RX11, "whyNot", "(II)I"⟩
abbrev cX11_left : ByteArray := prog_13_method_46_code
def yX11_left : MethodName := ⟨RX11, "left", "(I)I"⟩
abbrev cX11_reason : ByteArray := prog_13_method_47_code
def yX11_reason : MethodName := ⟨RX11, "reason", "(I)I"⟩
abbrev cX11_trail : ByteArray := prog_13_method_48_code
def yX11_trail : MethodName := ⟨RX11, "trail", "(II)I"⟩
abbrev cX11_pairs : ByteArray := prog_13_method_49_code
def yX11_pairs : MethodName := ⟨RX11, "pairs", "(I)I"⟩
abbrev cX11_worstGap : ByteArray := prog_13_method_50_code
def yX11_worstGap : MethodName := ⟨RX11, "worstGap", "(I)I"⟩
abbrev cX11_crossers : ByteArray := prog_13_method_51_code
def yX11_crossers : MethodName := ⟨RX11, "crossers", "(IZ)I"⟩
abbrev cX11_board : ByteArray := prog_13_method_52_code
def yX11_board : MethodName := ⟨RX11, "board", "(II)I"⟩
abbrev cX11_ghost : ByteArray := prog_13_method_53_code
def yX11_ghost : MethodName := ⟨RX11, "ghost", "(II)I"⟩
abbrev cX11_sleeperOf : ByteArray := prog_13_method_54_code
def yX11_sleeperOf : MethodName := ⟨RX11, "sleeperOf", "(II)I"⟩
abbrev cX11_awake : ByteArray := prog_13_method_55_code
def yX11_awake : MethodName := ⟨RX11, "awake", "()I"⟩
abbrev cX11_count : ByteArray := prog_13_method_56_code
def yX11_count : MethodName := ⟨RX11, "count", "(I)I"⟩
abbrev cX11_letter : ByteArray := prog_13_method_57_code
def yX11_letter : MethodName := ⟨RX11, "letter", "()I"⟩
abbrev cX11_wants : ByteArray := prog_13_method_58_code
def yX11_wants : MethodName := ⟨RX11, "wants", "(Z)V"⟩
abbrev cX11_roomRead : ByteArray := prog_13_method_59_code
def yX11_roomRead : MethodName := ⟨RX11, "roomRead", "(I)I"⟩
abbrev cX11_digit : ByteArray := prog_13_method_60_code
def yX11_digit : MethodName := ⟨RX11, "digit", "()I"⟩
abbrev cX11_readPad : ByteArray := prog_13_method_61_code
def yX11_readPad : MethodName := ⟨RX11, "readPad", "()I"⟩
abbrev cX11_fault : ByteArray := prog_13_method_62_code
def yX11_fault : MethodName := ⟨RX11, "fault", "()I"⟩
abbrev cX11_read : ByteArray := prog_13_method_63_code
def yX11_read : MethodName := ⟨RX11, "read", "()I"⟩
abbrev cX11_write : ByteArray := prog_13_method_64_code
def yX11_write : MethodName := ⟨RX11, "write", "(J)I"⟩
abbrev cX11_wipe : ByteArray := prog_13_method_65_code
def yX11_wipe : MethodName := ⟨RX11, "wipe", "()I"⟩
def RJ6 : String := "java/lang/Integer"
def TJ6 : u_T := fun k => match k with
  | _ => ("", "", "", false)
def tyJ6 : Nat → FieldType := fun k => match k with
  | _ => .int
abbrev wsJ60 : List Cond := u_ws RJ6 TJ6 0
theorem nmJ6 : ∀ a, a < 0 → ∀ b, b < 0 → a ≠ b → (TJ6 a).2.1 ≠ (TJ6 b).2.1 := by decide +kernel
theorem tyJ6_ok : ∀ k, k < 0 → parseFieldDescriptor (TJ6 k).2.2.1 = some (tyJ6 k) := by decide +kernel
abbrev cJ6_bitCount_0f7a4 : ByteArray := prog_14_method_49_code
def yJ6_bitCount_0f7a4 : MethodName := ⟨RJ6, "bitCount", "(I)I"⟩
def RJ9 : String := "java/lang/Math"
def TJ9 : u_T := fun k => match k with
  | _ => ("", "", "", false)
def tyJ9 : Nat → FieldType := fun k => match k with
  | _ => .int
abbrev wsJ90 : List Cond := u_ws RJ9 TJ9 0
theorem nmJ9 : ∀ a, a < 0 → ∀ b, b < 0 → a ≠ b → (TJ9 a).2.1 ≠ (TJ9 b).2.1 := by decide +kernel
theorem tyJ9_ok : ∀ k, k < 0 → parseFieldDescriptor (TJ9 k).2.2.1 = some (tyJ9 k) := by decide +kernel
abbrev cJ9_max_7cf53 : ByteArray := prog_15_method_65_code
def yJ9_max_7cf53 : MethodName := ⟨RJ9, "max", "(II)I"⟩
abbrev cJ9_min_7cf53 : ByteArray := prog_15_method_69_code
def yJ9_min_7cf53 : MethodName := ⟨RJ9, "min", "(II)I"⟩
def RJ10 : String := "java/lang/System"
def TJ10 : u_T := fun k => match k with
  | _ => ("", "", "", false)
def tyJ10 : Nat → FieldType := fun k => match k with
  | _ => .int
abbrev wsJ100 : List Cond := u_ws RJ10 TJ10 0
theorem nmJ10 : ∀ a, a < 0 → ∀ b, b < 0 → a ≠ b → (TJ10 a).2.1 ≠ (TJ10 b).2.1 := by decide +kernel
theorem tyJ10_ok : ∀ k, k < 0 → parseFieldDescriptor (TJ10 k).2.2.1 = some (tyJ10 k) := by decide +kernel
def RL : String := "CreakingGhostsLaw"
abbrev cL_law : ByteArray := code
def yL_law : MethodName := ⟨RL, "law", "([I)Z"⟩
end
section
theorem dX0_init_0 : decode cX0_init 0 = .ok (.aload_n 0, 1) := by decide +kernel
theorem dX0_init_1 : decode cX0_init 1 = .ok (.invokespecial 3, 3) := by decide +kernel
theorem dX0_init_4 : decode cX0_init 4 = .ok (.aload_n 0, 1) := by decide +kernel
theorem dX0_init_5 : decode cX0_init 5 = .ok (.new 9, 3) := by decide +kernel
theorem dX0_init_8 : decode cX0_init 8 = .ok (.dup, 1) := by decide +kernel
theorem dX0_init_9 : decode cX0_init 9 = .ok (.iconst 2, 1) := by decide +kernel
theorem dX0_init_10 : decode cX0_init 10 = .ok (.invokespecial 11, 3) := by decide +kernel
theorem dX0_init_13 : decode cX0_init 13 = .ok (.putfield 14, 3) := by decide +kernel
theorem dX0_init_16 : decode cX0_init 16 = .ok (.aload_n 0, 1) := by decide +kernel
theorem dX0_init_17 : decode cX0_init 17 = .ok (.new 20, 3) := by decide +kernel
theorem dX0_init_20 : decode cX0_init 20 = .ok (.dup, 1) := by decide +kernel
theorem dX0_init_21 : decode cX0_init 21 = .ok (.invokespecial 22, 3) := by decide +kernel
theorem dX0_init_24 : decode cX0_init 24 = .ok (.putfield 23, 3) := by decide +kernel
theorem dX0_init_27 : decode cX0_init 27 = .ok (.aload_n 0, 1) := by decide +kernel
theorem dX0_init_28 : decode cX0_init 28 = .ok (.new 27, 3) := by decide +kernel
theorem dX0_init_31 : decode cX0_init 31 = .ok (.dup, 1) := by decide +kernel
theorem dX0_init_32 : decode cX0_init 32 = .ok (.invokespecial 29, 3) := by decide +kernel
theorem dX0_init_35 : decode cX0_init 35 = .ok (.putfield 30, 3) := by decide +kernel
theorem dX0_init_38 : decode cX0_init 38 = .ok (.aload_n 0, 1) := by decide +kernel
theorem dX0_init_39 : decode cX0_init 39 = .ok (.new 34, 3) := by decide +kernel
theorem dX0_init_42 : decode cX0_init 42 = .ok (.dup, 1) := by decide +kernel
theorem dX0_init_43 : decode cX0_init 43 = .ok (.invokespecial 36, 3) := by decide +kernel
theorem dX0_init_46 : decode cX0_init 46 = .ok (.putfield 37, 3) := by decide +kernel
theorem dX0_init_49 : decode cX0_init 49 = .ok (.aload_n 0, 1) := by decide +kernel
theorem dX0_init_50 : decode cX0_init 50 = .ok (.getfield 14, 3) := by decide +kernel
theorem dX0_init_53 : decode cX0_init 53 = .ok (.iconst 0, 1) := by decide +kernel
theorem dX0_init_54 : decode cX0_init 54 = .ok (.bipush 60, 2) := by decide +kernel
theorem dX0_init_56 : decode cX0_init 56 = .ok (.invokevirtual 41, 3) := by decide +kernel
theorem dX0_init_59 : decode cX0_init 59 = .ok (.aload_n 0, 1) := by decide +kernel
theorem dX0_init_60 : decode cX0_init 60 = .ok (.getfield 14, 3) := by decide +kernel
theorem dX0_init_63 : decode cX0_init 63 = .ok (.iconst 1, 1) := by decide +kernel
theorem dX0_init_64 : decode cX0_init 64 = .ok (.bipush 10, 2) := by decide +kernel
theorem dX0_init_66 : decode cX0_init 66 = .ok (.invokevirtual 41, 3) := by decide +kernel
theorem dX0_init_69 : decode cX0_init 69 = .ok (.return_, 1) := by decide +kernel
theorem dX0_copyFrom_0 : decode cX0_copyFrom 0 = .ok (.aload_n 0, 1) := by decide +kernel
theorem dX0_copyFrom_1 : decode cX0_copyFrom 1 = .ok (.aload_n 1, 1) := by decide +kernel
theorem dX0_copyFrom_2 : decode cX0_copyFrom 2 = .ok (.getfield 45, 3) := by decide +kernel
theorem dX0_copyFrom_5 : decode cX0_copyFrom 5 = .ok (.putfield 45, 3) := by decide +kernel
theorem dX0_copyFrom_8 : decode cX0_copyFrom 8 = .ok (.aload_n 0, 1) := by decide +kernel
theorem dX0_copyFrom_9 : decode cX0_copyFrom 9 = .ok (.aload_n 1, 1) := by decide +kernel
theorem dX0_copyFrom_10 : decode cX0_copyFrom 10 = .ok (.getfield 49, 3) := by decide +kernel
theorem dX0_copyFrom_13 : decode cX0_copyFrom 13 = .ok (.putfield 49, 3) := by decide +kernel
theorem dX0_copyFrom_16 : decode cX0_copyFrom 16 = .ok (.aload_n 0, 1) := by decide +kernel
theorem dX0_copyFrom_17 : decode cX0_copyFrom 17 = .ok (.getfield 14, 3) := by decide +kernel
theorem dX0_copyFrom_20 : decode cX0_copyFrom 20 = .ok (.aload_n 1, 1) := by decide +kernel
theorem dX0_copyFrom_21 : decode cX0_copyFrom 21 = .ok (.getfield 14, 3) := by decide +kernel
theorem dX0_copyFrom_24 : decode cX0_copyFrom 24 = .ok (.invokevirtual 52, 3) := by decide +kernel
theorem dX0_copyFrom_27 : decode cX0_copyFrom 27 = .ok (.aload_n 0, 1) := by decide +kernel
theorem dX0_copyFrom_28 : decode cX0_copyFrom 28 = .ok (.getfield 23, 3) := by decide +kernel
theorem dX0_copyFrom_31 : decode cX0_copyFrom 31 = .ok (.aload_n 1, 1) := by decide +kernel
theorem dX0_copyFrom_32 : decode cX0_copyFrom 32 = .ok (.getfield 23, 3) := by decide +kernel
theorem dX0_copyFrom_35 : decode cX0_copyFrom 35 = .ok (.invokevirtual 56, 3) := by decide +kernel
theorem dX0_copyFrom_38 : decode cX0_copyFrom 38 = .ok (.aload_n 0, 1) := by decide +kernel
theorem dX0_copyFrom_39 : decode cX0_copyFrom 39 = .ok (.getfield 30, 3) := by decide +kernel
theorem dX0_copyFrom_42 : decode cX0_copyFrom 42 = .ok (.aload_n 1, 1) := by decide +kernel
theorem dX0_copyFrom_43 : decode cX0_copyFrom 43 = .ok (.getfield 30, 3) := by decide +kernel
theorem dX0_copyFrom_46 : decode cX0_copyFrom 46 = .ok (.invokevirtual 59, 3) := by decide +kernel
theorem dX0_copyFrom_49 : decode cX0_copyFrom 49 = .ok (.aload_n 0, 1) := by decide +kernel
theorem dX0_copyFrom_50 : decode cX0_copyFrom 50 = .ok (.getfield 37, 3) := by decide +kernel
theorem dX0_copyFrom_53 : decode cX0_copyFrom 53 = .ok (.aload_n 1, 1) := by decide +kernel
theorem dX0_copyFrom_54 : decode cX0_copyFrom 54 = .ok (.getfield 37, 3) := by decide +kernel
theorem dX0_copyFrom_57 : decode cX0_copyFrom 57 = .ok (.invokevirtual 62, 3) := by decide +kernel
theorem dX0_copyFrom_60 : decode cX0_copyFrom 60 = .ok (.return_, 1) := by decide +kernel
theorem dX0_minutesBetweenBells_0 : decode cX0_minutesBetweenBells 0 = .ok (.aload_n 0, 1) := by decide +kernel
theorem dX0_minutesBetweenBells_1 : decode cX0_minutesBetweenBells 1 = .ok (.getfield 14, 3) := by decide +kernel
theorem dX0_minutesBetweenBells_4 : decode cX0_minutesBetweenBells 4 = .ok (.iconst 0, 1) := by decide +kernel
theorem dX0_minutesBetweenBells_5 : decode cX0_minutesBetweenBells 5 = .ok (.invokevirtual 65, 3) := by decide +kernel
theorem dX0_minutesBetweenBells_8 : decode cX0_minutesBetweenBells 8 = .ok (.iconst 1, 1) := by decide +kernel
theorem dX0_minutesBetweenBells_9 : decode cX0_minutesBetweenBells 9 = .ok (.invokestatic 69, 3) := by decide +kernel
theorem dX0_minutesBetweenBells_12 : decode cX0_minutesBetweenBells 12 = .ok (.ireturn, 1) := by decide +kernel
theorem dX0_minutesToBell_0 : decode cX0_minutesToBell 0 = .ok (.aload_n 0, 1) := by decide +kernel
theorem dX0_minutesToBell_1 : decode cX0_minutesToBell 1 = .ok (.invokevirtual 75, 3) := by decide +kernel
theorem dX0_minutesToBell_4 : decode cX0_minutesToBell 4 = .ok (.aload_n 0, 1) := by decide +kernel
theorem dX0_minutesToBell_5 : decode cX0_minutesToBell 5 = .ok (.getfield 45, 3) := by decide +kernel
theorem dX0_minutesToBell_8 : decode cX0_minutesToBell 8 = .ok (.aload_n 0, 1) := by decide +kernel
theorem dX0_minutesToBell_9 : decode cX0_minutesToBell 9 = .ok (.invokevirtual 75, 3) := by decide +kernel
theorem dX0_minutesToBell_12 : decode cX0_minutesToBell 12 = .ok (.irem, 1) := by decide +kernel
theorem dX0_minutesToBell_13 : decode cX0_minutesToBell 13 = .ok (.isub, 1) := by decide +kernel
theorem dX0_minutesToBell_14 : decode cX0_minutesToBell 14 = .ok (.ireturn, 1) := by decide +kernel
theorem dX0_leftTo_0 : decode cX0_leftTo 0 = .ok (.aload_n 0, 1) := by decide +kernel
theorem dX0_leftTo_1 : decode cX0_leftTo 1 = .ok (.getfield 23, 3) := by decide +kernel
theorem dX0_leftTo_4 : decode cX0_leftTo 4 = .ok (.invokevirtual 79, 3) := by decide +kernel
theorem dX0_leftTo_7 : decode cX0_leftTo 7 = .ok (.aload_n 0, 1) := by decide +kernel
theorem dX0_leftTo_8 : decode cX0_leftTo 8 = .ok (.getfield 30, 3) := by decide +kernel
theorem dX0_leftTo_11 : decode cX0_leftTo 11 = .ok (.getfield 82, 3) := by decide +kernel
theorem dX0_leftTo_14 : decode cX0_leftTo 14 = .ok (.iload_n 1, 1) := by decide +kernel
theorem dX0_leftTo_15 : decode cX0_leftTo 15 = .ok (.invokevirtual 65, 3) := by decide +kernel
theorem dX0_leftTo_18 : decode cX0_leftTo 18 = .ok (.iconst (-1), 1) := by decide +kernel
theorem dX0_leftTo_19 : decode cX0_leftTo 19 = .ok (.ixor, 1) := by decide +kernel
theorem dX0_leftTo_20 : decode cX0_leftTo 20 = .ok (.iand, 1) := by decide +kernel
theorem dX0_leftTo_21 : decode cX0_leftTo 21 = .ok (.ireturn, 1) := by decide +kernel
theorem dX0_freeTo_0 : decode cX0_freeTo 0 = .ok (.aload_n 0, 1) := by decide +kernel
theorem dX0_freeTo_1 : decode cX0_freeTo 1 = .ok (.iload_n 1, 1) := by decide +kernel
theorem dX0_freeTo_2 : decode cX0_freeTo 2 = .ok (.invokevirtual 85, 3) := by decide +kernel
theorem dX0_freeTo_5 : decode cX0_freeTo 5 = .ok (.aload_n 0, 1) := by decide +kernel
theorem dX0_freeTo_6 : decode cX0_freeTo 6 = .ok (.getfield 23, 3) := by decide +kernel
theorem dX0_freeTo_9 : decode cX0_freeTo 9 = .ok (.aload_n 0, 1) := by decide +kernel
theorem dX0_freeTo_10 : decode cX0_freeTo 10 = .ok (.getfield 37, 3) := by decide +kernel
theorem dX0_freeTo_13 : decode cX0_freeTo 13 = .ok (.invokevirtual 88, 3) := by decide +kernel
theorem dX0_freeTo_16 : decode cX0_freeTo 16 = .ok (.invokevirtual 91, 3) := by decide +kernel
theorem dX0_freeTo_19 : decode cX0_freeTo 19 = .ok (.iconst (-1), 1) := by decide +kernel
theorem dX0_freeTo_20 : decode cX0_freeTo 20 = .ok (.ixor, 1) := by decide +kernel
theorem dX0_freeTo_21 : decode cX0_freeTo 21 = .ok (.iand, 1) := by decide +kernel
theorem dX0_freeTo_22 : decode cX0_freeTo 22 = .ok (.ireturn, 1) := by decide +kernel
theorem dX0_freeAtRoomOf_0 : decode cX0_freeAtRoomOf 0 = .ok (.aload_n 0, 1) := by decide +kernel
theorem dX0_freeAtRoomOf_1 : decode cX0_freeAtRoomOf 1 = .ok (.iload_n 1, 1) := by decide +kernel
theorem dX0_freeAtRoomOf_2 : decode cX0_freeAtRoomOf 2 = .ok (.invokevirtual 94, 3) := by decide +kernel
theorem dX0_freeAtRoomOf_5 : decode cX0_freeAtRoomOf 5 = .ok (.aload_n 0, 1) := by decide +kernel
theorem dX0_freeAtRoomOf_6 : decode cX0_freeAtRoomOf 6 = .ok (.getfield 23, 3) := by decide +kernel
theorem dX0_freeAtRoomOf_9 : decode cX0_freeAtRoomOf 9 = .ok (.iconst 1, 1) := by decide +kernel
theorem dX0_freeAtRoomOf_10 : decode cX0_freeAtRoomOf 10 = .ok (.aload_n 0, 1) := by decide +kernel
theorem dX0_freeAtRoomOf_11 : decode cX0_freeAtRoomOf 11 = .ok (.getfield 30, 3) := by decide +kernel
theorem dX0_freeAtRoomOf_14 : decode cX0_freeAtRoomOf 14 = .ok (.getfield 97, 3) := by decide +kernel
theorem dX0_freeAtRoomOf_17 : decode cX0_freeAtRoomOf 17 = .ok (.iload_n 1, 1) := by decide +kernel
theorem dX0_freeAtRoomOf_18 : decode cX0_freeAtRoomOf 18 = .ok (.invokevirtual 65, 3) := by decide +kernel
theorem dX0_freeAtRoomOf_21 : decode cX0_freeAtRoomOf 21 = .ok (.ishl, 1) := by decide +kernel
theorem dX0_freeAtRoomOf_22 : decode cX0_freeAtRoomOf 22 = .ok (.invokevirtual 91, 3) := by decide +kernel
theorem dX0_freeAtRoomOf_25 : decode cX0_freeAtRoomOf 25 = .ok (.iand, 1) := by decide +kernel
theorem dX0_freeAtRoomOf_26 : decode cX0_freeAtRoomOf 26 = .ok (.ireturn, 1) := by decide +kernel
theorem dX0_ghostsFreeFor_0 : decode cX0_ghostsFreeFor 0 = .ok (.iconst 0, 1) := by decide +kernel
theorem dX0_ghostsFreeFor_1 : decode cX0_ghostsFreeFor 1 = .ok (.istore_n 2, 1) := by decide +kernel
theorem dX0_ghostsFreeFor_2 : decode cX0_ghostsFreeFor 2 = .ok (.iconst 0, 1) := by decide +kernel
theorem dX0_ghostsFreeFor_3 : decode cX0_ghostsFreeFor 3 = .ok (.istore_n 3, 1) := by decide +kernel
theorem dX0_ghostsFreeFor_4 : decode cX0_ghostsFreeFor 4 = .ok (.iload_n 3, 1) := by decide +kernel
theorem dX0_ghostsFreeFor_5 : decode cX0_ghostsFreeFor 5 = .ok (.iconst 4, 1) := by decide +kernel
theorem dX0_ghostsFreeFor_6 : decode cX0_ghostsFreeFor 6 = .ok (.if_icmp .ge 27, 3) := by decide +kernel
theorem dX0_ghostsFreeFor_9 : decode cX0_ghostsFreeFor 9 = .ok (.aload_n 0, 1) := by decide +kernel
theorem dX0_ghostsFreeFor_10 : decode cX0_ghostsFreeFor 10 = .ok (.iload_n 3, 1) := by decide +kernel
theorem dX0_ghostsFreeFor_11 : decode cX0_ghostsFreeFor 11 = .ok (.invokevirtual 94, 3) := by decide +kernel
theorem dX0_ghostsFreeFor_14 : decode cX0_ghostsFreeFor 14 = .ok (.iload_n 1, 1) := by decide +kernel
theorem dX0_ghostsFreeFor_15 : decode cX0_ghostsFreeFor 15 = .ok (.invokestatic 100, 3) := by decide +kernel
theorem dX0_ghostsFreeFor_18 : decode cX0_ghostsFreeFor 18 = .ok (.ifCond .eq 9, 3) := by decide +kernel
theorem dX0_ghostsFreeFor_21 : decode cX0_ghostsFreeFor 21 = .ok (.iload_n 2, 1) := by decide +kernel
theorem dX0_ghostsFreeFor_22 : decode cX0_ghostsFreeFor 22 = .ok (.iconst 1, 1) := by decide +kernel
theorem dX0_ghostsFreeFor_23 : decode cX0_ghostsFreeFor 23 = .ok (.iload_n 3, 1) := by decide +kernel
theorem dX0_ghostsFreeFor_24 : decode cX0_ghostsFreeFor 24 = .ok (.ishl, 1) := by decide +kernel
theorem dX0_ghostsFreeFor_25 : decode cX0_ghostsFreeFor 25 = .ok (.ior, 1) := by decide +kernel
theorem dX0_ghostsFreeFor_26 : decode cX0_ghostsFreeFor 26 = .ok (.istore_n 2, 1) := by decide +kernel
theorem dX0_ghostsFreeFor_27 : decode cX0_ghostsFreeFor 27 = .ok (.iinc 3 1, 3) := by decide +kernel
theorem dX0_ghostsFreeFor_30 : decode cX0_ghostsFreeFor 30 = .ok (.goto (-26), 3) := by decide +kernel
theorem dX0_ghostsFreeFor_33 : decode cX0_ghostsFreeFor 33 = .ok (.iload_n 2, 1) := by decide +kernel
theorem dX0_ghostsFreeFor_34 : decode cX0_ghostsFreeFor 34 = .ok (.ireturn, 1) := by decide +kernel
theorem dX0_wakes_0 : decode cX0_wakes 0 = .ok (.aload_n 0, 1) := by decide +kernel
theorem dX0_wakes_1 : decode cX0_wakes 1 = .ok (.getfield 23, 3) := by decide +kernel
theorem dX0_wakes_4 : decode cX0_wakes 4 = .ok (.aload_n 0, 1) := by decide +kernel
theorem dX0_wakes_5 : decode cX0_wakes 5 = .ok (.getfield 37, 3) := by decide +kernel
theorem dX0_wakes_8 : decode cX0_wakes 8 = .ok (.getfield 104, 3) := by decide +kernel
theorem dX0_wakes_11 : decode cX0_wakes 11 = .ok (.iload_n 2, 1) := by decide +kernel
theorem dX0_wakes_12 : decode cX0_wakes 12 = .ok (.invokevirtual 65, 3) := by decide +kernel
theorem dX0_wakes_15 : decode cX0_wakes 15 = .ok (.iload_n 1, 1) := by decide +kernel
theorem dX0_wakes_16 : decode cX0_wakes 16 = .ok (.invokevirtual 105, 3) := by decide +kernel
theorem dX0_wakes_19 : decode cX0_wakes 19 = .ok (.aload_n 0, 1) := by decide +kernel
theorem dX0_wakes_20 : decode cX0_wakes 20 = .ok (.getfield 37, 3) := by decide +kernel
theorem dX0_wakes_23 : decode cX0_wakes 23 = .ok (.getfield 108, 3) := by decide +kernel
theorem dX0_wakes_26 : decode cX0_wakes 26 = .ok (.iload_n 2, 1) := by decide +kernel
theorem dX0_wakes_27 : decode cX0_wakes 27 = .ok (.invokevirtual 65, 3) := by decide +kernel
theorem dX0_wakes_30 : decode cX0_wakes 30 = .ok (.if_icmp .lt 7, 3) := by decide +kernel
theorem dX0_wakes_33 : decode cX0_wakes 33 = .ok (.iconst 1, 1) := by decide +kernel
theorem dX0_wakes_34 : decode cX0_wakes 34 = .ok (.goto 4, 3) := by decide +kernel
theorem dX0_wakes_37 : decode cX0_wakes 37 = .ok (.iconst 0, 1) := by decide +kernel
theorem dX0_wakes_38 : decode cX0_wakes 38 = .ok (.ireturn, 1) := by decide +kernel
theorem dX0_boardsThatWake_0 : decode cX0_boardsThatWake 0 = .ok (.iconst 0, 1) := by decide +kernel
theorem dX0_boardsThatWake_1 : decode cX0_boardsThatWake 1 = .ok (.istore_n 2, 1) := by decide +kernel
theorem dX0_boardsThatWake_2 : decode cX0_boardsThatWake 2 = .ok (.iconst 0, 1) := by decide +kernel
theorem dX0_boardsThatWake_3 : decode cX0_boardsThatWake 3 = .ok (.istore_n 3, 1) := by decide +kernel
theorem dX0_boardsThatWake_4 : decode cX0_boardsThatWake 4 = .ok (.iload_n 3, 1) := by decide +kernel
theorem dX0_boardsThatWake_5 : decode cX0_boardsThatWake 5 = .ok (.aload_n 0, 1) := by decide +kernel
theorem dX0_boardsThatWake_6 : decode cX0_boardsThatWake 6 = .ok (.getfield 23, 3) := by decide +kernel
theorem dX0_boardsThatWake_9 : decode cX0_boardsThatWake 9 = .ok (.getfield 111, 3) := by decide +kernel
theorem dX0_boardsThatWake_12 : decode cX0_boardsThatWake 12 = .ok (.if_icmp .ge 24, 3) := by decide +kernel
theorem dX0_boardsThatWake_15 : decode cX0_boardsThatWake 15 = .ok (.aload_n 0, 1) := by decide +kernel
theorem dX0_boardsThatWake_16 : decode cX0_boardsThatWake 16 = .ok (.iload_n 3, 1) := by decide +kernel
theorem dX0_boardsThatWake_17 : decode cX0_boardsThatWake 17 = .ok (.iload_n 1, 1) := by decide +kernel
theorem dX0_boardsThatWake_18 : decode cX0_boardsThatWake 18 = .ok (.invokevirtual 114, 3) := by decide +kernel
theorem dX0_boardsThatWake_21 : decode cX0_boardsThatWake 21 = .ok (.ifCond .eq 9, 3) := by decide +kernel
theorem dX0_boardsThatWake_24 : decode cX0_boardsThatWake 24 = .ok (.iload_n 2, 1) := by decide +kernel
theorem dX0_boardsThatWake_25 : decode cX0_boardsThatWake 25 = .ok (.iconst 1, 1) := by decide +kernel
theorem dX0_boardsThatWake_26 : decode cX0_boardsThatWake 26 = .ok (.iload_n 3, 1) := by decide +kernel
theorem dX0_boardsThatWake_27 : decode cX0_boardsThatWake 27 = .ok (.ishl, 1) := by decide +kernel
theorem dX0_boardsThatWake_28 : decode cX0_boardsThatWake 28 = .ok (.ior, 1) := by decide +kernel
theorem dX0_boardsThatWake_29 : decode cX0_boardsThatWake 29 = .ok (.istore_n 2, 1) := by decide +kernel
theorem dX0_boardsThatWake_30 : decode cX0_boardsThatWake 30 = .ok (.iinc 3 1, 3) := by decide +kernel
theorem dX0_boardsThatWake_33 : decode cX0_boardsThatWake 33 = .ok (.goto (-29), 3) := by decide +kernel
theorem dX0_boardsThatWake_36 : decode cX0_boardsThatWake 36 = .ok (.iload_n 2, 1) := by decide +kernel
theorem dX0_boardsThatWake_37 : decode cX0_boardsThatWake 37 = .ok (.ireturn, 1) := by decide +kernel
theorem dX0_letCreak_0 : decode cX0_letCreak 0 = .ok (.aload_n 0, 1) := by decide +kernel
theorem dX0_letCreak_1 : decode cX0_letCreak 1 = .ok (.getfield 23, 3) := by decide +kernel
theorem dX0_letCreak_4 : decode cX0_letCreak 4 = .ok (.getfield 117, 3) := by decide +kernel
theorem dX0_letCreak_7 : decode cX0_letCreak 7 = .ok (.iload_n 1, 1) := by decide +kernel
theorem dX0_letCreak_8 : decode cX0_letCreak 8 = .ok (.invokevirtual 120, 3) := by decide +kernel
theorem dX0_letCreak_11 : decode cX0_letCreak 11 = .ok (.iconst 0, 1) := by decide +kernel
theorem dX0_letCreak_12 : decode cX0_letCreak 12 = .ok (.istore_n 2, 1) := by decide +kernel
theorem dX0_letCreak_13 : decode cX0_letCreak 13 = .ok (.iconst 0, 1) := by decide +kernel
theorem dX0_letCreak_14 : decode cX0_letCreak 14 = .ok (.istore_n 3, 1) := by decide +kernel
theorem dX0_letCreak_15 : decode cX0_letCreak 15 = .ok (.iload_n 3, 1) := by decide +kernel
theorem dX0_letCreak_16 : decode cX0_letCreak 16 = .ok (.aload_n 0, 1) := by decide +kernel
theorem dX0_letCreak_17 : decode cX0_letCreak 17 = .ok (.getfield 37, 3) := by decide +kernel
theorem dX0_letCreak_20 : decode cX0_letCreak 20 = .ok (.getfield 123, 3) := by decide +kernel
theorem dX0_letCreak_23 : decode cX0_letCreak 23 = .ok (.if_icmp .ge 40, 3) := by decide +kernel
theorem dX0_letCreak_26 : decode cX0_letCreak 26 = .ok (.aload_n 0, 1) := by decide +kernel
theorem dX0_letCreak_27 : decode cX0_letCreak 27 = .ok (.iload_n 1, 1) := by decide +kernel
theorem dX0_letCreak_28 : decode cX0_letCreak 28 = .ok (.iload_n 3, 1) := by decide +kernel
theorem dX0_letCreak_29 : decode cX0_letCreak 29 = .ok (.invokevirtual 114, 3) := by decide +kernel
theorem dX0_letCreak_32 : decode cX0_letCreak 32 = .ok (.ifCond .eq 25, 3) := by decide +kernel
theorem dX0_letCreak_35 : decode cX0_letCreak 35 = .ok (.aload_n 0, 1) := by decide +kernel
theorem dX0_letCreak_36 : decode cX0_letCreak 36 = .ok (.getfield 37, 3) := by decide +kernel
theorem dX0_letCreak_39 : decode cX0_letCreak 39 = .ok (.iload_n 3, 1) := by decide +kernel
theorem dX0_letCreak_40 : decode cX0_letCreak 40 = .ok (.aload_n 0, 1) := by decide +kernel
theorem dX0_letCreak_41 : decode cX0_letCreak 41 = .ok (.getfield 14, 3) := by decide +kernel
theorem dX0_letCreak_44 : decode cX0_letCreak 44 = .ok (.iconst 1, 1) := by decide +kernel
theorem dX0_letCreak_45 : decode cX0_letCreak 45 = .ok (.invokevirtual 65, 3) := by decide +kernel
theorem dX0_letCreak_48 : decode cX0_letCreak 48 = .ok (.invokevirtual 126, 3) := by decide +kernel
theorem dX0_letCreak_51 : decode cX0_letCreak 51 = .ok (.iload_n 2, 1) := by decide +kernel
theorem dX0_letCreak_52 : decode cX0_letCreak 52 = .ok (.iconst 1, 1) := by decide +kernel
theorem dX0_letCreak_53 : decode cX0_letCreak 53 = .ok (.iload_n 3, 1) := by decide +kernel
theorem dX0_letCreak_54 : decode cX0_letCreak 54 = .ok (.ishl, 1) := by decide +kernel
theorem dX0_letCreak_55 : decode cX0_letCreak 55 = .ok (.ior, 1) := by decide +kernel
theorem dX0_letCreak_56 : decode cX0_letCreak 56 = .ok (.istore_n 2, 1) := by decide +kernel
theorem dX0_letCreak_57 : decode cX0_letCreak 57 = .ok (.iinc 3 1, 3) := by decide +kernel
theorem dX0_letCreak_60 : decode cX0_letCreak 60 = .ok (.goto (-45), 3) := by decide +kernel
theorem dX0_letCreak_63 : decode cX0_letCreak 63 = .ok (.iload_n 2, 1) := by decide +kernel
theorem dX0_letCreak_64 : decode cX0_letCreak 64 = .ok (.ireturn, 1) := by decide +kernel
theorem dX0_letPass_0 : decode cX0_letPass 0 = .ok (.aload_n 0, 1) := by decide +kernel
theorem dX0_letPass_1 : decode cX0_letPass 1 = .ok (.getfield 45, 3) := by decide +kernel
theorem dX0_letPass_4 : decode cX0_letPass 4 = .ok (.iload_n 1, 1) := by decide +kernel
theorem dX0_letPass_5 : decode cX0_letPass 5 = .ok (.iadd, 1) := by decide +kernel
theorem dX0_letPass_6 : decode cX0_letPass 6 = .ok (.aload_n 0, 1) := by decide +kernel
theorem dX0_letPass_7 : decode cX0_letPass 7 = .ok (.invokevirtual 75, 3) := by decide +kernel
theorem dX0_letPass_10 : decode cX0_letPass 10 = .ok (.idiv, 1) := by decide +kernel
theorem dX0_letPass_11 : decode cX0_letPass 11 = .ok (.aload_n 0, 1) := by decide +kernel
theorem dX0_letPass_12 : decode cX0_letPass 12 = .ok (.getfield 45, 3) := by decide +kernel
theorem dX0_letPass_15 : decode cX0_letPass 15 = .ok (.aload_n 0, 1) := by decide +kernel
theorem dX0_letPass_16 : decode cX0_letPass 16 = .ok (.invokevirtual 75, 3) := by decide +kernel
theorem dX0_letPass_19 : decode cX0_letPass 19 = .ok (.idiv, 1) := by decide +kernel
theorem dX0_letPass_20 : decode cX0_letPass 20 = .ok (.isub, 1) := by decide +kernel
theorem dX0_letPass_21 : decode cX0_letPass 21 = .ok (.istore_n 2, 1) := by decide +kernel
theorem dX0_letPass_22 : decode cX0_letPass 22 = .ok (.aload_n 0, 1) := by decide +kernel
theorem dX0_letPass_23 : decode cX0_letPass 23 = .ok (.dup, 1) := by decide +kernel
theorem dX0_letPass_24 : decode cX0_letPass 24 = .ok (.getfield 45, 3) := by decide +kernel
theorem dX0_letPass_27 : decode cX0_letPass 27 = .ok (.iload_n 1, 1) := by decide +kernel
theorem dX0_letPass_28 : decode cX0_letPass 28 = .ok (.iadd, 1) := by decide +kernel
theorem dX0_letPass_29 : decode cX0_letPass 29 = .ok (.putfield 45, 3) := by decide +kernel
theorem dX0_letPass_32 : decode cX0_letPass 32 = .ok (.aload_n 0, 1) := by decide +kernel
theorem dX0_letPass_33 : decode cX0_letPass 33 = .ok (.dup, 1) := by decide +kernel
theorem dX0_letPass_34 : decode cX0_letPass 34 = .ok (.getfield 49, 3) := by decide +kernel
theorem dX0_letPass_37 : decode cX0_letPass 37 = .ok (.iload_n 2, 1) := by decide +kernel
theorem dX0_letPass_38 : decode cX0_letPass 38 = .ok (.iadd, 1) := by decide +kernel
theorem dX0_letPass_39 : decode cX0_letPass 39 = .ok (.putfield 49, 3) := by decide +kernel
theorem dX0_letPass_42 : decode cX0_letPass 42 = .ok (.aload_n 0, 1) := by decide +kernel
theorem dX0_letPass_43 : decode cX0_letPass 43 = .ok (.getfield 37, 3) := by decide +kernel
theorem dX0_letPass_46 : decode cX0_letPass 46 = .ok (.iload_n 1, 1) := by decide +kernel
theorem dX0_letPass_47 : decode cX0_letPass 47 = .ok (.invokevirtual 129, 3) := by decide +kernel
theorem dX0_letPass_50 : decode cX0_letPass 50 = .ok (.iload_n 2, 1) := by decide +kernel
theorem dX0_letPass_51 : decode cX0_letPass 51 = .ok (.ifCond .le 14, 3) := by decide +kernel
theorem dX0_letPass_54 : decode cX0_letPass 54 = .ok (.aload_n 0, 1) := by decide +kernel
theorem dX0_letPass_55 : decode cX0_letPass 55 = .ok (.getfield 30, 3) := by decide +kernel
theorem dX0_letPass_58 : decode cX0_letPass 58 = .ok (.getfield 82, 3) := by decide +kernel
theorem dX0_letPass_61 : decode cX0_letPass 61 = .ok (.iconst 0, 1) := by decide +kernel
theorem dX0_letPass_62 : decode cX0_letPass 62 = .ok (.invokevirtual 132, 3) := by decide +kernel
theorem dX0_letPass_65 : decode cX0_letPass 65 = .ok (.iload_n 2, 1) := by decide +kernel
theorem dX0_letPass_66 : decode cX0_letPass 66 = .ok (.ireturn, 1) := by decide +kernel
theorem dX0_letGlide_0 : decode cX0_letGlide 0 = .ok (.aload_n 0, 1) := by decide +kernel
theorem dX0_letGlide_1 : decode cX0_letGlide 1 = .ok (.iload_n 2, 1) := by decide +kernel
theorem dX0_letGlide_2 : decode cX0_letGlide 2 = .ok (.invokevirtual 135, 3) := by decide +kernel
theorem dX0_letGlide_5 : decode cX0_letGlide 5 = .ok (.istore_n 3, 1) := by decide +kernel
theorem dX0_letGlide_6 : decode cX0_letGlide 6 = .ok (.aload_n 0, 1) := by decide +kernel
theorem dX0_letGlide_7 : decode cX0_letGlide 7 = .ok (.aload_n 0, 1) := by decide +kernel
theorem dX0_letGlide_8 : decode cX0_letGlide 8 = .ok (.getfield 23, 3) := by decide +kernel
theorem dX0_letGlide_11 : decode cX0_letGlide 11 = .ok (.getfield 138, 3) := by decide +kernel
theorem dX0_letGlide_14 : decode cX0_letGlide 14 = .ok (.iload_n 2, 1) := by decide +kernel
theorem dX0_letGlide_15 : decode cX0_letGlide 15 = .ok (.invokevirtual 65, 3) := by decide +kernel
theorem dX0_letGlide_18 : decode cX0_letGlide 18 = .ok (.invokevirtual 140, 3) := by decide +kernel
theorem dX0_letGlide_21 : decode cX0_letGlide 21 = .ok (.pop, 1) := by decide +kernel
theorem dX0_letGlide_22 : decode cX0_letGlide 22 = .ok (.aload_n 0, 1) := by decide +kernel
theorem dX0_letGlide_23 : decode cX0_letGlide 23 = .ok (.getfield 30, 3) := by decide +kernel
theorem dX0_letGlide_26 : decode cX0_letGlide 26 = .ok (.iload_n 1, 1) := by decide +kernel
theorem dX0_letGlide_27 : decode cX0_letGlide 27 = .ok (.iload_n 2, 1) := by decide +kernel
theorem dX0_letGlide_28 : decode cX0_letGlide 28 = .ok (.aload_n 0, 1) := by decide +kernel
theorem dX0_letGlide_29 : decode cX0_letGlide 29 = .ok (.getfield 23, 3) := by decide +kernel
theorem dX0_letGlide_32 : decode cX0_letGlide 32 = .ok (.iload_n 2, 1) := by decide +kernel
theorem dX0_letGlide_33 : decode cX0_letGlide 33 = .ok (.aload_n 0, 1) := by decide +kernel
theorem dX0_letGlide_34 : decode cX0_letGlide 34 = .ok (.getfield 30, 3) := by decide +kernel
theorem dX0_letGlide_37 : decode cX0_letGlide 37 = .ok (.getfield 97, 3) := by decide +kernel
theorem dX0_letGlide_40 : decode cX0_letGlide 40 = .ok (.iload_n 1, 1) := by decide +kernel
theorem dX0_letGlide_41 : decode cX0_letGlide 41 = .ok (.invokevirtual 65, 3) := by decide +kernel
theorem dX0_letGlide_44 : decode cX0_letGlide 44 = .ok (.invokevirtual 143, 3) := by decide +kernel
theorem dX0_letGlide_47 : decode cX0_letGlide 47 = .ok (.invokevirtual 146, 3) := by decide +kernel
theorem dX0_letGlide_50 : decode cX0_letGlide 50 = .ok (.iload_n 3, 1) := by decide +kernel
theorem dX0_letGlide_51 : decode cX0_letGlide 51 = .ok (.ireturn, 1) := by decide +kernel
theorem dX1_init_0 : decode cX1_init 0 = .ok (.aload_n 0, 1) := by decide +kernel
theorem dX1_init_1 : decode cX1_init 1 = .ok (.invokespecial 3, 3) := by decide +kernel
theorem dX1_init_4 : decode cX1_init 4 = .ok (.aload_n 0, 1) := by decide +kernel
theorem dX1_init_5 : decode cX1_init 5 = .ok (.new 9, 3) := by decide +kernel
theorem dX1_init_8 : decode cX1_init 8 = .ok (.dup, 1) := by decide +kernel
theorem dX1_init_9 : decode cX1_init 9 = .ok (.bipush 20, 2) := by decide +kernel
theorem dX1_init_11 : decode cX1_init 11 = .ok (.invokespecial 11, 3) := by decide +kernel
theorem dX1_init_14 : decode cX1_init 14 = .ok (.putfield 14, 3) := by decide +kernel
theorem dX1_init_17 : decode cX1_init 17 = .ok (.aload_n 0, 1) := by decide +kernel
theorem dX1_init_18 : decode cX1_init 18 = .ok (.new 9, 3) := by decide +kernel
theorem dX1_init_21 : decode cX1_init 21 = .ok (.dup, 1) := by decide +kernel
theorem dX1_init_22 : decode cX1_init 22 = .ok (.bipush 20, 2) := by decide +kernel
theorem dX1_init_24 : decode cX1_init 24 = .ok (.invokespecial 11, 3) := by decide +kernel
theorem dX1_init_27 : decode cX1_init 27 = .ok (.putfield 20, 3) := by decide +kernel
theorem dX1_init_30 : decode cX1_init 30 = .ok (.aload_n 0, 1) := by decide +kernel
theorem dX1_init_31 : decode cX1_init 31 = .ok (.new 9, 3) := by decide +kernel
theorem dX1_init_34 : decode cX1_init 34 = .ok (.dup, 1) := by decide +kernel
theorem dX1_init_35 : decode cX1_init 35 = .ok (.bipush 20, 2) := by decide +kernel
theorem dX1_init_37 : decode cX1_init 37 = .ok (.invokespecial 11, 3) := by decide +kernel
theorem dX1_init_40 : decode cX1_init 40 = .ok (.putfield 23, 3) := by decide +kernel
theorem dX1_init_43 : decode cX1_init 43 = .ok (.aload_n 0, 1) := by decide +kernel
theorem dX1_init_44 : decode cX1_init 44 = .ok (.new 9, 3) := by decide +kernel
theorem dX1_init_47 : decode cX1_init 47 = .ok (.dup, 1) := by decide +kernel
theorem dX1_init_48 : decode cX1_init 48 = .ok (.bipush 20, 2) := by decide +kernel
theorem dX1_init_50 : decode cX1_init 50 = .ok (.invokespecial 11, 3) := by decide +kernel
theorem dX1_init_53 : decode cX1_init 53 = .ok (.putfield 26, 3) := by decide +kernel
theorem dX1_init_56 : decode cX1_init 56 = .ok (.aload_n 0, 1) := by decide +kernel
theorem dX1_init_57 : decode cX1_init 57 = .ok (.new 9, 3) := by decide +kernel
theorem dX1_init_60 : decode cX1_init 60 = .ok (.dup, 1) := by decide +kernel
theorem dX1_init_61 : decode cX1_init 61 = .ok (.bipush 20, 2) := by decide +kernel
theorem dX1_init_63 : decode cX1_init 63 = .ok (.invokespecial 11, 3) := by decide +kernel
theorem dX1_init_66 : decode cX1_init 66 = .ok (.putfield 29, 3) := by decide +kernel
theorem dX1_init_69 : decode cX1_init 69 = .ok (.return_, 1) := by decide +kernel
theorem dX1_copyFrom_0 : decode cX1_copyFrom 0 = .ok (.aload_n 0, 1) := by decide +kernel
theorem dX1_copyFrom_1 : decode cX1_copyFrom 1 = .ok (.aload_n 1, 1) := by decide +kernel
theorem dX1_copyFrom_2 : decode cX1_copyFrom 2 = .ok (.getfield 32, 3) := by decide +kernel
theorem dX1_copyFrom_5 : decode cX1_copyFrom 5 = .ok (.putfield 32, 3) := by decide +kernel
theorem dX1_copyFrom_8 : decode cX1_copyFrom 8 = .ok (.aload_n 0, 1) := by decide +kernel
theorem dX1_copyFrom_9 : decode cX1_copyFrom 9 = .ok (.getfield 14, 3) := by decide +kernel
theorem dX1_copyFrom_12 : decode cX1_copyFrom 12 = .ok (.aload_n 1, 1) := by decide +kernel
theorem dX1_copyFrom_13 : decode cX1_copyFrom 13 = .ok (.getfield 14, 3) := by decide +kernel
theorem dX1_copyFrom_16 : decode cX1_copyFrom 16 = .ok (.invokevirtual 36, 3) := by decide +kernel
theorem dX1_copyFrom_19 : decode cX1_copyFrom 19 = .ok (.aload_n 0, 1) := by decide +kernel
theorem dX1_copyFrom_20 : decode cX1_copyFrom 20 = .ok (.getfield 20, 3) := by decide +kernel
theorem dX1_copyFrom_23 : decode cX1_copyFrom 23 = .ok (.aload_n 1, 1) := by decide +kernel
theorem dX1_copyFrom_24 : decode cX1_copyFrom 24 = .ok (.getfield 20, 3) := by decide +kernel
theorem dX1_copyFrom_27 : decode cX1_copyFrom 27 = .ok (.invokevirtual 36, 3) := by decide +kernel
theorem dX1_copyFrom_30 : decode cX1_copyFrom 30 = .ok (.aload_n 0, 1) := by decide +kernel
theorem dX1_copyFrom_31 : decode cX1_copyFrom 31 = .ok (.getfield 23, 3) := by decide +kernel
theorem dX1_copyFrom_34 : decode cX1_copyFrom 34 = .ok (.aload_n 1, 1) := by decide +kernel
theorem dX1_copyFrom_35 : decode cX1_copyFrom 35 = .ok (.getfield 23, 3) := by decide +kernel
theorem dX1_copyFrom_38 : decode cX1_copyFrom 38 = .ok (.invokevirtual 36, 3) := by decide +kernel
theorem dX1_copyFrom_41 : decode cX1_copyFrom 41 = .ok (.aload_n 0, 1) := by decide +kernel
theorem dX1_copyFrom_42 : decode cX1_copyFrom 42 = .ok (.getfield 26, 3) := by decide +kernel
theorem dX1_copyFrom_45 : decode cX1_copyFrom 45 = .ok (.aload_n 1, 1) := by decide +kernel
theorem dX1_copyFrom_46 : decode cX1_copyFrom 46 = .ok (.getfield 26, 3) := by decide +kernel
theorem dX1_copyFrom_49 : decode cX1_copyFrom 49 = .ok (.invokevirtual 36, 3) := by decide +kernel
theorem dX1_copyFrom_52 : decode cX1_copyFrom 52 = .ok (.aload_n 0, 1) := by decide +kernel
theorem dX1_copyFrom_53 : decode cX1_copyFrom 53 = .ok (.getfield 29, 3) := by decide +kernel
theorem dX1_copyFrom_56 : decode cX1_copyFrom 56 = .ok (.aload_n 1, 1) := by decide +kernel
theorem dX1_copyFrom_57 : decode cX1_copyFrom 57 = .ok (.getfield 29, 3) := by decide +kernel
theorem dX1_copyFrom_60 : decode cX1_copyFrom 60 = .ok (.invokevirtual 36, 3) := by decide +kernel
theorem dX1_copyFrom_63 : decode cX1_copyFrom 63 = .ok (.return_, 1) := by decide +kernel
theorem dX1_has_0 : decode cX1_has 0 = .ok (.iload_n 1, 1) := by decide +kernel
theorem dX1_has_1 : decode cX1_has 1 = .ok (.iconst 0, 1) := by decide +kernel
theorem dX1_has_2 : decode cX1_has 2 = .ok (.aload_n 0, 1) := by decide +kernel
theorem dX1_has_3 : decode cX1_has 3 = .ok (.getfield 32, 3) := by decide +kernel
theorem dX1_has_6 : decode cX1_has 6 = .ok (.iconst 1, 1) := by decide +kernel
theorem dX1_has_7 : decode cX1_has 7 = .ok (.isub, 1) := by decide +kernel
theorem dX1_has_8 : decode cX1_has 8 = .ok (.invokestatic 40, 3) := by decide +kernel
theorem dX1_has_11 : decode cX1_has 11 = .ok (.ireturn, 1) := by decide +kernel
theorem dX1_append_0 : decode cX1_append 0 = .ok (.aload_n 0, 1) := by decide +kernel
theorem dX1_append_1 : decode cX1_append 1 = .ok (.getfield 32, 3) := by decide +kernel
theorem dX1_append_4 : decode cX1_append 4 = .ok (.bipush 20, 2) := by decide +kernel
theorem dX1_append_6 : decode cX1_append 6 = .ok (.if_icmp .lt 4, 3) := by decide +kernel
theorem dX1_append_9 : decode cX1_append 9 = .ok (.return_, 1) := by decide +kernel
theorem dX1_append_10 : decode cX1_append 10 = .ok (.aload_n 0, 1) := by decide +kernel
theorem dX1_append_11 : decode cX1_append 11 = .ok (.getfield 14, 3) := by decide +kernel
theorem dX1_append_14 : decode cX1_append 14 = .ok (.aload_n 0, 1) := by decide +kernel
theorem dX1_append_15 : decode cX1_append 15 = .ok (.getfield 32, 3) := by decide +kernel
theorem dX1_append_18 : decode cX1_append 18 = .ok (.iload_n 1, 1) := by decide +kernel
theorem dX1_append_19 : decode cX1_append 19 = .ok (.iload_n 2, 1) := by decide +kernel
theorem dX1_append_20 : decode cX1_append 20 = .ok (.invokestatic 44, 3) := by decide +kernel
theorem dX1_append_23 : decode cX1_append 23 = .ok (.invokevirtual 50, 3) := by decide +kernel
theorem dX1_append_26 : decode cX1_append 26 = .ok (.aload_n 0, 1) := by decide +kernel
theorem dX1_append_27 : decode cX1_append 27 = .ok (.getfield 20, 3) := by decide +kernel
theorem dX1_append_30 : decode cX1_append 30 = .ok (.aload_n 0, 1) := by decide +kernel
theorem dX1_append_31 : decode cX1_append 31 = .ok (.getfield 32, 3) := by decide +kernel
theorem dX1_append_34 : decode cX1_append 34 = .ok (.iload_n 1, 1) := by decide +kernel
theorem dX1_append_35 : decode cX1_append 35 = .ok (.iload_n 2, 1) := by decide +kernel
theorem dX1_append_36 : decode cX1_append 36 = .ok (.invokestatic 54, 3) := by decide +kernel
theorem dX1_append_39 : decode cX1_append 39 = .ok (.invokevirtual 50, 3) := by decide +kernel
theorem dX1_append_42 : decode cX1_append 42 = .ok (.aload_n 0, 1) := by decide +kernel
theorem dX1_append_43 : decode cX1_append 43 = .ok (.getfield 23, 3) := by decide +kernel
theorem dX1_append_46 : decode cX1_append 46 = .ok (.aload_n 0, 1) := by decide +kernel
theorem dX1_append_47 : decode cX1_append 47 = .ok (.getfield 32, 3) := by decide +kernel
theorem dX1_append_50 : decode cX1_append 50 = .ok (.iload_n 3, 1) := by decide +kernel
theorem dX1_append_51 : decode cX1_append 51 = .ok (.invokevirtual 50, 3) := by decide +kernel
theorem dX1_append_54 : decode cX1_append 54 = .ok (.aload_n 0, 1) := by decide +kernel
theorem dX1_append_55 : decode cX1_append 55 = .ok (.getfield 26, 3) := by decide +kernel
theorem dX1_append_58 : decode cX1_append 58 = .ok (.aload_n 0, 1) := by decide +kernel
theorem dX1_append_59 : decode cX1_append 59 = .ok (.getfield 32, 3) := by decide +kernel
theorem dX1_append_62 : decode cX1_append 62 = .ok (.iload 4, 2) := by decide +kernel
theorem dX1_append_64 : decode cX1_append 64 = .ok (.invokevirtual 50, 3) := by decide +kernel
theorem dX1_append_67 : decode cX1_append 67 = .ok (.aload_n 0, 1) := by decide +kernel
theorem dX1_append_68 : decode cX1_append 68 = .ok (.getfield 29, 3) := by decide +kernel
theorem dX1_append_71 : decode cX1_append 71 = .ok (.aload_n 0, 1) := by decide +kernel
theorem dX1_append_72 : decode cX1_append 72 = .ok (.getfield 32, 3) := by decide +kernel
theorem dX1_append_75 : decode cX1_append 75 = .ok (.iconst 0, 1) := by decide +kernel
theorem dX1_append_76 : decode cX1_append 76 = .ok (.invokevirtual 50, 3) := by decide +kernel
theorem dX1_append_79 : decode cX1_append 79 = .ok (.aload_n 0, 1) := by decide +kernel
theorem dX1_append_80 : decode cX1_append 80 = .ok (.dup, 1) := by decide +kernel
theorem dX1_append_81 : decode cX1_append 81 = .ok (.getfield 32, 3) := by decide +kernel
theorem dX1_append_84 : decode cX1_append 84 = .ok (.iconst 1, 1) := by decide +kernel
theorem dX1_append_85 : decode cX1_append 85 = .ok (.iadd, 1) := by decide +kernel
theorem dX1_append_86 : decode cX1_append 86 = .ok (.putfield 32, 3) := by decide +kernel
theorem dX1_append_89 : decode cX1_append 89 = .ok (.return_, 1) := by decide +kernel
theorem dX1_remove_0 : decode cX1_remove 0 = .ok (.aload_n 0, 1) := by decide +kernel
theorem dX1_remove_1 : decode cX1_remove 1 = .ok (.iload_n 1, 1) := by decide +kernel
theorem dX1_remove_2 : decode cX1_remove 2 = .ok (.invokevirtual 57, 3) := by decide +kernel
theorem dX1_remove_5 : decode cX1_remove 5 = .ok (.ifCond .ne 4, 3) := by decide +kernel
theorem dX1_remove_8 : decode cX1_remove 8 = .ok (.return_, 1) := by decide +kernel
theorem dX1_remove_9 : decode cX1_remove 9 = .ok (.aload_n 0, 1) := by decide +kernel
theorem dX1_remove_10 : decode cX1_remove 10 = .ok (.getfield 14, 3) := by decide +kernel
theorem dX1_remove_13 : decode cX1_remove 13 = .ok (.iload_n 1, 1) := by decide +kernel
theorem dX1_remove_14 : decode cX1_remove 14 = .ok (.invokevirtual 61, 3) := by decide +kernel
theorem dX1_remove_17 : decode cX1_remove 17 = .ok (.aload_n 0, 1) := by decide +kernel
theorem dX1_remove_18 : decode cX1_remove 18 = .ok (.getfield 20, 3) := by decide +kernel
theorem dX1_remove_21 : decode cX1_remove 21 = .ok (.iload_n 1, 1) := by decide +kernel
theorem dX1_remove_22 : decode cX1_remove 22 = .ok (.invokevirtual 61, 3) := by decide +kernel
theorem dX1_remove_25 : decode cX1_remove 25 = .ok (.aload_n 0, 1) := by decide +kernel
theorem dX1_remove_26 : decode cX1_remove 26 = .ok (.getfield 23, 3) := by decide +kernel
theorem dX1_remove_29 : decode cX1_remove 29 = .ok (.iload_n 1, 1) := by decide +kernel
theorem dX1_remove_30 : decode cX1_remove 30 = .ok (.invokevirtual 61, 3) := by decide +kernel
theorem dX1_remove_33 : decode cX1_remove 33 = .ok (.aload_n 0, 1) := by decide +kernel
theorem dX1_remove_34 : decode cX1_remove 34 = .ok (.getfield 26, 3) := by decide +kernel
theorem dX1_remove_37 : decode cX1_remove 37 = .ok (.iload_n 1, 1) := by decide +kernel
theorem dX1_remove_38 : decode cX1_remove 38 = .ok (.invokevirtual 61, 3) := by decide +kernel
theorem dX1_remove_41 : decode cX1_remove 41 = .ok (.aload_n 0, 1) := by decide +kernel
theorem dX1_remove_42 : decode cX1_remove 42 = .ok (.getfield 29, 3) := by decide +kernel
theorem dX1_remove_45 : decode cX1_remove 45 = .ok (.iload_n 1, 1) := by decide +kernel
theorem dX1_remove_46 : decode cX1_remove 46 = .ok (.invokevirtual 61, 3) := by decide +kernel
theorem dX1_remove_49 : decode cX1_remove 49 = .ok (.aload_n 0, 1) := by decide +kernel
theorem dX1_remove_50 : decode cX1_remove 50 = .ok (.dup, 1) := by decide +kernel
theorem dX1_remove_51 : decode cX1_remove 51 = .ok (.getfield 32, 3) := by decide +kernel
theorem dX1_remove_54 : decode cX1_remove 54 = .ok (.iconst 1, 1) := by decide +kernel
theorem dX1_remove_55 : decode cX1_remove 55 = .ok (.isub, 1) := by decide +kernel
theorem dX1_remove_56 : decode cX1_remove 56 = .ok (.putfield 32, 3) := by decide +kernel
theorem dX1_remove_59 : decode cX1_remove 59 = .ok (.return_, 1) := by decide +kernel
theorem dX1_all_0 : decode cX1_all 0 = .ok (.iconst 1, 1) := by decide +kernel
theorem dX1_all_1 : decode cX1_all 1 = .ok (.aload_n 0, 1) := by decide +kernel
theorem dX1_all_2 : decode cX1_all 2 = .ok (.getfield 32, 3) := by decide +kernel
theorem dX1_all_5 : decode cX1_all 5 = .ok (.ishl, 1) := by decide +kernel
theorem dX1_all_6 : decode cX1_all 6 = .ok (.iconst 1, 1) := by decide +kernel
theorem dX1_all_7 : decode cX1_all 7 = .ok (.isub, 1) := by decide +kernel
theorem dX1_all_8 : decode cX1_all 8 = .ok (.ireturn, 1) := by decide +kernel
theorem dX1_ends_0 : decode cX1_ends 0 = .ok (.iconst 1, 1) := by decide +kernel
theorem dX1_ends_1 : decode cX1_ends 1 = .ok (.aload_n 0, 1) := by decide +kernel
theorem dX1_ends_2 : decode cX1_ends 2 = .ok (.getfield 14, 3) := by decide +kernel
theorem dX1_ends_5 : decode cX1_ends 5 = .ok (.iload_n 1, 1) := by decide +kernel
theorem dX1_ends_6 : decode cX1_ends 6 = .ok (.invokevirtual 64, 3) := by decide +kernel
theorem dX1_ends_9 : decode cX1_ends 9 = .ok (.ishl, 1) := by decide +kernel
theorem dX1_ends_10 : decode cX1_ends 10 = .ok (.iconst 1, 1) := by decide +kernel
theorem dX1_ends_11 : decode cX1_ends 11 = .ok (.aload_n 0, 1) := by decide +kernel
theorem dX1_ends_12 : decode cX1_ends 12 = .ok (.getfield 20, 3) := by decide +kernel
theorem dX1_ends_15 : decode cX1_ends 15 = .ok (.iload_n 1, 1) := by decide +kernel
theorem dX1_ends_16 : decode cX1_ends 16 = .ok (.invokevirtual 64, 3) := by decide +kernel
theorem dX1_ends_19 : decode cX1_ends 19 = .ok (.ishl, 1) := by decide +kernel
theorem dX1_ends_20 : decode cX1_ends 20 = .ok (.ior, 1) := by decide +kernel
theorem dX1_ends_21 : decode cX1_ends 21 = .ok (.ireturn, 1) := by decide +kernel
theorem dX1_beyond_0 : decode cX1_beyond 0 = .ok (.aload_n 0, 1) := by decide +kernel
theorem dX1_beyond_1 : decode cX1_beyond 1 = .ok (.getfield 14, 3) := by decide +kernel
theorem dX1_beyond_4 : decode cX1_beyond 4 = .ok (.iload_n 1, 1) := by decide +kernel
theorem dX1_beyond_5 : decode cX1_beyond 5 = .ok (.invokevirtual 64, 3) := by decide +kernel
theorem dX1_beyond_8 : decode cX1_beyond 8 = .ok (.iload_n 2, 1) := by decide +kernel
theorem dX1_beyond_9 : decode cX1_beyond 9 = .ok (.if_icmp .ne 14, 3) := by decide +kernel
theorem dX1_beyond_12 : decode cX1_beyond 12 = .ok (.aload_n 0, 1) := by decide +kernel
theorem dX1_beyond_13 : decode cX1_beyond 13 = .ok (.getfield 20, 3) := by decide +kernel
theorem dX1_beyond_16 : decode cX1_beyond 16 = .ok (.iload_n 1, 1) := by decide +kernel
theorem dX1_beyond_17 : decode cX1_beyond 17 = .ok (.invokevirtual 64, 3) := by decide +kernel
theorem dX1_beyond_20 : decode cX1_beyond 20 = .ok (.goto 11, 3) := by decide +kernel
theorem dX1_beyond_23 : decode cX1_beyond 23 = .ok (.aload_n 0, 1) := by decide +kernel
theorem dX1_beyond_24 : decode cX1_beyond 24 = .ok (.getfield 14, 3) := by decide +kernel
theorem dX1_beyond_27 : decode cX1_beyond 27 = .ok (.iload_n 1, 1) := by decide +kernel
theorem dX1_beyond_28 : decode cX1_beyond 28 = .ok (.invokevirtual 64, 3) := by decide +kernel
theorem dX1_beyond_31 : decode cX1_beyond 31 = .ok (.ireturn, 1) := by decide +kernel
theorem dX1_touching_0 : decode cX1_touching 0 = .ok (.iconst 0, 1) := by decide +kernel
theorem dX1_touching_1 : decode cX1_touching 1 = .ok (.istore_n 2, 1) := by decide +kernel
theorem dX1_touching_2 : decode cX1_touching 2 = .ok (.iconst 0, 1) := by decide +kernel
theorem dX1_touching_3 : decode cX1_touching 3 = .ok (.istore_n 3, 1) := by decide +kernel
theorem dX1_touching_4 : decode cX1_touching 4 = .ok (.iload_n 3, 1) := by decide +kernel
theorem dX1_touching_5 : decode cX1_touching 5 = .ok (.aload_n 0, 1) := by decide +kernel
theorem dX1_touching_6 : decode cX1_touching 6 = .ok (.getfield 32, 3) := by decide +kernel
theorem dX1_touching_9 : decode cX1_touching 9 = .ok (.if_icmp .ge 25, 3) := by decide +kernel
theorem dX1_touching_12 : decode cX1_touching 12 = .ok (.aload_n 0, 1) := by decide +kernel
theorem dX1_touching_13 : decode cX1_touching 13 = .ok (.iload_n 3, 1) := by decide +kernel
theorem dX1_touching_14 : decode cX1_touching 14 = .ok (.invokevirtual 68, 3) := by decide +kernel
theorem dX1_touching_17 : decode cX1_touching 17 = .ok (.iload_n 1, 1) := by decide +kernel
theorem dX1_touching_18 : decode cX1_touching 18 = .ok (.iand, 1) := by decide +kernel
theorem dX1_touching_19 : decode cX1_touching 19 = .ok (.ifCond .eq 9, 3) := by decide +kernel
theorem dX1_touching_22 : decode cX1_touching 22 = .ok (.iload_n 2, 1) := by decide +kernel
theorem dX1_touching_23 : decode cX1_touching 23 = .ok (.iconst 1, 1) := by decide +kernel
theorem dX1_touching_24 : decode cX1_touching 24 = .ok (.iload_n 3, 1) := by decide +kernel
theorem dX1_touching_25 : decode cX1_touching 25 = .ok (.ishl, 1) := by decide +kernel
theorem dX1_touching_26 : decode cX1_touching 26 = .ok (.ior, 1) := by decide +kernel
theorem dX1_touching_27 : decode cX1_touching 27 = .ok (.istore_n 2, 1) := by decide +kernel
theorem dX1_touching_28 : decode cX1_touching 28 = .ok (.iinc 3 1, 3) := by decide +kernel
theorem dX1_touching_31 : decode cX1_touching 31 = .ok (.goto (-27), 3) := by decide +kernel
theorem dX1_touching_34 : decode cX1_touching 34 = .ok (.iload_n 2, 1) := by decide +kernel
theorem dX1_touching_35 : decode cX1_touching 35 = .ok (.ireturn, 1) := by decide +kernel
theorem dX1_atMostAsLoud_0 : decode cX1_atMostAsLoud 0 = .ok (.iconst 0, 1) := by decide +kernel
theorem dX1_atMostAsLoud_1 : decode cX1_atMostAsLoud 1 = .ok (.istore_n 2, 1) := by decide +kernel
theorem dX1_atMostAsLoud_2 : decode cX1_atMostAsLoud 2 = .ok (.iconst 0, 1) := by decide +kernel
theorem dX1_atMostAsLoud_3 : decode cX1_atMostAsLoud 3 = .ok (.istore_n 3, 1) := by decide +kernel
theorem dX1_atMostAsLoud_4 : decode cX1_atMostAsLoud 4 = .ok (.iload_n 3, 1) := by decide +kernel
theorem dX1_atMostAsLoud_5 : decode cX1_atMostAsLoud 5 = .ok (.aload_n 0, 1) := by decide +kernel
theorem dX1_atMostAsLoud_6 : decode cX1_atMostAsLoud 6 = .ok (.getfield 32, 3) := by decide +kernel
theorem dX1_atMostAsLoud_9 : decode cX1_atMostAsLoud 9 = .ok (.if_icmp .ge 27, 3) := by decide +kernel
theorem dX1_atMostAsLoud_12 : decode cX1_atMostAsLoud 12 = .ok (.aload_n 0, 1) := by decide +kernel
theorem dX1_atMostAsLoud_13 : decode cX1_atMostAsLoud 13 = .ok (.getfield 23, 3) := by decide +kernel
theorem dX1_atMostAsLoud_16 : decode cX1_atMostAsLoud 16 = .ok (.iload_n 3, 1) := by decide +kernel
theorem dX1_atMostAsLoud_17 : decode cX1_atMostAsLoud 17 = .ok (.invokevirtual 64, 3) := by decide +kernel
theorem dX1_atMostAsLoud_20 : decode cX1_atMostAsLoud 20 = .ok (.iload_n 1, 1) := by decide +kernel
theorem dX1_atMostAsLoud_21 : decode cX1_atMostAsLoud 21 = .ok (.if_icmp .gt 9, 3) := by decide +kernel
theorem dX1_atMostAsLoud_24 : decode cX1_atMostAsLoud 24 = .ok (.iload_n 2, 1) := by decide +kernel
theorem dX1_atMostAsLoud_25 : decode cX1_atMostAsLoud 25 = .ok (.iconst 1, 1) := by decide +kernel
theorem dX1_atMostAsLoud_26 : decode cX1_atMostAsLoud 26 = .ok (.iload_n 3, 1) := by decide +kernel
theorem dX1_atMostAsLoud_27 : decode cX1_atMostAsLoud 27 = .ok (.ishl, 1) := by decide +kernel
theorem dX1_atMostAsLoud_28 : decode cX1_atMostAsLoud 28 = .ok (.ior, 1) := by decide +kernel
theorem dX1_atMostAsLoud_29 : decode cX1_atMostAsLoud 29 = .ok (.istore_n 2, 1) := by decide +kernel
theorem dX1_atMostAsLoud_30 : decode cX1_atMostAsLoud 30 = .ok (.iinc 3 1, 3) := by decide +kernel
theorem dX1_atMostAsLoud_33 : decode cX1_atMostAsLoud 33 = .ok (.goto (-29), 3) := by decide +kernel
theorem dX1_atMostAsLoud_36 : decode cX1_atMostAsLoud 36 = .ok (.iload_n 2, 1) := by decide +kernel
theorem dX1_atMostAsLoud_37 : decode cX1_atMostAsLoud 37 = .ok (.ireturn, 1) := by decide +kernel
theorem dX1_widened_0 : decode cX1_widened 0 = .ok (.iload_n 1, 1) := by decide +kernel
theorem dX1_widened_1 : decode cX1_widened 1 = .ok (.istore_n 3, 1) := by decide +kernel
theorem dX1_widened_2 : decode cX1_widened 2 = .ok (.iconst 0, 1) := by decide +kernel
theorem dX1_widened_3 : decode cX1_widened 3 = .ok (.istore 4, 2) := by decide +kernel
theorem dX1_widened_5 : decode cX1_widened 5 = .ok (.iload 4, 2) := by decide +kernel
theorem dX1_widened_7 : decode cX1_widened 7 = .ok (.aload_n 0, 1) := by decide +kernel
theorem dX1_widened_8 : decode cX1_widened 8 = .ok (.getfield 32, 3) := by decide +kernel
theorem dX1_widened_11 : decode cX1_widened 11 = .ok (.if_icmp .ge 38, 3) := by decide +kernel
theorem dX1_widened_14 : decode cX1_widened 14 = .ok (.iload_n 2, 1) := by decide +kernel
theorem dX1_widened_15 : decode cX1_widened 15 = .ok (.iload 4, 2) := by decide +kernel
theorem dX1_widened_17 : decode cX1_widened 17 = .ok (.invokestatic 71, 3) := by decide +kernel
theorem dX1_widened_20 : decode cX1_widened 20 = .ok (.ifCond .eq 23, 3) := by decide +kernel
theorem dX1_widened_23 : decode cX1_widened 23 = .ok (.aload_n 0, 1) := by decide +kernel
theorem dX1_widened_24 : decode cX1_widened 24 = .ok (.iload 4, 2) := by decide +kernel
theorem dX1_widened_26 : decode cX1_widened 26 = .ok (.invokevirtual 68, 3) := by decide +kernel
theorem dX1_widened_29 : decode cX1_widened 29 = .ok (.iload_n 1, 1) := by decide +kernel
theorem dX1_widened_30 : decode cX1_widened 30 = .ok (.iand, 1) := by decide +kernel
theorem dX1_widened_31 : decode cX1_widened 31 = .ok (.ifCond .eq 12, 3) := by decide +kernel
theorem dX1_widened_34 : decode cX1_widened 34 = .ok (.iload_n 3, 1) := by decide +kernel
theorem dX1_widened_35 : decode cX1_widened 35 = .ok (.aload_n 0, 1) := by decide +kernel
theorem dX1_widened_36 : decode cX1_widened 36 = .ok (.iload 4, 2) := by decide +kernel
theorem dX1_widened_38 : decode cX1_widened 38 = .ok (.invokevirtual 68, 3) := by decide +kernel
theorem dX1_widened_41 : decode cX1_widened 41 = .ok (.ior, 1) := by decide +kernel
theorem dX1_widened_42 : decode cX1_widened 42 = .ok (.istore_n 3, 1) := by decide +kernel
theorem dX1_widened_43 : decode cX1_widened 43 = .ok (.iinc 4 1, 3) := by decide +kernel
theorem dX1_widened_46 : decode cX1_widened 46 = .ok (.goto (-41), 3) := by decide +kernel
theorem dX1_widened_49 : decode cX1_widened 49 = .ok (.iload_n 3, 1) := by decide +kernel
theorem dX1_widened_50 : decode cX1_widened 50 = .ok (.ireturn, 1) := by decide +kernel
theorem dX1_roomsFrom_0 : decode cX1_roomsFrom 0 = .ok (.iconst 1, 1) := by decide +kernel
theorem dX1_roomsFrom_1 : decode cX1_roomsFrom 1 = .ok (.iload_n 1, 1) := by decide +kernel
theorem dX1_roomsFrom_2 : decode cX1_roomsFrom 2 = .ok (.ishl, 1) := by decide +kernel
theorem dX1_roomsFrom_3 : decode cX1_roomsFrom 3 = .ok (.istore_n 3, 1) := by decide +kernel
theorem dX1_roomsFrom_4 : decode cX1_roomsFrom 4 = .ok (.iconst 1, 1) := by decide +kernel
theorem dX1_roomsFrom_5 : decode cX1_roomsFrom 5 = .ok (.istore 4, 2) := by decide +kernel
theorem dX1_roomsFrom_7 : decode cX1_roomsFrom 7 = .ok (.iload 4, 2) := by decide +kernel
theorem dX1_roomsFrom_9 : decode cX1_roomsFrom 9 = .ok (.bipush 10, 2) := by decide +kernel
theorem dX1_roomsFrom_11 : decode cX1_roomsFrom 11 = .ok (.if_icmp .ge 29, 3) := by decide +kernel
theorem dX1_roomsFrom_14 : decode cX1_roomsFrom 14 = .ok (.aload_n 0, 1) := by decide +kernel
theorem dX1_roomsFrom_15 : decode cX1_roomsFrom 15 = .ok (.iload_n 3, 1) := by decide +kernel
theorem dX1_roomsFrom_16 : decode cX1_roomsFrom 16 = .ok (.iload_n 2, 1) := by decide +kernel
theorem dX1_roomsFrom_17 : decode cX1_roomsFrom 17 = .ok (.invokevirtual 75, 3) := by decide +kernel
theorem dX1_roomsFrom_20 : decode cX1_roomsFrom 20 = .ok (.istore 5, 2) := by decide +kernel
theorem dX1_roomsFrom_22 : decode cX1_roomsFrom 22 = .ok (.iload 5, 2) := by decide +kernel
theorem dX1_roomsFrom_24 : decode cX1_roomsFrom 24 = .ok (.iload_n 3, 1) := by decide +kernel
theorem dX1_roomsFrom_25 : decode cX1_roomsFrom 25 = .ok (.if_icmp .ne 6, 3) := by decide +kernel
theorem dX1_roomsFrom_28 : decode cX1_roomsFrom 28 = .ok (.goto 12, 3) := by decide +kernel
theorem dX1_roomsFrom_31 : decode cX1_roomsFrom 31 = .ok (.iload 5, 2) := by decide +kernel
theorem dX1_roomsFrom_33 : decode cX1_roomsFrom 33 = .ok (.istore_n 3, 1) := by decide +kernel
theorem dX1_roomsFrom_34 : decode cX1_roomsFrom 34 = .ok (.iinc 4 1, 3) := by decide +kernel
theorem dX1_roomsFrom_37 : decode cX1_roomsFrom 37 = .ok (.goto (-30), 3) := by decide +kernel
theorem dX1_roomsFrom_40 : decode cX1_roomsFrom 40 = .ok (.iload_n 3, 1) := by decide +kernel
theorem dX1_roomsFrom_41 : decode cX1_roomsFrom 41 = .ok (.ireturn, 1) := by decide +kernel
theorem dX1_fewestTo_0 : decode cX1_fewestTo 0 = .ok (.iconst 1, 1) := by decide +kernel
theorem dX1_fewestTo_1 : decode cX1_fewestTo 1 = .ok (.iload_n 1, 1) := by decide +kernel
theorem dX1_fewestTo_2 : decode cX1_fewestTo 2 = .ok (.ishl, 1) := by decide +kernel
theorem dX1_fewestTo_3 : decode cX1_fewestTo 3 = .ok (.istore_n 3, 1) := by decide +kernel
theorem dX1_fewestTo_4 : decode cX1_fewestTo 4 = .ok (.iconst 0, 1) := by decide +kernel
theorem dX1_fewestTo_5 : decode cX1_fewestTo 5 = .ok (.istore 4, 2) := by decide +kernel
theorem dX1_fewestTo_7 : decode cX1_fewestTo 7 = .ok (.iload 4, 2) := by decide +kernel
theorem dX1_fewestTo_9 : decode cX1_fewestTo 9 = .ok (.bipush 10, 2) := by decide +kernel
theorem dX1_fewestTo_11 : decode cX1_fewestTo 11 = .ok (.if_icmp .ge 41, 3) := by decide +kernel
theorem dX1_fewestTo_14 : decode cX1_fewestTo 14 = .ok (.iload_n 3, 1) := by decide +kernel
theorem dX1_fewestTo_15 : decode cX1_fewestTo 15 = .ok (.iload_n 2, 1) := by decide +kernel
theorem dX1_fewestTo_16 : decode cX1_fewestTo 16 = .ok (.iand, 1) := by decide +kernel
theorem dX1_fewestTo_17 : decode cX1_fewestTo 17 = .ok (.ifCond .eq 6, 3) := by decide +kernel
theorem dX1_fewestTo_20 : decode cX1_fewestTo 20 = .ok (.iload 4, 2) := by decide +kernel
theorem dX1_fewestTo_22 : decode cX1_fewestTo 22 = .ok (.ireturn, 1) := by decide +kernel
theorem dX1_fewestTo_23 : decode cX1_fewestTo 23 = .ok (.aload_n 0, 1) := by decide +kernel
theorem dX1_fewestTo_24 : decode cX1_fewestTo 24 = .ok (.iload_n 3, 1) := by decide +kernel
theorem dX1_fewestTo_25 : decode cX1_fewestTo 25 = .ok (.aload_n 0, 1) := by decide +kernel
theorem dX1_fewestTo_26 : decode cX1_fewestTo 26 = .ok (.invokevirtual 78, 3) := by decide +kernel
theorem dX1_fewestTo_29 : decode cX1_fewestTo 29 = .ok (.invokevirtual 75, 3) := by decide +kernel
theorem dX1_fewestTo_32 : decode cX1_fewestTo 32 = .ok (.istore 5, 2) := by decide +kernel
theorem dX1_fewestTo_34 : decode cX1_fewestTo 34 = .ok (.iload 5, 2) := by decide +kernel
theorem dX1_fewestTo_36 : decode cX1_fewestTo 36 = .ok (.iload_n 3, 1) := by decide +kernel
theorem dX1_fewestTo_37 : decode cX1_fewestTo 37 = .ok (.if_icmp .ne 6, 3) := by decide +kernel
theorem dX1_fewestTo_40 : decode cX1_fewestTo 40 = .ok (.goto 12, 3) := by decide +kernel
theorem dX1_fewestTo_43 : decode cX1_fewestTo 43 = .ok (.iload 5, 2) := by decide +kernel
theorem dX1_fewestTo_45 : decode cX1_fewestTo 45 = .ok (.istore_n 3, 1) := by decide +kernel
theorem dX1_fewestTo_46 : decode cX1_fewestTo 46 = .ok (.iinc 4 1, 3) := by decide +kernel
theorem dX1_fewestTo_49 : decode cX1_fewestTo 49 = .ok (.goto (-42), 3) := by decide +kernel
theorem dX1_fewestTo_52 : decode cX1_fewestTo 52 = .ok (.bipush (-6), 2) := by decide +kernel
theorem dX1_fewestTo_54 : decode cX1_fewestTo 54 = .ok (.ireturn, 1) := by decide +kernel
theorem dX1_loudnessIn_0 : decode cX1_loudnessIn 0 = .ok (.aload_n 0, 1) := by decide +kernel
theorem dX1_loudnessIn_1 : decode cX1_loudnessIn 1 = .ok (.iload_n 1, 1) := by decide +kernel
theorem dX1_loudnessIn_2 : decode cX1_loudnessIn 2 = .ok (.aload_n 0, 1) := by decide +kernel
theorem dX1_loudnessIn_3 : decode cX1_loudnessIn 3 = .ok (.iload_n 2, 1) := by decide +kernel
theorem dX1_loudnessIn_4 : decode cX1_loudnessIn 4 = .ok (.invokevirtual 68, 3) := by decide +kernel
theorem dX1_loudnessIn_7 : decode cX1_loudnessIn 7 = .ok (.invokevirtual 82, 3) := by decide +kernel
theorem dX1_loudnessIn_10 : decode cX1_loudnessIn 10 = .ok (.istore_n 3, 1) := by decide +kernel
theorem dX1_loudnessIn_11 : decode cX1_loudnessIn 11 = .ok (.iload_n 3, 1) := by decide +kernel
theorem dX1_loudnessIn_12 : decode cX1_loudnessIn 12 = .ok (.bipush (-6), 2) := by decide +kernel
theorem dX1_loudnessIn_14 : decode cX1_loudnessIn 14 = .ok (.if_icmp .ne 7, 3) := by decide +kernel
theorem dX1_loudnessIn_17 : decode cX1_loudnessIn 17 = .ok (.iconst 0, 1) := by decide +kernel
theorem dX1_loudnessIn_18 : decode cX1_loudnessIn 18 = .ok (.goto 17, 3) := by decide +kernel
theorem dX1_loudnessIn_21 : decode cX1_loudnessIn 21 = .ok (.aload_n 0, 1) := by decide +kernel
theorem dX1_loudnessIn_22 : decode cX1_loudnessIn 22 = .ok (.getfield 23, 3) := by decide +kernel
theorem dX1_loudnessIn_25 : decode cX1_loudnessIn 25 = .ok (.iload_n 2, 1) := by decide +kernel
theorem dX1_loudnessIn_26 : decode cX1_loudnessIn 26 = .ok (.invokevirtual 64, 3) := by decide +kernel
theorem dX1_loudnessIn_29 : decode cX1_loudnessIn 29 = .ok (.iload_n 3, 1) := by decide +kernel
theorem dX1_loudnessIn_30 : decode cX1_loudnessIn 30 = .ok (.isub, 1) := by decide +kernel
theorem dX1_loudnessIn_31 : decode cX1_loudnessIn 31 = .ok (.iconst 0, 1) := by decide +kernel
theorem dX1_loudnessIn_32 : decode cX1_loudnessIn 32 = .ok (.invokestatic 54, 3) := by decide +kernel
theorem dX1_loudnessIn_35 : decode cX1_loudnessIn 35 = .ok (.ireturn, 1) := by decide +kernel
theorem dX1_pairsApartWithout_0 : decode cX1_pairsApartWithout 0 = .ok (.aload_n 0, 1) := by decide +kernel
theorem dX1_pairsApartWithout_1 : decode cX1_pairsApartWithout 1 = .ok (.invokevirtual 78, 3) := by decide +kernel
theorem dX1_pairsApartWithout_4 : decode cX1_pairsApartWithout 4 = .ok (.iconst 1, 1) := by decide +kernel
theorem dX1_pairsApartWithout_5 : decode cX1_pairsApartWithout 5 = .ok (.iload_n 1, 1) := by decide +kernel
theorem dX1_pairsApartWithout_6 : decode cX1_pairsApartWithout 6 = .ok (.ishl, 1) := by decide +kernel
theorem dX1_pairsApartWithout_7 : decode cX1_pairsApartWithout 7 = .ok (.iconst (-1), 1) := by decide +kernel
theorem dX1_pairsApartWithout_8 : decode cX1_pairsApartWithout 8 = .ok (.ixor, 1) := by decide +kernel
theorem dX1_pairsApartWithout_9 : decode cX1_pairsApartWithout 9 = .ok (.iand, 1) := by decide +kernel
theorem dX1_pairsApartWithout_10 : decode cX1_pairsApartWithout 10 = .ok (.istore_n 2, 1) := by decide +kernel
theorem dX1_pairsApartWithout_11 : decode cX1_pairsApartWithout 11 = .ok (.aload_n 0, 1) := by decide +kernel
theorem dX1_pairsApartWithout_12 : decode cX1_pairsApartWithout 12 = .ok (.aload_n 0, 1) := by decide +kernel
theorem dX1_pairsApartWithout_13 : decode cX1_pairsApartWithout 13 = .ok (.getfield 14, 3) := by decide +kernel
theorem dX1_pairsApartWithout_16 : decode cX1_pairsApartWithout 16 = .ok (.iload_n 1, 1) := by decide +kernel
theorem dX1_pairsApartWithout_17 : decode cX1_pairsApartWithout 17 = .ok (.invokevirtual 64, 3) := by decide +kernel
theorem dX1_pairsApartWithout_20 : decode cX1_pairsApartWithout 20 = .ok (.iload_n 2, 1) := by decide +kernel
theorem dX1_pairsApartWithout_21 : decode cX1_pairsApartWithout 21 = .ok (.invokevirtual 85, 3) := by decide +kernel
theorem dX1_pairsApartWithout_24 : decode cX1_pairsApartWithout 24 = .ok (.istore_n 3, 1) := by decide +kernel
theorem dX1_pairsApartWithout_25 : decode cX1_pairsApartWithout 25 = .ok (.iload_n 3, 1) := by decide +kernel
theorem dX1_pairsApartWithout_26 : decode cX1_pairsApartWithout 26 = .ok (.aload_n 0, 1) := by decide +kernel
theorem dX1_pairsApartWithout_27 : decode cX1_pairsApartWithout 27 = .ok (.getfield 20, 3) := by decide +kernel
theorem dX1_pairsApartWithout_30 : decode cX1_pairsApartWithout 30 = .ok (.iload_n 1, 1) := by decide +kernel
theorem dX1_pairsApartWithout_31 : decode cX1_pairsApartWithout 31 = .ok (.invokevirtual 64, 3) := by decide +kernel
theorem dX1_pairsApartWithout_34 : decode cX1_pairsApartWithout 34 = .ok (.invokestatic 71, 3) := by decide +kernel
theorem dX1_pairsApartWithout_37 : decode cX1_pairsApartWithout 37 = .ok (.ifCond .eq 5, 3) := by decide +kernel
theorem dX1_pairsApartWithout_40 : decode cX1_pairsApartWithout 40 = .ok (.iconst 0, 1) := by decide +kernel
theorem dX1_pairsApartWithout_41 : decode cX1_pairsApartWithout 41 = .ok (.ireturn, 1) := by decide +kernel
theorem dX1_pairsApartWithout_42 : decode cX1_pairsApartWithout 42 = .ok (.aload_n 0, 1) := by decide +kernel
theorem dX1_pairsApartWithout_43 : decode cX1_pairsApartWithout 43 = .ok (.aload_n 0, 1) := by decide +kernel
theorem dX1_pairsApartWithout_44 : decode cX1_pairsApartWithout 44 = .ok (.getfield 20, 3) := by decide +kernel
theorem dX1_pairsApartWithout_47 : decode cX1_pairsApartWithout 47 = .ok (.iload_n 1, 1) := by decide +kernel
theorem dX1_pairsApartWithout_48 : decode cX1_pairsApartWithout 48 = .ok (.invokevirtual 64, 3) := by decide +kernel
theorem dX1_pairsApartWithout_51 : decode cX1_pairsApartWithout 51 = .ok (.iload_n 2, 1) := by decide +kernel
theorem dX1_pairsApartWithout_52 : decode cX1_pairsApartWithout 52 = .ok (.invokevirtual 85, 3) := by decide +kernel
theorem dX1_pairsApartWithout_55 : decode cX1_pairsApartWithout 55 = .ok (.istore 4, 2) := by decide +kernel
theorem dX1_pairsApartWithout_57 : decode cX1_pairsApartWithout 57 = .ok (.iload_n 3, 1) := by decide +kernel
theorem dX1_pairsApartWithout_58 : decode cX1_pairsApartWithout 58 = .ok (.invokestatic 88, 3) := by decide +kernel
theorem dX1_pairsApartWithout_61 : decode cX1_pairsApartWithout 61 = .ok (.iload 4, 2) := by decide +kernel
theorem dX1_pairsApartWithout_63 : decode cX1_pairsApartWithout 63 = .ok (.invokestatic 88, 3) := by decide +kernel
theorem dX1_pairsApartWithout_66 : decode cX1_pairsApartWithout 66 = .ok (.imul, 1) := by decide +kernel
theorem dX1_pairsApartWithout_67 : decode cX1_pairsApartWithout 67 = .ok (.ireturn, 1) := by decide +kernel
theorem dX2_init_0 : decode cX2_init 0 = .ok (.aload_n 0, 1) := by decide +kernel
theorem dX2_init_1 : decode cX2_init 1 = .ok (.invokespecial 3, 3) := by decide +kernel
theorem dX2_init_4 : decode cX2_init 4 = .ok (.aload_n 0, 1) := by decide +kernel
theorem dX2_init_5 : decode cX2_init 5 = .ok (.new 9, 3) := by decide +kernel
theorem dX2_init_8 : decode cX2_init 8 = .ok (.dup, 1) := by decide +kernel
theorem dX2_init_9 : decode cX2_init 9 = .ok (.iconst 4, 1) := by decide +kernel
theorem dX2_init_10 : decode cX2_init 10 = .ok (.invokespecial 11, 3) := by decide +kernel
theorem dX2_init_13 : decode cX2_init 13 = .ok (.putfield 14, 3) := by decide +kernel
theorem dX2_init_16 : decode cX2_init 16 = .ok (.aload_n 0, 1) := by decide +kernel
theorem dX2_init_17 : decode cX2_init 17 = .ok (.new 9, 3) := by decide +kernel
theorem dX2_init_20 : decode cX2_init 20 = .ok (.dup, 1) := by decide +kernel
theorem dX2_init_21 : decode cX2_init 21 = .ok (.iconst 4, 1) := by decide +kernel
theorem dX2_init_22 : decode cX2_init 22 = .ok (.invokespecial 11, 3) := by decide +kernel
theorem dX2_init_25 : decode cX2_init 25 = .ok (.putfield 20, 3) := by decide +kernel
theorem dX2_init_28 : decode cX2_init 28 = .ok (.aload_n 0, 1) := by decide +kernel
theorem dX2_init_29 : decode cX2_init 29 = .ok (.new 9, 3) := by decide +kernel
theorem dX2_init_32 : decode cX2_init 32 = .ok (.dup, 1) := by decide +kernel
theorem dX2_init_33 : decode cX2_init 33 = .ok (.iconst 4, 1) := by decide +kernel
theorem dX2_init_34 : decode cX2_init 34 = .ok (.invokespecial 11, 3) := by decide +kernel
theorem dX2_init_37 : decode cX2_init 37 = .ok (.putfield 23, 3) := by decide +kernel
theorem dX2_init_40 : decode cX2_init 40 = .ok (.return_, 1) := by decide +kernel
theorem dX2_copyFrom_0 : decode cX2_copyFrom 0 = .ok (.aload_n 0, 1) := by decide +kernel
theorem dX2_copyFrom_1 : decode cX2_copyFrom 1 = .ok (.getfield 14, 3) := by decide +kernel
theorem dX2_copyFrom_4 : decode cX2_copyFrom 4 = .ok (.aload_n 1, 1) := by decide +kernel
theorem dX2_copyFrom_5 : decode cX2_copyFrom 5 = .ok (.getfield 14, 3) := by decide +kernel
theorem dX2_copyFrom_8 : decode cX2_copyFrom 8 = .ok (.invokevirtual 26, 3) := by decide +kernel
theorem dX2_copyFrom_11 : decode cX2_copyFrom 11 = .ok (.aload_n 0, 1) := by decide +kernel
theorem dX2_copyFrom_12 : decode cX2_copyFrom 12 = .ok (.getfield 20, 3) := by decide +kernel
theorem dX2_copyFrom_15 : decode cX2_copyFrom 15 = .ok (.aload_n 1, 1) := by decide +kernel
theorem dX2_copyFrom_16 : decode cX2_copyFrom 16 = .ok (.getfield 20, 3) := by decide +kernel
theorem dX2_copyFrom_19 : decode cX2_copyFrom 19 = .ok (.invokevirtual 26, 3) := by decide +kernel
theorem dX2_copyFrom_22 : decode cX2_copyFrom 22 = .ok (.aload_n 0, 1) := by decide +kernel
theorem dX2_copyFrom_23 : decode cX2_copyFrom 23 = .ok (.getfield 23, 3) := by decide +kernel
theorem dX2_copyFrom_26 : decode cX2_copyFrom 26 = .ok (.aload_n 1, 1) := by decide +kernel
theorem dX2_copyFrom_27 : decode cX2_copyFrom 27 = .ok (.getfield 23, 3) := by decide +kernel
theorem dX2_copyFrom_30 : decode cX2_copyFrom 30 = .ok (.invokevirtual 26, 3) := by decide +kernel
theorem dX2_copyFrom_33 : decode cX2_copyFrom 33 = .ok (.return_, 1) := by decide +kernel
theorem dX2_whoCrossed_0 : decode cX2_whoCrossed 0 = .ok (.iconst 0, 1) := by decide +kernel
theorem dX2_whoCrossed_1 : decode cX2_whoCrossed 1 = .ok (.istore_n 2, 1) := by decide +kernel
theorem dX2_whoCrossed_2 : decode cX2_whoCrossed 2 = .ok (.iconst 0, 1) := by decide +kernel
theorem dX2_whoCrossed_3 : decode cX2_whoCrossed 3 = .ok (.istore_n 3, 1) := by decide +kernel
theorem dX2_whoCrossed_4 : decode cX2_whoCrossed 4 = .ok (.iload_n 3, 1) := by decide +kernel
theorem dX2_whoCrossed_5 : decode cX2_whoCrossed 5 = .ok (.iconst 4, 1) := by decide +kernel
theorem dX2_whoCrossed_6 : decode cX2_whoCrossed 6 = .ok (.if_icmp .ge 30, 3) := by decide +kernel
theorem dX2_whoCrossed_9 : decode cX2_whoCrossed 9 = .ok (.aload_n 0, 1) := by decide +kernel
theorem dX2_whoCrossed_10 : decode cX2_whoCrossed 10 = .ok (.getfield 20, 3) := by decide +kernel
theorem dX2_whoCrossed_13 : decode cX2_whoCrossed 13 = .ok (.iload_n 3, 1) := by decide +kernel
theorem dX2_whoCrossed_14 : decode cX2_whoCrossed 14 = .ok (.invokevirtual 30, 3) := by decide +kernel
theorem dX2_whoCrossed_17 : decode cX2_whoCrossed 17 = .ok (.iload_n 1, 1) := by decide +kernel
theorem dX2_whoCrossed_18 : decode cX2_whoCrossed 18 = .ok (.invokestatic 34, 3) := by decide +kernel
theorem dX2_whoCrossed_21 : decode cX2_whoCrossed 21 = .ok (.ifCond .eq 9, 3) := by decide +kernel
theorem dX2_whoCrossed_24 : decode cX2_whoCrossed 24 = .ok (.iload_n 2, 1) := by decide +kernel
theorem dX2_whoCrossed_25 : decode cX2_whoCrossed 25 = .ok (.iconst 1, 1) := by decide +kernel
theorem dX2_whoCrossed_26 : decode cX2_whoCrossed 26 = .ok (.iload_n 3, 1) := by decide +kernel
theorem dX2_whoCrossed_27 : decode cX2_whoCrossed 27 = .ok (.ishl, 1) := by decide +kernel
theorem dX2_whoCrossed_28 : decode cX2_whoCrossed 28 = .ok (.ior, 1) := by decide +kernel
theorem dX2_whoCrossed_29 : decode cX2_whoCrossed 29 = .ok (.istore_n 2, 1) := by decide +kernel
theorem dX2_whoCrossed_30 : decode cX2_whoCrossed 30 = .ok (.iinc 3 1, 3) := by decide +kernel
theorem dX2_whoCrossed_33 : decode cX2_whoCrossed 33 = .ok (.goto (-29), 3) := by decide +kernel
theorem dX2_whoCrossed_36 : decode cX2_whoCrossed 36 = .ok (.iload_n 2, 1) := by decide +kernel
theorem dX2_whoCrossed_37 : decode cX2_whoCrossed 37 = .ok (.ireturn, 1) := by decide +kernel
theorem dX2_cross_0 : decode cX2_cross 0 = .ok (.aload_n 0, 1) := by decide +kernel
theorem dX2_cross_1 : decode cX2_cross 1 = .ok (.getfield 14, 3) := by decide +kernel
theorem dX2_cross_4 : decode cX2_cross 4 = .ok (.iload_n 1, 1) := by decide +kernel
theorem dX2_cross_5 : decode cX2_cross 5 = .ok (.iload_n 3, 1) := by decide +kernel
theorem dX2_cross_6 : decode cX2_cross 6 = .ok (.invokevirtual 38, 3) := by decide +kernel
theorem dX2_cross_9 : decode cX2_cross 9 = .ok (.aload_n 0, 1) := by decide +kernel
theorem dX2_cross_10 : decode cX2_cross 10 = .ok (.getfield 20, 3) := by decide +kernel
theorem dX2_cross_13 : decode cX2_cross 13 = .ok (.iload_n 1, 1) := by decide +kernel
theorem dX2_cross_14 : decode cX2_cross 14 = .ok (.aload_n 0, 1) := by decide +kernel
theorem dX2_cross_15 : decode cX2_cross 15 = .ok (.getfield 20, 3) := by decide +kernel
theorem dX2_cross_18 : decode cX2_cross 18 = .ok (.iload_n 1, 1) := by decide +kernel
theorem dX2_cross_19 : decode cX2_cross 19 = .ok (.invokevirtual 30, 3) := by decide +kernel
theorem dX2_cross_22 : decode cX2_cross 22 = .ok (.iconst 1, 1) := by decide +kernel
theorem dX2_cross_23 : decode cX2_cross 23 = .ok (.iload_n 2, 1) := by decide +kernel
theorem dX2_cross_24 : decode cX2_cross 24 = .ok (.ishl, 1) := by decide +kernel
theorem dX2_cross_25 : decode cX2_cross 25 = .ok (.ior, 1) := by decide +kernel
theorem dX2_cross_26 : decode cX2_cross 26 = .ok (.invokevirtual 38, 3) := by decide +kernel
theorem dX2_cross_29 : decode cX2_cross 29 = .ok (.aload_n 0, 1) := by decide +kernel
theorem dX2_cross_30 : decode cX2_cross 30 = .ok (.getfield 23, 3) := by decide +kernel
theorem dX2_cross_33 : decode cX2_cross 33 = .ok (.iload_n 1, 1) := by decide +kernel
theorem dX2_cross_34 : decode cX2_cross 34 = .ok (.invokevirtual 42, 3) := by decide +kernel
theorem dX2_cross_37 : decode cX2_cross 37 = .ok (.return_, 1) := by decide +kernel
theorem dX2_forgetBoard_0 : decode cX2_forgetBoard 0 = .ok (.iconst 1, 1) := by decide +kernel
theorem dX2_forgetBoard_1 : decode cX2_forgetBoard 1 = .ok (.iload_n 1, 1) := by decide +kernel
theorem dX2_forgetBoard_2 : decode cX2_forgetBoard 2 = .ok (.ishl, 1) := by decide +kernel
theorem dX2_forgetBoard_3 : decode cX2_forgetBoard 3 = .ok (.iconst 1, 1) := by decide +kernel
theorem dX2_forgetBoard_4 : decode cX2_forgetBoard 4 = .ok (.isub, 1) := by decide +kernel
theorem dX2_forgetBoard_5 : decode cX2_forgetBoard 5 = .ok (.istore_n 2, 1) := by decide +kernel
theorem dX2_forgetBoard_6 : decode cX2_forgetBoard 6 = .ok (.iconst 0, 1) := by decide +kernel
theorem dX2_forgetBoard_7 : decode cX2_forgetBoard 7 = .ok (.istore_n 3, 1) := by decide +kernel
theorem dX2_forgetBoard_8 : decode cX2_forgetBoard 8 = .ok (.iload_n 3, 1) := by decide +kernel
theorem dX2_forgetBoard_9 : decode cX2_forgetBoard 9 = .ok (.iconst 4, 1) := by decide +kernel
theorem dX2_forgetBoard_10 : decode cX2_forgetBoard 10 = .ok (.if_icmp .ge 40, 3) := by decide +kernel
theorem dX2_forgetBoard_13 : decode cX2_forgetBoard 13 = .ok (.aload_n 0, 1) := by decide +kernel
theorem dX2_forgetBoard_14 : decode cX2_forgetBoard 14 = .ok (.getfield 20, 3) := by decide +kernel
theorem dX2_forgetBoard_17 : decode cX2_forgetBoard 17 = .ok (.iload_n 3, 1) := by decide +kernel
theorem dX2_forgetBoard_18 : decode cX2_forgetBoard 18 = .ok (.invokevirtual 30, 3) := by decide +kernel
theorem dX2_forgetBoard_21 : decode cX2_forgetBoard 21 = .ok (.istore 4, 2) := by decide +kernel
theorem dX2_forgetBoard_23 : decode cX2_forgetBoard 23 = .ok (.aload_n 0, 1) := by decide +kernel
theorem dX2_forgetBoard_24 : decode cX2_forgetBoard 24 = .ok (.getfield 20, 3) := by decide +kernel
theorem dX2_forgetBoard_27 : decode cX2_forgetBoard 27 = .ok (.iload_n 3, 1) := by decide +kernel
theorem dX2_forgetBoard_28 : decode cX2_forgetBoard 28 = .ok (.iload 4, 2) := by decide +kernel
theorem dX2_forgetBoard_30 : decode cX2_forgetBoard 30 = .ok (.iload_n 2, 1) := by decide +kernel
theorem dX2_forgetBoard_31 : decode cX2_forgetBoard 31 = .ok (.iand, 1) := by decide +kernel
theorem dX2_forgetBoard_32 : decode cX2_forgetBoard 32 = .ok (.iload 4, 2) := by decide +kernel
theorem dX2_forgetBoard_34 : decode cX2_forgetBoard 34 = .ok (.iconst 1, 1) := by decide +kernel
theorem dX2_forgetBoard_35 : decode cX2_forgetBoard 35 = .ok (.ishr, 1) := by decide +kernel
theorem dX2_forgetBoard_36 : decode cX2_forgetBoard 36 = .ok (.iload_n 2, 1) := by decide +kernel
theorem dX2_forgetBoard_37 : decode cX2_forgetBoard 37 = .ok (.iconst (-1), 1) := by decide +kernel
theorem dX2_forgetBoard_38 : decode cX2_forgetBoard 38 = .ok (.ixor, 1) := by decide +kernel
theorem dX2_forgetBoard_39 : decode cX2_forgetBoard 39 = .ok (.iand, 1) := by decide +kernel
theorem dX2_forgetBoard_40 : decode cX2_forgetBoard 40 = .ok (.ior, 1) := by decide +kernel
theorem dX2_forgetBoard_41 : decode cX2_forgetBoard 41 = .ok (.invokevirtual 38, 3) := by decide +kernel
theorem dX2_forgetBoard_44 : decode cX2_forgetBoard 44 = .ok (.iinc 3 1, 3) := by decide +kernel
theorem dX2_forgetBoard_47 : decode cX2_forgetBoard 47 = .ok (.goto (-39), 3) := by decide +kernel
theorem dX2_forgetBoard_50 : decode cX2_forgetBoard 50 = .ok (.return_, 1) := by decide +kernel
theorem dX3_init_0 : decode cX3_init 0 = .ok (.aload_n 0, 1) := by decide +kernel
theorem dX3_init_1 : decode cX3_init 1 = .ok (.invokespecial 3, 3) := by decide +kernel
theorem dX3_init_4 : decode cX3_init 4 = .ok (.aload_n 0, 1) := by decide +kernel
theorem dX3_init_5 : decode cX3_init 5 = .ok (.new 9, 3) := by decide +kernel
theorem dX3_init_8 : decode cX3_init 8 = .ok (.dup, 1) := by decide +kernel
theorem dX3_init_9 : decode cX3_init 9 = .ok (.bipush 6, 2) := by decide +kernel
theorem dX3_init_11 : decode cX3_init 11 = .ok (.invokespecial 11, 3) := by decide +kernel
theorem dX3_init_14 : decode cX3_init 14 = .ok (.putfield 14, 3) := by decide +kernel
theorem dX3_init_17 : decode cX3_init 17 = .ok (.return_, 1) := by decide +kernel
theorem dX3_record_0 : decode cX3_record 0 = .ok (.aload_n 0, 1) := by decide +kernel
theorem dX3_record_1 : decode cX3_record 1 = .ok (.getfield 14, 3) := by decide +kernel
theorem dX3_record_4 : decode cX3_record 4 = .ok (.aload_n 0, 1) := by decide +kernel
theorem dX3_record_5 : decode cX3_record 5 = .ok (.getfield 20, 3) := by decide +kernel
theorem dX3_record_8 : decode cX3_record 8 = .ok (.aload_n 1, 1) := by decide +kernel
theorem dX3_record_9 : decode cX3_record 9 = .ok (.invokevirtual 24, 3) := by decide +kernel
theorem dX3_record_12 : decode cX3_record 12 = .ok (.aload_n 0, 1) := by decide +kernel
theorem dX3_record_13 : decode cX3_record 13 = .ok (.aload_n 0, 1) := by decide +kernel
theorem dX3_record_14 : decode cX3_record 14 = .ok (.getfield 20, 3) := by decide +kernel
theorem dX3_record_17 : decode cX3_record 17 = .ok (.iconst 1, 1) := by decide +kernel
theorem dX3_record_18 : decode cX3_record 18 = .ok (.iadd, 1) := by decide +kernel
theorem dX3_record_19 : decode cX3_record 19 = .ok (.bipush 6, 2) := by decide +kernel
theorem dX3_record_21 : decode cX3_record 21 = .ok (.if_icmp .ge 12, 3) := by decide +kernel
theorem dX3_record_24 : decode cX3_record 24 = .ok (.aload_n 0, 1) := by decide +kernel
theorem dX3_record_25 : decode cX3_record 25 = .ok (.getfield 20, 3) := by decide +kernel
theorem dX3_record_28 : decode cX3_record 28 = .ok (.iconst 1, 1) := by decide +kernel
theorem dX3_record_29 : decode cX3_record 29 = .ok (.iadd, 1) := by decide +kernel
theorem dX3_record_30 : decode cX3_record 30 = .ok (.goto 4, 3) := by decide +kernel
theorem dX3_record_33 : decode cX3_record 33 = .ok (.iconst 0, 1) := by decide +kernel
theorem dX3_record_34 : decode cX3_record 34 = .ok (.putfield 20, 3) := by decide +kernel
theorem dX3_record_37 : decode cX3_record 37 = .ok (.aload_n 0, 1) := by decide +kernel
theorem dX3_record_38 : decode cX3_record 38 = .ok (.aload_n 0, 1) := by decide +kernel
theorem dX3_record_39 : decode cX3_record 39 = .ok (.getfield 28, 3) := by decide +kernel
theorem dX3_record_42 : decode cX3_record 42 = .ok (.iconst 1, 1) := by decide +kernel
theorem dX3_record_43 : decode cX3_record 43 = .ok (.iadd, 1) := by decide +kernel
theorem dX3_record_44 : decode cX3_record 44 = .ok (.bipush 6, 2) := by decide +kernel
theorem dX3_record_46 : decode cX3_record 46 = .ok (.invokestatic 31, 3) := by decide +kernel
theorem dX3_record_49 : decode cX3_record 49 = .ok (.putfield 28, 3) := by decide +kernel
theorem dX3_record_52 : decode cX3_record 52 = .ok (.return_, 1) := by decide +kernel
theorem dX3_stepBack_0 : decode cX3_stepBack 0 = .ok (.aload_n 0, 1) := by decide +kernel
theorem dX3_stepBack_1 : decode cX3_stepBack 1 = .ok (.getfield 28, 3) := by decide +kernel
theorem dX3_stepBack_4 : decode cX3_stepBack 4 = .ok (.ifCond .ne 4, 3) := by decide +kernel
theorem dX3_stepBack_7 : decode cX3_stepBack 7 = .ok (.return_, 1) := by decide +kernel
theorem dX3_stepBack_8 : decode cX3_stepBack 8 = .ok (.aload_n 0, 1) := by decide +kernel
theorem dX3_stepBack_9 : decode cX3_stepBack 9 = .ok (.aload_n 0, 1) := by decide +kernel
theorem dX3_stepBack_10 : decode cX3_stepBack 10 = .ok (.getfield 20, 3) := by decide +kernel
theorem dX3_stepBack_13 : decode cX3_stepBack 13 = .ok (.ifCond .le 12, 3) := by decide +kernel
theorem dX3_stepBack_16 : decode cX3_stepBack 16 = .ok (.aload_n 0, 1) := by decide +kernel
theorem dX3_stepBack_17 : decode cX3_stepBack 17 = .ok (.getfield 20, 3) := by decide +kernel
theorem dX3_stepBack_20 : decode cX3_stepBack 20 = .ok (.iconst 1, 1) := by decide +kernel
theorem dX3_stepBack_21 : decode cX3_stepBack 21 = .ok (.isub, 1) := by decide +kernel
theorem dX3_stepBack_22 : decode cX3_stepBack 22 = .ok (.goto 4, 3) := by decide +kernel
theorem dX3_stepBack_25 : decode cX3_stepBack 25 = .ok (.iconst 5, 1) := by decide +kernel
theorem dX3_stepBack_26 : decode cX3_stepBack 26 = .ok (.putfield 20, 3) := by decide +kernel
theorem dX3_stepBack_29 : decode cX3_stepBack 29 = .ok (.aload_n 0, 1) := by decide +kernel
theorem dX3_stepBack_30 : decode cX3_stepBack 30 = .ok (.dup, 1) := by decide +kernel
theorem dX3_stepBack_31 : decode cX3_stepBack 31 = .ok (.getfield 28, 3) := by decide +kernel
theorem dX3_stepBack_34 : decode cX3_stepBack 34 = .ok (.iconst 1, 1) := by decide +kernel
theorem dX3_stepBack_35 : decode cX3_stepBack 35 = .ok (.isub, 1) := by decide +kernel
theorem dX3_stepBack_36 : decode cX3_stepBack 36 = .ok (.putfield 28, 3) := by decide +kernel
theorem dX3_stepBack_39 : decode cX3_stepBack 39 = .ok (.aload_n 0, 1) := by decide +kernel
theorem dX3_stepBack_40 : decode cX3_stepBack 40 = .ok (.getfield 14, 3) := by decide +kernel
theorem dX3_stepBack_43 : decode cX3_stepBack 43 = .ok (.aload_n 0, 1) := by decide +kernel
theorem dX3_stepBack_44 : decode cX3_stepBack 44 = .ok (.getfield 20, 3) := by decide +kernel
theorem dX3_stepBack_47 : decode cX3_stepBack 47 = .ok (.aload_n 1, 1) := by decide +kernel
theorem dX3_stepBack_48 : decode cX3_stepBack 48 = .ok (.invokevirtual 37, 3) := by decide +kernel
theorem dX3_stepBack_51 : decode cX3_stepBack 51 = .ok (.return_, 1) := by decide +kernel
theorem dX4_init_0 : decode cX4_init 0 = .ok (.aload_n 0, 1) := by decide +kernel
theorem dX4_init_1 : decode cX4_init 1 = .ok (.invokespecial 3, 3) := by decide +kernel
theorem dX4_init_4 : decode cX4_init 4 = .ok (.aload_n 0, 1) := by decide +kernel
theorem dX4_init_5 : decode cX4_init 5 = .ok (.new 9, 3) := by decide +kernel
theorem dX4_init_8 : decode cX4_init 8 = .ok (.dup, 1) := by decide +kernel
theorem dX4_init_9 : decode cX4_init 9 = .ok (.bipush 60, 2) := by decide +kernel
theorem dX4_init_11 : decode cX4_init 11 = .ok (.invokespecial 11, 3) := by decide +kernel
theorem dX4_init_14 : decode cX4_init 14 = .ok (.putfield 14, 3) := by decide +kernel
theorem dX4_init_17 : decode cX4_init 17 = .ok (.return_, 1) := by decide +kernel
theorem dX4_howMany_0 : decode cX4_howMany 0 = .ok (.iconst 0, 1) := by decide +kernel
theorem dX4_howMany_1 : decode cX4_howMany 1 = .ok (.istore_n 2, 1) := by decide +kernel
theorem dX4_howMany_2 : decode cX4_howMany 2 = .ok (.iconst 0, 1) := by decide +kernel
theorem dX4_howMany_3 : decode cX4_howMany 3 = .ok (.istore_n 3, 1) := by decide +kernel
theorem dX4_howMany_4 : decode cX4_howMany 4 = .ok (.iload_n 3, 1) := by decide +kernel
theorem dX4_howMany_5 : decode cX4_howMany 5 = .ok (.bipush 8, 2) := by decide +kernel
theorem dX4_howMany_7 : decode cX4_howMany 7 = .ok (.if_icmp .ge 55, 3) := by decide +kernel
theorem dX4_howMany_10 : decode cX4_howMany 10 = .ok (.lload_n 0, 1) := by decide +kernel
theorem dX4_howMany_11 : decode cX4_howMany 11 = .ok (.iload_n 3, 1) := by decide +kernel
theorem dX4_howMany_12 : decode cX4_howMany 12 = .ok (.invokestatic 20, 3) := by decide +kernel
theorem dX4_howMany_15 : decode cX4_howMany 15 = .ok (.istore 4, 2) := by decide +kernel
theorem dX4_howMany_17 : decode cX4_howMany 17 = .ok (.iload 4, 2) := by decide +kernel
theorem dX4_howMany_19 : decode cX4_howMany 19 = .ok (.ifCond .ne 20, 3) := by decide +kernel
theorem dX4_howMany_22 : decode cX4_howMany 22 = .ok (.lload_n 0, 1) := by decide +kernel
theorem dX4_howMany_23 : decode cX4_howMany 23 = .ok (.bipush 8, 2) := by decide +kernel
theorem dX4_howMany_25 : decode cX4_howMany 25 = .ok (.iload_n 3, 1) := by decide +kernel
theorem dX4_howMany_26 : decode cX4_howMany 26 = .ok (.imul, 1) := by decide +kernel
theorem dX4_howMany_27 : decode cX4_howMany 27 = .ok (.lushr, 1) := by decide +kernel
theorem dX4_howMany_28 : decode cX4_howMany 28 = .ok (.lconst 0, 1) := by decide +kernel
theorem dX4_howMany_29 : decode cX4_howMany 29 = .ok (.lcmp, 1) := by decide +kernel
theorem dX4_howMany_30 : decode cX4_howMany 30 = .ok (.ifCond .ne 7, 3) := by decide +kernel
theorem dX4_howMany_33 : decode cX4_howMany 33 = .ok (.iload_n 2, 1) := by decide +kernel
theorem dX4_howMany_34 : decode cX4_howMany 34 = .ok (.goto 4, 3) := by decide +kernel
theorem dX4_howMany_37 : decode cX4_howMany 37 = .ok (.iconst 0, 1) := by decide +kernel
theorem dX4_howMany_38 : decode cX4_howMany 38 = .ok (.ireturn, 1) := by decide +kernel
theorem dX4_howMany_39 : decode cX4_howMany 39 = .ok (.iload 4, 2) := by decide +kernel
theorem dX4_howMany_41 : decode cX4_howMany 41 = .ok (.bipush 33, 2) := by decide +kernel
theorem dX4_howMany_43 : decode cX4_howMany 43 = .ok (.bipush 126, 2) := by decide +kernel
theorem dX4_howMany_45 : decode cX4_howMany 45 = .ok (.invokestatic 24, 3) := by decide +kernel
theorem dX4_howMany_48 : decode cX4_howMany 48 = .ok (.ifCond .ne 5, 3) := by decide +kernel
theorem dX4_howMany_51 : decode cX4_howMany 51 = .ok (.iconst 0, 1) := by decide +kernel
theorem dX4_howMany_52 : decode cX4_howMany 52 = .ok (.ireturn, 1) := by decide +kernel
theorem dX4_howMany_53 : decode cX4_howMany 53 = .ok (.iinc 2 1, 3) := by decide +kernel
theorem dX4_howMany_56 : decode cX4_howMany 56 = .ok (.iinc 3 1, 3) := by decide +kernel
theorem dX4_howMany_59 : decode cX4_howMany 59 = .ok (.goto (-55), 3) := by decide +kernel
theorem dX4_howMany_62 : decode cX4_howMany 62 = .ok (.iload_n 2, 1) := by decide +kernel
theorem dX4_howMany_63 : decode cX4_howMany 63 = .ok (.ireturn, 1) := by decide +kernel
theorem dX4_signAt_0 : decode cX4_signAt 0 = .ok (.lload_n 0, 1) := by decide +kernel
theorem dX4_signAt_1 : decode cX4_signAt 1 = .ok (.bipush 8, 2) := by decide +kernel
theorem dX4_signAt_3 : decode cX4_signAt 3 = .ok (.iload_n 2, 1) := by decide +kernel
theorem dX4_signAt_4 : decode cX4_signAt 4 = .ok (.imul, 1) := by decide +kernel
theorem dX4_signAt_5 : decode cX4_signAt 5 = .ok (.lushr, 1) := by decide +kernel
theorem dX4_signAt_6 : decode cX4_signAt 6 = .ok (.ldc2_w 28, 3) := by decide +kernel
theorem dX4_signAt_9 : decode cX4_signAt 9 = .ok (.land, 1) := by decide +kernel
theorem dX4_signAt_10 : decode cX4_signAt 10 = .ok (.l2i, 1) := by decide +kernel
theorem dX4_signAt_11 : decode cX4_signAt 11 = .ok (.ireturn, 1) := by decide +kernel
theorem dX4_append_0 : decode cX4_append 0 = .ok (.iload_n 3, 1) := by decide +kernel
theorem dX4_append_1 : decode cX4_append 1 = .ok (.iconst 1, 1) := by decide +kernel
theorem dX4_append_2 : decode cX4_append 2 = .ok (.isub, 1) := by decide +kernel
theorem dX4_append_3 : decode cX4_append 3 = .ok (.istore 4, 2) := by decide +kernel
theorem dX4_append_5 : decode cX4_append 5 = .ok (.iload 4, 2) := by decide +kernel
theorem dX4_append_7 : decode cX4_append 7 = .ok (.ifCond .lt 45, 3) := by decide +kernel
theorem dX4_append_10 : decode cX4_append 10 = .ok (.aload_n 0, 1) := by decide +kernel
theorem dX4_append_11 : decode cX4_append 11 = .ok (.getfield 30, 3) := by decide +kernel
theorem dX4_append_14 : decode cX4_append 14 = .ok (.bipush 60, 2) := by decide +kernel
theorem dX4_append_16 : decode cX4_append 16 = .ok (.if_icmp .ge 36, 3) := by decide +kernel
theorem dX4_append_19 : decode cX4_append 19 = .ok (.aload_n 0, 1) := by decide +kernel
theorem dX4_append_20 : decode cX4_append 20 = .ok (.getfield 14, 3) := by decide +kernel
theorem dX4_append_23 : decode cX4_append 23 = .ok (.aload_n 0, 1) := by decide +kernel
theorem dX4_append_24 : decode cX4_append 24 = .ok (.getfield 30, 3) := by decide +kernel
theorem dX4_append_27 : decode cX4_append 27 = .ok (.lload_n 1, 1) := by decide +kernel
theorem dX4_append_28 : decode cX4_append 28 = .ok (.iload 4, 2) := by decide +kernel
theorem dX4_append_30 : decode cX4_append 30 = .ok (.invokestatic 20, 3) := by decide +kernel
theorem dX4_append_33 : decode cX4_append 33 = .ok (.invokevirtual 34, 3) := by decide +kernel
theorem dX4_append_36 : decode cX4_append 36 = .ok (.aload_n 0, 1) := by decide +kernel
theorem dX4_append_37 : decode cX4_append 37 = .ok (.dup, 1) := by decide +kernel
theorem dX4_append_38 : decode cX4_append 38 = .ok (.getfield 30, 3) := by decide +kernel
theorem dX4_append_41 : decode cX4_append 41 = .ok (.iconst 1, 1) := by decide +kernel
theorem dX4_append_42 : decode cX4_append 42 = .ok (.iadd, 1) := by decide +kernel
theorem dX4_append_43 : decode cX4_append 43 = .ok (.putfield 30, 3) := by decide +kernel
theorem dX4_append_46 : decode cX4_append 46 = .ok (.iinc 4 (-1), 3) := by decide +kernel
theorem dX4_append_49 : decode cX4_append 49 = .ok (.goto (-44), 3) := by decide +kernel
theorem dX4_append_52 : decode cX4_append 52 = .ok (.return_, 1) := by decide +kernel
theorem dX4_firstFault_0 : decode cX4_firstFault 0 = .ok (.iconst 0, 1) := by decide +kernel
theorem dX4_firstFault_1 : decode cX4_firstFault 1 = .ok (.istore_n 1, 1) := by decide +kernel
theorem dX4_firstFault_2 : decode cX4_firstFault 2 = .ok (.iload_n 1, 1) := by decide +kernel
theorem dX4_firstFault_3 : decode cX4_firstFault 3 = .ok (.aload_n 0, 1) := by decide +kernel
theorem dX4_firstFault_4 : decode cX4_firstFault 4 = .ok (.getfield 30, 3) := by decide +kernel
theorem dX4_firstFault_7 : decode cX4_firstFault 7 = .ok (.if_icmp .ge 19, 3) := by decide +kernel
theorem dX4_firstFault_10 : decode cX4_firstFault 10 = .ok (.aload_n 0, 1) := by decide +kernel
theorem dX4_firstFault_11 : decode cX4_firstFault 11 = .ok (.iload_n 1, 1) := by decide +kernel
theorem dX4_firstFault_12 : decode cX4_firstFault 12 = .ok (.invokevirtual 38, 3) := by decide +kernel
theorem dX4_firstFault_15 : decode cX4_firstFault 15 = .ok (.ifCond .ne 5, 3) := by decide +kernel
theorem dX4_firstFault_18 : decode cX4_firstFault 18 = .ok (.iload_n 1, 1) := by decide +kernel
theorem dX4_firstFault_19 : decode cX4_firstFault 19 = .ok (.ireturn, 1) := by decide +kernel
theorem dX4_firstFault_20 : decode cX4_firstFault 20 = .ok (.iinc 1 1, 3) := by decide +kernel
theorem dX4_firstFault_23 : decode cX4_firstFault 23 = .ok (.goto (-21), 3) := by decide +kernel
theorem dX4_firstFault_26 : decode cX4_firstFault 26 = .ok (.aload_n 0, 1) := by decide +kernel
theorem dX4_firstFault_27 : decode cX4_firstFault 27 = .ok (.getfield 30, 3) := by decide +kernel
theorem dX4_firstFault_30 : decode cX4_firstFault 30 = .ok (.iconst 5, 1) := by decide +kernel
theorem dX4_firstFault_31 : decode cX4_firstFault 31 = .ok (.irem, 1) := by decide +kernel
theorem dX4_firstFault_32 : decode cX4_firstFault 32 = .ok (.iconst 4, 1) := by decide +kernel
theorem dX4_firstFault_33 : decode cX4_firstFault 33 = .ok (.if_icmp .ne 8, 3) := by decide +kernel
theorem dX4_firstFault_36 : decode cX4_firstFault 36 = .ok (.bipush (-6), 2) := by decide +kernel
theorem dX4_firstFault_38 : decode cX4_firstFault 38 = .ok (.goto 7, 3) := by decide +kernel
theorem dX4_firstFault_41 : decode cX4_firstFault 41 = .ok (.aload_n 0, 1) := by decide +kernel
theorem dX4_firstFault_42 : decode cX4_firstFault 42 = .ok (.getfield 30, 3) := by decide +kernel
theorem dX4_firstFault_45 : decode cX4_firstFault 45 = .ok (.ireturn, 1) := by decide +kernel
theorem dX4_canStand_0 : decode cX4_canStand 0 = .ok (.aload_n 0, 1) := by decide +kernel
theorem dX4_canStand_1 : decode cX4_canStand 1 = .ok (.getfield 14, 3) := by decide +kernel
theorem dX4_canStand_4 : decode cX4_canStand 4 = .ok (.iload_n 1, 1) := by decide +kernel
theorem dX4_canStand_5 : decode cX4_canStand 5 = .ok (.invokevirtual 42, 3) := by decide +kernel
theorem dX4_canStand_8 : decode cX4_canStand 8 = .ok (.istore_n 2, 1) := by decide +kernel
theorem dX4_canStand_9 : decode cX4_canStand 9 = .ok (.iload_n 1, 1) := by decide +kernel
theorem dX4_canStand_10 : decode cX4_canStand 10 = .ok (.iconst 5, 1) := by decide +kernel
theorem dX4_canStand_11 : decode cX4_canStand 11 = .ok (.irem, 1) := by decide +kernel
theorem dX4_canStand_12 : decode cX4_canStand 12 = .ok (.tableswitch 80 0 4 #[36, 41, 80, 80, 68], 36) := by decide +kernel
theorem dX4_canStand_48 : decode cX4_canStand 48 = .ok (.iload_n 2, 1) := by decide +kernel
theorem dX4_canStand_49 : decode cX4_canStand 49 = .ok (.invokestatic 46, 3) := by decide +kernel
theorem dX4_canStand_52 : decode cX4_canStand 52 = .ok (.ireturn, 1) := by decide +kernel
theorem dX4_canStand_53 : decode cX4_canStand 53 = .ok (.iload_n 2, 1) := by decide +kernel
theorem dX4_canStand_54 : decode cX4_canStand 54 = .ok (.invokestatic 46, 3) := by decide +kernel
theorem dX4_canStand_57 : decode cX4_canStand 57 = .ok (.ifCond .eq 21, 3) := by decide +kernel
theorem dX4_canStand_60 : decode cX4_canStand 60 = .ok (.iload_n 2, 1) := by decide +kernel
theorem dX4_canStand_61 : decode cX4_canStand 61 = .ok (.aload_n 0, 1) := by decide +kernel
theorem dX4_canStand_62 : decode cX4_canStand 62 = .ok (.getfield 14, 3) := by decide +kernel
theorem dX4_canStand_65 : decode cX4_canStand 65 = .ok (.iload_n 1, 1) := by decide +kernel
theorem dX4_canStand_66 : decode cX4_canStand 66 = .ok (.iconst 1, 1) := by decide +kernel
theorem dX4_canStand_67 : decode cX4_canStand 67 = .ok (.isub, 1) := by decide +kernel
theorem dX4_canStand_68 : decode cX4_canStand 68 = .ok (.invokevirtual 42, 3) := by decide +kernel
theorem dX4_canStand_71 : decode cX4_canStand 71 = .ok (.if_icmp .eq 7, 3) := by decide +kernel
theorem dX4_canStand_74 : decode cX4_canStand 74 = .ok (.iconst 1, 1) := by decide +kernel
theorem dX4_canStand_75 : decode cX4_canStand 75 = .ok (.goto 4, 3) := by decide +kernel
theorem dX4_canStand_78 : decode cX4_canStand 78 = .ok (.iconst 0, 1) := by decide +kernel
theorem dX4_canStand_79 : decode cX4_canStand 79 = .ok (.ireturn, 1) := by decide +kernel
theorem dX4_canStand_80 : decode cX4_canStand 80 = .ok (.iload_n 2, 1) := by decide +kernel
theorem dX4_canStand_81 : decode cX4_canStand 81 = .ok (.bipush 59, 2) := by decide +kernel
theorem dX4_canStand_83 : decode cX4_canStand 83 = .ok (.if_icmp .ne 7, 3) := by decide +kernel
theorem dX4_canStand_86 : decode cX4_canStand 86 = .ok (.iconst 1, 1) := by decide +kernel
theorem dX4_canStand_87 : decode cX4_canStand 87 = .ok (.goto 4, 3) := by decide +kernel
theorem dX4_canStand_90 : decode cX4_canStand 90 = .ok (.iconst 0, 1) := by decide +kernel
theorem dX4_canStand_91 : decode cX4_canStand 91 = .ok (.ireturn, 1) := by decide +kernel
theorem dX4_canStand_92 : decode cX4_canStand 92 = .ok (.iload_n 2, 1) := by decide +kernel
theorem dX4_canStand_93 : decode cX4_canStand 93 = .ok (.bipush 49, 2) := by decide +kernel
theorem dX4_canStand_95 : decode cX4_canStand 95 = .ok (.bipush 57, 2) := by decide +kernel
theorem dX4_canStand_97 : decode cX4_canStand 97 = .ok (.invokestatic 24, 3) := by decide +kernel
theorem dX4_canStand_100 : decode cX4_canStand 100 = .ok (.ireturn, 1) := by decide +kernel
theorem dX4_isLetter_0 : decode cX4_isLetter 0 = .ok (.iload_n 0, 1) := by decide +kernel
theorem dX4_isLetter_1 : decode cX4_isLetter 1 = .ok (.bipush 97, 2) := by decide +kernel
theorem dX4_isLetter_3 : decode cX4_isLetter 3 = .ok (.bipush 106, 2) := by decide +kernel
theorem dX4_isLetter_5 : decode cX4_isLetter 5 = .ok (.invokestatic 24, 3) := by decide +kernel
theorem dX4_isLetter_8 : decode cX4_isLetter 8 = .ok (.ireturn, 1) := by decide +kernel
theorem dX4_boardsInText_0 : decode cX4_boardsInText 0 = .ok (.aload_n 0, 1) := by decide +kernel
theorem dX4_boardsInText_1 : decode cX4_boardsInText 1 = .ok (.getfield 30, 3) := by decide +kernel
theorem dX4_boardsInText_4 : decode cX4_boardsInText 4 = .ok (.iconst 1, 1) := by decide +kernel
theorem dX4_boardsInText_5 : decode cX4_boardsInText 5 = .ok (.iadd, 1) := by decide +kernel
theorem dX4_boardsInText_6 : decode cX4_boardsInText 6 = .ok (.iconst 5, 1) := by decide +kernel
theorem dX4_boardsInText_7 : decode cX4_boardsInText 7 = .ok (.idiv, 1) := by decide +kernel
theorem dX4_boardsInText_8 : decode cX4_boardsInText 8 = .ok (.ireturn, 1) := by decide +kernel
theorem dX4_layAllInto_0 : decode cX4_layAllInto 0 = .ok (.iconst 0, 1) := by decide +kernel
theorem dX4_layAllInto_1 : decode cX4_layAllInto 1 = .ok (.istore_n 2, 1) := by decide +kernel
theorem dX4_layAllInto_2 : decode cX4_layAllInto 2 = .ok (.iload_n 2, 1) := by decide +kernel
theorem dX4_layAllInto_3 : decode cX4_layAllInto 3 = .ok (.iconst 5, 1) := by decide +kernel
theorem dX4_layAllInto_4 : decode cX4_layAllInto 4 = .ok (.iadd, 1) := by decide +kernel
theorem dX4_layAllInto_5 : decode cX4_layAllInto 5 = .ok (.iconst 2, 1) := by decide +kernel
theorem dX4_layAllInto_6 : decode cX4_layAllInto 6 = .ok (.isub, 1) := by decide +kernel
theorem dX4_layAllInto_7 : decode cX4_layAllInto 7 = .ok (.aload_n 0, 1) := by decide +kernel
theorem dX4_layAllInto_8 : decode cX4_layAllInto 8 = .ok (.getfield 30, 3) := by decide +kernel
theorem dX4_layAllInto_11 : decode cX4_layAllInto 11 = .ok (.if_icmp .ge 63, 3) := by decide +kernel
theorem dX4_layAllInto_14 : decode cX4_layAllInto 14 = .ok (.aload_n 1, 1) := by decide +kernel
theorem dX4_layAllInto_15 : decode cX4_layAllInto 15 = .ok (.aload_n 0, 1) := by decide +kernel
theorem dX4_layAllInto_16 : decode cX4_layAllInto 16 = .ok (.getfield 14, 3) := by decide +kernel
theorem dX4_layAllInto_19 : decode cX4_layAllInto 19 = .ok (.iload_n 2, 1) := by decide +kernel
theorem dX4_layAllInto_20 : decode cX4_layAllInto 20 = .ok (.invokevirtual 42, 3) := by decide +kernel
theorem dX4_layAllInto_23 : decode cX4_layAllInto 23 = .ok (.bipush 97, 2) := by decide +kernel
theorem dX4_layAllInto_25 : decode cX4_layAllInto 25 = .ok (.isub, 1) := by decide +kernel
theorem dX4_layAllInto_26 : decode cX4_layAllInto 26 = .ok (.aload_n 0, 1) := by decide +kernel
theorem dX4_layAllInto_27 : decode cX4_layAllInto 27 = .ok (.getfield 14, 3) := by decide +kernel
theorem dX4_layAllInto_30 : decode cX4_layAllInto 30 = .ok (.iload_n 2, 1) := by decide +kernel
theorem dX4_layAllInto_31 : decode cX4_layAllInto 31 = .ok (.iconst 1, 1) := by decide +kernel
theorem dX4_layAllInto_32 : decode cX4_layAllInto 32 = .ok (.iadd, 1) := by decide +kernel
theorem dX4_layAllInto_33 : decode cX4_layAllInto 33 = .ok (.invokevirtual 42, 3) := by decide +kernel
theorem dX4_layAllInto_36 : decode cX4_layAllInto 36 = .ok (.bipush 97, 2) := by decide +kernel
theorem dX4_layAllInto_38 : decode cX4_layAllInto 38 = .ok (.isub, 1) := by decide +kernel
theorem dX4_layAllInto_39 : decode cX4_layAllInto 39 = .ok (.aload_n 0, 1) := by decide +kernel
theorem dX4_layAllInto_40 : decode cX4_layAllInto 40 = .ok (.getfield 14, 3) := by decide +kernel
theorem dX4_layAllInto_43 : decode cX4_layAllInto 43 = .ok (.iload_n 2, 1) := by decide +kernel
theorem dX4_layAllInto_44 : decode cX4_layAllInto 44 = .ok (.iconst 2, 1) := by decide +kernel
theorem dX4_layAllInto_45 : decode cX4_layAllInto 45 = .ok (.iadd, 1) := by decide +kernel
theorem dX4_layAllInto_46 : decode cX4_layAllInto 46 = .ok (.invokevirtual 42, 3) := by decide +kernel
theorem dX4_layAllInto_49 : decode cX4_layAllInto 49 = .ok (.bipush 48, 2) := by decide +kernel
theorem dX4_layAllInto_51 : decode cX4_layAllInto 51 = .ok (.isub, 1) := by decide +kernel
theorem dX4_layAllInto_52 : decode cX4_layAllInto 52 = .ok (.aload_n 0, 1) := by decide +kernel
theorem dX4_layAllInto_53 : decode cX4_layAllInto 53 = .ok (.getfield 14, 3) := by decide +kernel
theorem dX4_layAllInto_56 : decode cX4_layAllInto 56 = .ok (.iload_n 2, 1) := by decide +kernel
theorem dX4_layAllInto_57 : decode cX4_layAllInto 57 = .ok (.iconst 3, 1) := by decide +kernel
theorem dX4_layAllInto_58 : decode cX4_layAllInto 58 = .ok (.iadd, 1) := by decide +kernel
theorem dX4_layAllInto_59 : decode cX4_layAllInto 59 = .ok (.invokevirtual 42, 3) := by decide +kernel
theorem dX4_layAllInto_62 : decode cX4_layAllInto 62 = .ok (.bipush 48, 2) := by decide +kernel
theorem dX4_layAllInto_64 : decode cX4_layAllInto 64 = .ok (.isub, 1) := by decide +kernel
theorem dX4_layAllInto_65 : decode cX4_layAllInto 65 = .ok (.invokevirtual 49, 3) := by decide +kernel
theorem dX4_layAllInto_68 : decode cX4_layAllInto 68 = .ok (.iinc 2 5, 3) := by decide +kernel
theorem dX4_layAllInto_71 : decode cX4_layAllInto 71 = .ok (.goto (-69), 3) := by decide +kernel
theorem dX4_layAllInto_74 : decode cX4_layAllInto 74 = .ok (.return_, 1) := by decide +kernel
theorem dX5_init_0 : decode cX5_init 0 = .ok (.aload_n 0, 1) := by decide +kernel
theorem dX5_init_1 : decode cX5_init 1 = .ok (.invokespecial 1, 3) := by decide +kernel
theorem dX5_init_4 : decode cX5_init 4 = .ok (.aload_n 0, 1) := by decide +kernel
theorem dX5_init_5 : decode cX5_init 5 = .ok (.iload_n 1, 1) := by decide +kernel
theorem dX5_init_6 : decode cX5_init 6 = .ok (.iconst 0, 1) := by decide +kernel
theorem dX5_init_7 : decode cX5_init 7 = .ok (.invokestatic 7, 3) := by decide +kernel
theorem dX5_init_10 : decode cX5_init 10 = .ok (.newarray .int, 2) := by decide +kernel
theorem dX5_init_12 : decode cX5_init 12 = .ok (.putfield 13, 3) := by decide +kernel
theorem dX5_init_15 : decode cX5_init 15 = .ok (.return_, 1) := by decide +kernel
theorem dX5_reaches_0 : decode cX5_reaches 0 = .ok (.iload_n 1, 1) := by decide +kernel
theorem dX5_reaches_1 : decode cX5_reaches 1 = .ok (.ifCond .lt 16, 3) := by decide +kernel
theorem dX5_reaches_4 : decode cX5_reaches 4 = .ok (.iload_n 1, 1) := by decide +kernel
theorem dX5_reaches_5 : decode cX5_reaches 5 = .ok (.aload_n 0, 1) := by decide +kernel
theorem dX5_reaches_6 : decode cX5_reaches 6 = .ok (.getfield 13, 3) := by decide +kernel
theorem dX5_reaches_9 : decode cX5_reaches 9 = .ok (.arraylength, 1) := by decide +kernel
theorem dX5_reaches_10 : decode cX5_reaches 10 = .ok (.if_icmp .ge 7, 3) := by decide +kernel
theorem dX5_reaches_13 : decode cX5_reaches 13 = .ok (.iconst 1, 1) := by decide +kernel
theorem dX5_reaches_14 : decode cX5_reaches 14 = .ok (.goto 4, 3) := by decide +kernel
theorem dX5_reaches_17 : decode cX5_reaches 17 = .ok (.iconst 0, 1) := by decide +kernel
theorem dX5_reaches_18 : decode cX5_reaches 18 = .ok (.ireturn, 1) := by decide +kernel
theorem dX5_at_0 : decode cX5_at 0 = .ok (.aload_n 0, 1) := by decide +kernel
theorem dX5_at_1 : decode cX5_at 1 = .ok (.iload_n 1, 1) := by decide +kernel
theorem dX5_at_2 : decode cX5_at 2 = .ok (.invokevirtual 19, 3) := by decide +kernel
theorem dX5_at_5 : decode cX5_at 5 = .ok (.ifCond .eq 12, 3) := by decide +kernel
theorem dX5_at_8 : decode cX5_at 8 = .ok (.aload_n 0, 1) := by decide +kernel
theorem dX5_at_9 : decode cX5_at 9 = .ok (.getfield 13, 3) := by decide +kernel
theorem dX5_at_12 : decode cX5_at 12 = .ok (.iload_n 1, 1) := by decide +kernel
theorem dX5_at_13 : decode cX5_at 13 = .ok (.iaload, 1) := by decide +kernel
theorem dX5_at_14 : decode cX5_at 14 = .ok (.goto 4, 3) := by decide +kernel
theorem dX5_at_17 : decode cX5_at 17 = .ok (.iconst 0, 1) := by decide +kernel
theorem dX5_at_18 : decode cX5_at 18 = .ok (.ireturn, 1) := by decide +kernel
theorem dX5_store_0 : decode cX5_store 0 = .ok (.aload_n 0, 1) := by decide +kernel
theorem dX5_store_1 : decode cX5_store 1 = .ok (.iload_n 1, 1) := by decide +kernel
theorem dX5_store_2 : decode cX5_store 2 = .ok (.invokevirtual 19, 3) := by decide +kernel
theorem dX5_store_5 : decode cX5_store 5 = .ok (.ifCond .eq 10, 3) := by decide +kernel
theorem dX5_store_8 : decode cX5_store 8 = .ok (.aload_n 0, 1) := by decide +kernel
theorem dX5_store_9 : decode cX5_store 9 = .ok (.getfield 13, 3) := by decide +kernel
theorem dX5_store_12 : decode cX5_store 12 = .ok (.iload_n 1, 1) := by decide +kernel
theorem dX5_store_13 : decode cX5_store 13 = .ok (.iload_n 2, 1) := by decide +kernel
theorem dX5_store_14 : decode cX5_store 14 = .ok (.iastore, 1) := by decide +kernel
theorem dX5_store_15 : decode cX5_store 15 = .ok (.return_, 1) := by decide +kernel
theorem dX5_increase_0 : decode cX5_increase 0 = .ok (.aload_n 0, 1) := by decide +kernel
theorem dX5_increase_1 : decode cX5_increase 1 = .ok (.iload_n 1, 1) := by decide +kernel
theorem dX5_increase_2 : decode cX5_increase 2 = .ok (.aload_n 0, 1) := by decide +kernel
theorem dX5_increase_3 : decode cX5_increase 3 = .ok (.iload_n 1, 1) := by decide +kernel
theorem dX5_increase_4 : decode cX5_increase 4 = .ok (.invokevirtual 23, 3) := by decide +kernel
theorem dX5_increase_7 : decode cX5_increase 7 = .ok (.iconst 1, 1) := by decide +kernel
theorem dX5_increase_8 : decode cX5_increase 8 = .ok (.iadd, 1) := by decide +kernel
theorem dX5_increase_9 : decode cX5_increase 9 = .ok (.invokevirtual 27, 3) := by decide +kernel
theorem dX5_increase_12 : decode cX5_increase 12 = .ok (.return_, 1) := by decide +kernel
theorem dX5_fill_0 : decode cX5_fill 0 = .ok (.iconst 0, 1) := by decide +kernel
theorem dX5_fill_1 : decode cX5_fill 1 = .ok (.istore_n 2, 1) := by decide +kernel
theorem dX5_fill_2 : decode cX5_fill 2 = .ok (.iload_n 2, 1) := by decide +kernel
theorem dX5_fill_3 : decode cX5_fill 3 = .ok (.aload_n 0, 1) := by decide +kernel
theorem dX5_fill_4 : decode cX5_fill 4 = .ok (.getfield 13, 3) := by decide +kernel
theorem dX5_fill_7 : decode cX5_fill 7 = .ok (.arraylength, 1) := by decide +kernel
theorem dX5_fill_8 : decode cX5_fill 8 = .ok (.if_icmp .ge 16, 3) := by decide +kernel
theorem dX5_fill_11 : decode cX5_fill 11 = .ok (.aload_n 0, 1) := by decide +kernel
theorem dX5_fill_12 : decode cX5_fill 12 = .ok (.getfield 13, 3) := by decide +kernel
theorem dX5_fill_15 : decode cX5_fill 15 = .ok (.iload_n 2, 1) := by decide +kernel
theorem dX5_fill_16 : decode cX5_fill 16 = .ok (.iload_n 1, 1) := by decide +kernel
theorem dX5_fill_17 : decode cX5_fill 17 = .ok (.iastore, 1) := by decide +kernel
theorem dX5_fill_18 : decode cX5_fill 18 = .ok (.iinc 2 1, 3) := by decide +kernel
theorem dX5_fill_21 : decode cX5_fill 21 = .ok (.goto (-19), 3) := by decide +kernel
theorem dX5_fill_24 : decode cX5_fill 24 = .ok (.return_, 1) := by decide +kernel
theorem dX5_moveUpBehind_0 : decode cX5_moveUpBehind 0 = .ok (.iload_n 1, 1) := by decide +kernel
theorem dX5_moveUpBehind_1 : decode cX5_moveUpBehind 1 = .ok (.iconst 0, 1) := by decide +kernel
theorem dX5_moveUpBehind_2 : decode cX5_moveUpBehind 2 = .ok (.invokestatic 7, 3) := by decide +kernel
theorem dX5_moveUpBehind_5 : decode cX5_moveUpBehind 5 = .ok (.istore_n 2, 1) := by decide +kernel
theorem dX5_moveUpBehind_6 : decode cX5_moveUpBehind 6 = .ok (.iload_n 2, 1) := by decide +kernel
theorem dX5_moveUpBehind_7 : decode cX5_moveUpBehind 7 = .ok (.aload_n 0, 1) := by decide +kernel
theorem dX5_moveUpBehind_8 : decode cX5_moveUpBehind 8 = .ok (.getfield 13, 3) := by decide +kernel
theorem dX5_moveUpBehind_11 : decode cX5_moveUpBehind 11 = .ok (.arraylength, 1) := by decide +kernel
theorem dX5_moveUpBehind_12 : decode cX5_moveUpBehind 12 = .ok (.iconst 1, 1) := by decide +kernel
theorem dX5_moveUpBehind_13 : decode cX5_moveUpBehind 13 = .ok (.isub, 1) := by decide +kernel
theorem dX5_moveUpBehind_14 : decode cX5_moveUpBehind 14 = .ok (.if_icmp .ge 23, 3) := by decide +kernel
theorem dX5_moveUpBehind_17 : decode cX5_moveUpBehind 17 = .ok (.aload_n 0, 1) := by decide +kernel
theorem dX5_moveUpBehind_18 : decode cX5_moveUpBehind 18 = .ok (.getfield 13, 3) := by decide +kernel
theorem dX5_moveUpBehind_21 : decode cX5_moveUpBehind 21 = .ok (.iload_n 2, 1) := by decide +kernel
theorem dX5_moveUpBehind_22 : decode cX5_moveUpBehind 22 = .ok (.aload_n 0, 1) := by decide +kernel
theorem dX5_moveUpBehind_23 : decode cX5_moveUpBehind 23 = .ok (.getfield 13, 3) := by decide +kernel
theorem dX5_moveUpBehind_26 : decode cX5_moveUpBehind 26 = .ok (.iload_n 2, 1) := by decide +kernel
theorem dX5_moveUpBehind_27 : decode cX5_moveUpBehind 27 = .ok (.iconst 1, 1) := by decide +kernel
theorem dX5_moveUpBehind_28 : decode cX5_moveUpBehind 28 = .ok (.iadd, 1) := by decide +kernel
theorem dX5_moveUpBehind_29 : decode cX5_moveUpBehind 29 = .ok (.iaload, 1) := by decide +kernel
theorem dX5_moveUpBehind_30 : decode cX5_moveUpBehind 30 = .ok (.iastore, 1) := by decide +kernel
theorem dX5_moveUpBehind_31 : decode cX5_moveUpBehind 31 = .ok (.iinc 2 1, 3) := by decide +kernel
theorem dX5_moveUpBehind_34 : decode cX5_moveUpBehind 34 = .ok (.goto (-28), 3) := by decide +kernel
theorem dX5_moveUpBehind_37 : decode cX5_moveUpBehind 37 = .ok (.return_, 1) := by decide +kernel
theorem dX5_copyFrom_0 : decode cX5_copyFrom 0 = .ok (.aload_n 1, 1) := by decide +kernel
theorem dX5_copyFrom_1 : decode cX5_copyFrom 1 = .ok (.getfield 13, 3) := by decide +kernel
theorem dX5_copyFrom_4 : decode cX5_copyFrom 4 = .ok (.iconst 0, 1) := by decide +kernel
theorem dX5_copyFrom_5 : decode cX5_copyFrom 5 = .ok (.aload_n 0, 1) := by decide +kernel
theorem dX5_copyFrom_6 : decode cX5_copyFrom 6 = .ok (.getfield 13, 3) := by decide +kernel
theorem dX5_copyFrom_9 : decode cX5_copyFrom 9 = .ok (.iconst 0, 1) := by decide +kernel
theorem dX5_copyFrom_10 : decode cX5_copyFrom 10 = .ok (.aload_n 1, 1) := by decide +kernel
theorem dX5_copyFrom_11 : decode cX5_copyFrom 11 = .ok (.getfield 13, 3) := by decide +kernel
theorem dX5_copyFrom_14 : decode cX5_copyFrom 14 = .ok (.arraylength, 1) := by decide +kernel
theorem dX5_copyFrom_15 : decode cX5_copyFrom 15 = .ok (.aload_n 0, 1) := by decide +kernel
theorem dX5_copyFrom_16 : decode cX5_copyFrom 16 = .ok (.getfield 13, 3) := by decide +kernel
theorem dX5_copyFrom_19 : decode cX5_copyFrom 19 = .ok (.arraylength, 1) := by decide +kernel
theorem dX5_copyFrom_20 : decode cX5_copyFrom 20 = .ok (.invokestatic 31, 3) := by decide +kernel
theorem dX5_copyFrom_23 : decode cX5_copyFrom 23 = .ok (.invokestatic 34, 3) := by decide +kernel
theorem dX5_copyFrom_26 : decode cX5_copyFrom 26 = .ok (.return_, 1) := by decide +kernel
theorem dX6_init_0 : decode cX6_init 0 = .ok (.aload_n 0, 1) := by decide +kernel
theorem dX6_init_1 : decode cX6_init 1 = .ok (.invokespecial 1, 3) := by decide +kernel
theorem dX6_init_4 : decode cX6_init 4 = .ok (.aload_n 0, 1) := by decide +kernel
theorem dX6_init_5 : decode cX6_init 5 = .ok (.iload_n 1, 1) := by decide +kernel
theorem dX6_init_6 : decode cX6_init 6 = .ok (.iconst 0, 1) := by decide +kernel
theorem dX6_init_7 : decode cX6_init 7 = .ok (.invokestatic 7, 3) := by decide +kernel
theorem dX6_init_10 : decode cX6_init 10 = .ok (.anewarray 13, 3) := by decide +kernel
theorem dX6_init_13 : decode cX6_init 13 = .ok (.putfield 15, 3) := by decide +kernel
theorem dX6_init_16 : decode cX6_init 16 = .ok (.iconst 0, 1) := by decide +kernel
theorem dX6_init_17 : decode cX6_init 17 = .ok (.istore_n 2, 1) := by decide +kernel
theorem dX6_init_18 : decode cX6_init 18 = .ok (.iload_n 2, 1) := by decide +kernel
theorem dX6_init_19 : decode cX6_init 19 = .ok (.aload_n 0, 1) := by decide +kernel
theorem dX6_init_20 : decode cX6_init 20 = .ok (.getfield 15, 3) := by decide +kernel
theorem dX6_init_23 : decode cX6_init 23 = .ok (.arraylength, 1) := by decide +kernel
theorem dX6_init_24 : decode cX6_init 24 = .ok (.if_icmp .ge 22, 3) := by decide +kernel
theorem dX6_init_27 : decode cX6_init 27 = .ok (.aload_n 0, 1) := by decide +kernel
theorem dX6_init_28 : decode cX6_init 28 = .ok (.getfield 15, 3) := by decide +kernel
theorem dX6_init_31 : decode cX6_init 31 = .ok (.iload_n 2, 1) := by decide +kernel
theorem dX6_init_32 : decode cX6_init 32 = .ok (.new 13, 3) := by decide +kernel
theorem dX6_init_35 : decode cX6_init 35 = .ok (.dup, 1) := by decide +kernel
theorem dX6_init_36 : decode cX6_init 36 = .ok (.invokespecial 21, 3) := by decide +kernel
theorem dX6_init_39 : decode cX6_init 39 = .ok (.aastore, 1) := by decide +kernel
theorem dX6_init_40 : decode cX6_init 40 = .ok (.iinc 2 1, 3) := by decide +kernel
theorem dX6_init_43 : decode cX6_init 43 = .ok (.goto (-25), 3) := by decide +kernel
theorem dX6_init_46 : decode cX6_init 46 = .ok (.return_, 1) := by decide +kernel
theorem dX6_has_0 : decode cX6_has 0 = .ok (.iload_n 1, 1) := by decide +kernel
theorem dX6_has_1 : decode cX6_has 1 = .ok (.ifCond .lt 25, 3) := by decide +kernel
theorem dX6_has_4 : decode cX6_has 4 = .ok (.iload_n 1, 1) := by decide +kernel
theorem dX6_has_5 : decode cX6_has 5 = .ok (.aload_n 0, 1) := by decide +kernel
theorem dX6_has_6 : decode cX6_has 6 = .ok (.getfield 15, 3) := by decide +kernel
theorem dX6_has_9 : decode cX6_has 9 = .ok (.arraylength, 1) := by decide +kernel
theorem dX6_has_10 : decode cX6_has 10 = .ok (.if_icmp .ge 16, 3) := by decide +kernel
theorem dX6_has_13 : decode cX6_has 13 = .ok (.aload_n 0, 1) := by decide +kernel
theorem dX6_has_14 : decode cX6_has 14 = .ok (.getfield 15, 3) := by decide +kernel
theorem dX6_has_17 : decode cX6_has 17 = .ok (.iload_n 1, 1) := by decide +kernel
theorem dX6_has_18 : decode cX6_has 18 = .ok (.aaload, 1) := by decide +kernel
theorem dX6_has_19 : decode cX6_has 19 = .ok (.ifnull 7, 3) := by decide +kernel
theorem dX6_has_22 : decode cX6_has 22 = .ok (.iconst 1, 1) := by decide +kernel
theorem dX6_has_23 : decode cX6_has 23 = .ok (.goto 4, 3) := by decide +kernel
theorem dX6_has_26 : decode cX6_has 26 = .ok (.iconst 0, 1) := by decide +kernel
theorem dX6_has_27 : decode cX6_has 27 = .ok (.ireturn, 1) := by decide +kernel
theorem dX6_keep_0 : decode cX6_keep 0 = .ok (.aload_n 0, 1) := by decide +kernel
theorem dX6_keep_1 : decode cX6_keep 1 = .ok (.iload_n 1, 1) := by decide +kernel
theorem dX6_keep_2 : decode cX6_keep 2 = .ok (.invokevirtual 22, 3) := by decide +kernel
theorem dX6_keep_5 : decode cX6_keep 5 = .ok (.ifCond .eq 13, 3) := by decide +kernel
theorem dX6_keep_8 : decode cX6_keep 8 = .ok (.aload_n 0, 1) := by decide +kernel
theorem dX6_keep_9 : decode cX6_keep 9 = .ok (.getfield 15, 3) := by decide +kernel
theorem dX6_keep_12 : decode cX6_keep 12 = .ok (.iload_n 1, 1) := by decide +kernel
theorem dX6_keep_13 : decode cX6_keep 13 = .ok (.aaload, 1) := by decide +kernel
theorem dX6_keep_14 : decode cX6_keep 14 = .ok (.aload_n 2, 1) := by decide +kernel
theorem dX6_keep_15 : decode cX6_keep 15 = .ok (.invokevirtual 26, 3) := by decide +kernel
theorem dX6_keep_18 : decode cX6_keep 18 = .ok (.return_, 1) := by decide +kernel
theorem dX6_fetch_0 : decode cX6_fetch 0 = .ok (.aload_n 0, 1) := by decide +kernel
theorem dX6_fetch_1 : decode cX6_fetch 1 = .ok (.iload_n 1, 1) := by decide +kernel
theorem dX6_fetch_2 : decode cX6_fetch 2 = .ok (.invokevirtual 22, 3) := by decide +kernel
theorem dX6_fetch_5 : decode cX6_fetch 5 = .ok (.ifCond .eq 13, 3) := by decide +kernel
theorem dX6_fetch_8 : decode cX6_fetch 8 = .ok (.aload_n 2, 1) := by decide +kernel
theorem dX6_fetch_9 : decode cX6_fetch 9 = .ok (.aload_n 0, 1) := by decide +kernel
theorem dX6_fetch_10 : decode cX6_fetch 10 = .ok (.getfield 15, 3) := by decide +kernel
theorem dX6_fetch_13 : decode cX6_fetch 13 = .ok (.iload_n 1, 1) := by decide +kernel
theorem dX6_fetch_14 : decode cX6_fetch 14 = .ok (.aaload, 1) := by decide +kernel
theorem dX6_fetch_15 : decode cX6_fetch 15 = .ok (.invokevirtual 26, 3) := by decide +kernel
theorem dX6_fetch_18 : decode cX6_fetch 18 = .ok (.return_, 1) := by decide +kernel
theorem dX7_init_0 : decode cX7_init 0 = .ok (.aload_n 0, 1) := by decide +kernel
theorem dX7_init_1 : decode cX7_init 1 = .ok (.invokespecial 3, 3) := by decide +kernel
theorem dX7_init_4 : decode cX7_init 4 = .ok (.aload_n 0, 1) := by decide +kernel
theorem dX7_init_5 : decode cX7_init 5 = .ok (.new 9, 3) := by decide +kernel
theorem dX7_init_8 : decode cX7_init 8 = .ok (.dup, 1) := by decide +kernel
theorem dX7_init_9 : decode cX7_init 9 = .ok (.iconst 5, 1) := by decide +kernel
theorem dX7_init_10 : decode cX7_init 10 = .ok (.invokespecial 11, 3) := by decide +kernel
theorem dX7_init_13 : decode cX7_init 13 = .ok (.putfield 14, 3) := by decide +kernel
theorem dX7_init_16 : decode cX7_init 16 = .ok (.aload_n 0, 1) := by decide +kernel
theorem dX7_init_17 : decode cX7_init 17 = .ok (.new 9, 3) := by decide +kernel
theorem dX7_init_20 : decode cX7_init 20 = .ok (.dup, 1) := by decide +kernel
theorem dX7_init_21 : decode cX7_init 21 = .ok (.iconst 5, 1) := by decide +kernel
theorem dX7_init_22 : decode cX7_init 22 = .ok (.invokespecial 11, 3) := by decide +kernel
theorem dX7_init_25 : decode cX7_init 25 = .ok (.putfield 20, 3) := by decide +kernel
theorem dX7_init_28 : decode cX7_init 28 = .ok (.aload_n 0, 1) := by decide +kernel
theorem dX7_init_29 : decode cX7_init 29 = .ok (.new 9, 3) := by decide +kernel
theorem dX7_init_32 : decode cX7_init 32 = .ok (.dup, 1) := by decide +kernel
theorem dX7_init_33 : decode cX7_init 33 = .ok (.iconst 5, 1) := by decide +kernel
theorem dX7_init_34 : decode cX7_init 34 = .ok (.invokespecial 11, 3) := by decide +kernel
theorem dX7_init_37 : decode cX7_init 37 = .ok (.putfield 23, 3) := by decide +kernel
theorem dX7_init_40 : decode cX7_init 40 = .ok (.aload_n 0, 1) := by decide +kernel
theorem dX7_init_41 : decode cX7_init 41 = .ok (.new 9, 3) := by decide +kernel
theorem dX7_init_44 : decode cX7_init 44 = .ok (.dup, 1) := by decide +kernel
theorem dX7_init_45 : decode cX7_init 45 = .ok (.iconst 5, 1) := by decide +kernel
theorem dX7_init_46 : decode cX7_init 46 = .ok (.invokespecial 11, 3) := by decide +kernel
theorem dX7_init_49 : decode cX7_init 49 = .ok (.putfield 26, 3) := by decide +kernel
theorem dX7_init_52 : decode cX7_init 52 = .ok (.return_, 1) := by decide +kernel
theorem dX7_copyFrom_0 : decode cX7_copyFrom 0 = .ok (.aload_n 0, 1) := by decide +kernel
theorem dX7_copyFrom_1 : decode cX7_copyFrom 1 = .ok (.aload_n 1, 1) := by decide +kernel
theorem dX7_copyFrom_2 : decode cX7_copyFrom 2 = .ok (.getfield 29, 3) := by decide +kernel
theorem dX7_copyFrom_5 : decode cX7_copyFrom 5 = .ok (.putfield 29, 3) := by decide +kernel
theorem dX7_copyFrom_8 : decode cX7_copyFrom 8 = .ok (.aload_n 0, 1) := by decide +kernel
theorem dX7_copyFrom_9 : decode cX7_copyFrom 9 = .ok (.getfield 14, 3) := by decide +kernel
theorem dX7_copyFrom_12 : decode cX7_copyFrom 12 = .ok (.aload_n 1, 1) := by decide +kernel
theorem dX7_copyFrom_13 : decode cX7_copyFrom 13 = .ok (.getfield 14, 3) := by decide +kernel
theorem dX7_copyFrom_16 : decode cX7_copyFrom 16 = .ok (.invokevirtual 33, 3) := by decide +kernel
theorem dX7_copyFrom_19 : decode cX7_copyFrom 19 = .ok (.aload_n 0, 1) := by decide +kernel
theorem dX7_copyFrom_20 : decode cX7_copyFrom 20 = .ok (.getfield 20, 3) := by decide +kernel
theorem dX7_copyFrom_23 : decode cX7_copyFrom 23 = .ok (.aload_n 1, 1) := by decide +kernel
theorem dX7_copyFrom_24 : decode cX7_copyFrom 24 = .ok (.getfield 20, 3) := by decide +kernel
theorem dX7_copyFrom_27 : decode cX7_copyFrom 27 = .ok (.invokevirtual 33, 3) := by decide +kernel
theorem dX7_copyFrom_30 : decode cX7_copyFrom 30 = .ok (.aload_n 0, 1) := by decide +kernel
theorem dX7_copyFrom_31 : decode cX7_copyFrom 31 = .ok (.getfield 23, 3) := by decide +kernel
theorem dX7_copyFrom_34 : decode cX7_copyFrom 34 = .ok (.aload_n 1, 1) := by decide +kernel
theorem dX7_copyFrom_35 : decode cX7_copyFrom 35 = .ok (.getfield 23, 3) := by decide +kernel
theorem dX7_copyFrom_38 : decode cX7_copyFrom 38 = .ok (.invokevirtual 33, 3) := by decide +kernel
theorem dX7_copyFrom_41 : decode cX7_copyFrom 41 = .ok (.aload_n 0, 1) := by decide +kernel
theorem dX7_copyFrom_42 : decode cX7_copyFrom 42 = .ok (.getfield 26, 3) := by decide +kernel
theorem dX7_copyFrom_45 : decode cX7_copyFrom 45 = .ok (.aload_n 1, 1) := by decide +kernel
theorem dX7_copyFrom_46 : decode cX7_copyFrom 46 = .ok (.getfield 26, 3) := by decide +kernel
theorem dX7_copyFrom_49 : decode cX7_copyFrom 49 = .ok (.invokevirtual 33, 3) := by decide +kernel
theorem dX7_copyFrom_52 : decode cX7_copyFrom 52 = .ok (.return_, 1) := by decide +kernel
theorem dX7_has_0 : decode cX7_has 0 = .ok (.iload_n 1, 1) := by decide +kernel
theorem dX7_has_1 : decode cX7_has 1 = .ok (.iconst 0, 1) := by decide +kernel
theorem dX7_has_2 : decode cX7_has 2 = .ok (.aload_n 0, 1) := by decide +kernel
theorem dX7_has_3 : decode cX7_has 3 = .ok (.getfield 29, 3) := by decide +kernel
theorem dX7_has_6 : decode cX7_has 6 = .ok (.iconst 1, 1) := by decide +kernel
theorem dX7_has_7 : decode cX7_has 7 = .ok (.isub, 1) := by decide +kernel
theorem dX7_has_8 : decode cX7_has 8 = .ok (.invokestatic 37, 3) := by decide +kernel
theorem dX7_has_11 : decode cX7_has 11 = .ok (.ireturn, 1) := by decide +kernel
theorem dX7_append_0 : decode cX7_append 0 = .ok (.aload_n 0, 1) := by decide +kernel
theorem dX7_append_1 : decode cX7_append 1 = .ok (.getfield 29, 3) := by decide +kernel
theorem dX7_append_4 : decode cX7_append 4 = .ok (.iconst 5, 1) := by decide +kernel
theorem dX7_append_5 : decode cX7_append 5 = .ok (.if_icmp .lt 4, 3) := by decide +kernel
theorem dX7_append_8 : decode cX7_append 8 = .ok (.return_, 1) := by decide +kernel
theorem dX7_append_9 : decode cX7_append 9 = .ok (.aload_n 0, 1) := by decide +kernel
theorem dX7_append_10 : decode cX7_append 10 = .ok (.getfield 14, 3) := by decide +kernel
theorem dX7_append_13 : decode cX7_append 13 = .ok (.aload_n 0, 1) := by decide +kernel
theorem dX7_append_14 : decode cX7_append 14 = .ok (.getfield 29, 3) := by decide +kernel
theorem dX7_append_17 : decode cX7_append 17 = .ok (.iload_n 1, 1) := by decide +kernel
theorem dX7_append_18 : decode cX7_append 18 = .ok (.invokevirtual 41, 3) := by decide +kernel
theorem dX7_append_21 : decode cX7_append 21 = .ok (.aload_n 0, 1) := by decide +kernel
theorem dX7_append_22 : decode cX7_append 22 = .ok (.getfield 20, 3) := by decide +kernel
theorem dX7_append_25 : decode cX7_append 25 = .ok (.aload_n 0, 1) := by decide +kernel
theorem dX7_append_26 : decode cX7_append 26 = .ok (.getfield 29, 3) := by decide +kernel
theorem dX7_append_29 : decode cX7_append 29 = .ok (.iload_n 2, 1) := by decide +kernel
theorem dX7_append_30 : decode cX7_append 30 = .ok (.invokevirtual 41, 3) := by decide +kernel
theorem dX7_append_33 : decode cX7_append 33 = .ok (.aload_n 0, 1) := by decide +kernel
theorem dX7_append_34 : decode cX7_append 34 = .ok (.getfield 23, 3) := by decide +kernel
theorem dX7_append_37 : decode cX7_append 37 = .ok (.aload_n 0, 1) := by decide +kernel
theorem dX7_append_38 : decode cX7_append 38 = .ok (.getfield 29, 3) := by decide +kernel
theorem dX7_append_41 : decode cX7_append 41 = .ok (.iconst 0, 1) := by decide +kernel
theorem dX7_append_42 : decode cX7_append 42 = .ok (.invokevirtual 41, 3) := by decide +kernel
theorem dX7_append_45 : decode cX7_append 45 = .ok (.aload_n 0, 1) := by decide +kernel
theorem dX7_append_46 : decode cX7_append 46 = .ok (.getfield 26, 3) := by decide +kernel
theorem dX7_append_49 : decode cX7_append 49 = .ok (.aload_n 0, 1) := by decide +kernel
theorem dX7_append_50 : decode cX7_append 50 = .ok (.getfield 29, 3) := by decide +kernel
theorem dX7_append_53 : decode cX7_append 53 = .ok (.iconst 0, 1) := by decide +kernel
theorem dX7_append_54 : decode cX7_append 54 = .ok (.invokevirtual 41, 3) := by decide +kernel
theorem dX7_append_57 : decode cX7_append 57 = .ok (.aload_n 0, 1) := by decide +kernel
theorem dX7_append_58 : decode cX7_append 58 = .ok (.dup, 1) := by decide +kernel
theorem dX7_append_59 : decode cX7_append 59 = .ok (.getfield 29, 3) := by decide +kernel
theorem dX7_append_62 : decode cX7_append 62 = .ok (.iconst 1, 1) := by decide +kernel
theorem dX7_append_63 : decode cX7_append 63 = .ok (.iadd, 1) := by decide +kernel
theorem dX7_append_64 : decode cX7_append 64 = .ok (.putfield 29, 3) := by decide +kernel
theorem dX7_append_67 : decode cX7_append 67 = .ok (.return_, 1) := by decide +kernel
theorem dX7_whoAreAwake_0 : decode cX7_whoAreAwake 0 = .ok (.iconst 0, 1) := by decide +kernel
theorem dX7_whoAreAwake_1 : decode cX7_whoAreAwake 1 = .ok (.istore_n 1, 1) := by decide +kernel
theorem dX7_whoAreAwake_2 : decode cX7_whoAreAwake 2 = .ok (.iconst 0, 1) := by decide +kernel
theorem dX7_whoAreAwake_3 : decode cX7_whoAreAwake 3 = .ok (.istore_n 2, 1) := by decide +kernel
theorem dX7_whoAreAwake_4 : decode cX7_whoAreAwake 4 = .ok (.iload_n 2, 1) := by decide +kernel
theorem dX7_whoAreAwake_5 : decode cX7_whoAreAwake 5 = .ok (.aload_n 0, 1) := by decide +kernel
theorem dX7_whoAreAwake_6 : decode cX7_whoAreAwake 6 = .ok (.getfield 29, 3) := by decide +kernel
theorem dX7_whoAreAwake_9 : decode cX7_whoAreAwake 9 = .ok (.if_icmp .ge 26, 3) := by decide +kernel
theorem dX7_whoAreAwake_12 : decode cX7_whoAreAwake 12 = .ok (.aload_n 0, 1) := by decide +kernel
theorem dX7_whoAreAwake_13 : decode cX7_whoAreAwake 13 = .ok (.getfield 23, 3) := by decide +kernel
theorem dX7_whoAreAwake_16 : decode cX7_whoAreAwake 16 = .ok (.iload_n 2, 1) := by decide +kernel
theorem dX7_whoAreAwake_17 : decode cX7_whoAreAwake 17 = .ok (.invokevirtual 45, 3) := by decide +kernel
theorem dX7_whoAreAwake_20 : decode cX7_whoAreAwake 20 = .ok (.ifCond .le 9, 3) := by decide +kernel
theorem dX7_whoAreAwake_23 : decode cX7_whoAreAwake 23 = .ok (.iload_n 1, 1) := by decide +kernel
theorem dX7_whoAreAwake_24 : decode cX7_whoAreAwake 24 = .ok (.iconst 1, 1) := by decide +kernel
theorem dX7_whoAreAwake_25 : decode cX7_whoAreAwake 25 = .ok (.iload_n 2, 1) := by decide +kernel
theorem dX7_whoAreAwake_26 : decode cX7_whoAreAwake 26 = .ok (.ishl, 1) := by decide +kernel
theorem dX7_whoAreAwake_27 : decode cX7_whoAreAwake 27 = .ok (.ior, 1) := by decide +kernel
theorem dX7_whoAreAwake_28 : decode cX7_whoAreAwake 28 = .ok (.istore_n 1, 1) := by decide +kernel
theorem dX7_whoAreAwake_29 : decode cX7_whoAreAwake 29 = .ok (.iinc 2 1, 3) := by decide +kernel
theorem dX7_whoAreAwake_32 : decode cX7_whoAreAwake 32 = .ok (.goto (-28), 3) := by decide +kernel
theorem dX7_whoAreAwake_35 : decode cX7_whoAreAwake 35 = .ok (.iload_n 1, 1) := by decide +kernel
theorem dX7_whoAreAwake_36 : decode cX7_whoAreAwake 36 = .ok (.ireturn, 1) := by decide +kernel
theorem dX7_watchedRooms_0 : decode cX7_watchedRooms 0 = .ok (.iconst 0, 1) := by decide +kernel
theorem dX7_watchedRooms_1 : decode cX7_watchedRooms 1 = .ok (.istore_n 1, 1) := by decide +kernel
theorem dX7_watchedRooms_2 : decode cX7_watchedRooms 2 = .ok (.iconst 0, 1) := by decide +kernel
theorem dX7_watchedRooms_3 : decode cX7_watchedRooms 3 = .ok (.istore_n 2, 1) := by decide +kernel
theorem dX7_watchedRooms_4 : decode cX7_watchedRooms 4 = .ok (.iload_n 2, 1) := by decide +kernel
theorem dX7_watchedRooms_5 : decode cX7_watchedRooms 5 = .ok (.aload_n 0, 1) := by decide +kernel
theorem dX7_watchedRooms_6 : decode cX7_watchedRooms 6 = .ok (.getfield 29, 3) := by decide +kernel
theorem dX7_watchedRooms_9 : decode cX7_watchedRooms 9 = .ok (.if_icmp .ge 33, 3) := by decide +kernel
theorem dX7_watchedRooms_12 : decode cX7_watchedRooms 12 = .ok (.aload_n 0, 1) := by decide +kernel
theorem dX7_watchedRooms_13 : decode cX7_watchedRooms 13 = .ok (.getfield 23, 3) := by decide +kernel
theorem dX7_watchedRooms_16 : decode cX7_watchedRooms 16 = .ok (.iload_n 2, 1) := by decide +kernel
theorem dX7_watchedRooms_17 : decode cX7_watchedRooms 17 = .ok (.invokevirtual 45, 3) := by decide +kernel
theorem dX7_watchedRooms_20 : decode cX7_watchedRooms 20 = .ok (.ifCond .le 16, 3) := by decide +kernel
theorem dX7_watchedRooms_23 : decode cX7_watchedRooms 23 = .ok (.iload_n 1, 1) := by decide +kernel
theorem dX7_watchedRooms_24 : decode cX7_watchedRooms 24 = .ok (.iconst 1, 1) := by decide +kernel
theorem dX7_watchedRooms_25 : decode cX7_watchedRooms 25 = .ok (.aload_n 0, 1) := by decide +kernel
theorem dX7_watchedRooms_26 : decode cX7_watchedRooms 26 = .ok (.getfield 14, 3) := by decide +kernel
theorem dX7_watchedRooms_29 : decode cX7_watchedRooms 29 = .ok (.iload_n 2, 1) := by decide +kernel
theorem dX7_watchedRooms_30 : decode cX7_watchedRooms 30 = .ok (.invokevirtual 45, 3) := by decide +kernel
theorem dX7_watchedRooms_33 : decode cX7_watchedRooms 33 = .ok (.ishl, 1) := by decide +kernel
theorem dX7_watchedRooms_34 : decode cX7_watchedRooms 34 = .ok (.ior, 1) := by decide +kernel
theorem dX7_watchedRooms_35 : decode cX7_watchedRooms 35 = .ok (.istore_n 1, 1) := by decide +kernel
theorem dX7_watchedRooms_36 : decode cX7_watchedRooms 36 = .ok (.iinc 2 1, 3) := by decide +kernel
theorem dX7_watchedRooms_39 : decode cX7_watchedRooms 39 = .ok (.goto (-35), 3) := by decide +kernel
theorem dX7_watchedRooms_42 : decode cX7_watchedRooms 42 = .ok (.iload_n 1, 1) := by decide +kernel
theorem dX7_watchedRooms_43 : decode cX7_watchedRooms 43 = .ok (.ireturn, 1) := by decide +kernel
theorem dX7_wake_0 : decode cX7_wake 0 = .ok (.aload_n 0, 1) := by decide +kernel
theorem dX7_wake_1 : decode cX7_wake 1 = .ok (.getfield 23, 3) := by decide +kernel
theorem dX7_wake_4 : decode cX7_wake 4 = .ok (.iload_n 1, 1) := by decide +kernel
theorem dX7_wake_5 : decode cX7_wake 5 = .ok (.invokevirtual 45, 3) := by decide +kernel
theorem dX7_wake_8 : decode cX7_wake 8 = .ok (.ifCond .ne 11, 3) := by decide +kernel
theorem dX7_wake_11 : decode cX7_wake 11 = .ok (.aload_n 0, 1) := by decide +kernel
theorem dX7_wake_12 : decode cX7_wake 12 = .ok (.getfield 26, 3) := by decide +kernel
theorem dX7_wake_15 : decode cX7_wake 15 = .ok (.iload_n 1, 1) := by decide +kernel
theorem dX7_wake_16 : decode cX7_wake 16 = .ok (.invokevirtual 49, 3) := by decide +kernel
theorem dX7_wake_19 : decode cX7_wake 19 = .ok (.aload_n 0, 1) := by decide +kernel
theorem dX7_wake_20 : decode cX7_wake 20 = .ok (.getfield 23, 3) := by decide +kernel
theorem dX7_wake_23 : decode cX7_wake 23 = .ok (.iload_n 1, 1) := by decide +kernel
theorem dX7_wake_24 : decode cX7_wake 24 = .ok (.iload_n 2, 1) := by decide +kernel
theorem dX7_wake_25 : decode cX7_wake 25 = .ok (.invokevirtual 41, 3) := by decide +kernel
theorem dX7_wake_28 : decode cX7_wake 28 = .ok (.return_, 1) := by decide +kernel
theorem dX7_tire_0 : decode cX7_tire 0 = .ok (.iconst 0, 1) := by decide +kernel
theorem dX7_tire_1 : decode cX7_tire 1 = .ok (.istore_n 2, 1) := by decide +kernel
theorem dX7_tire_2 : decode cX7_tire 2 = .ok (.iload_n 2, 1) := by decide +kernel
theorem dX7_tire_3 : decode cX7_tire 3 = .ok (.aload_n 0, 1) := by decide +kernel
theorem dX7_tire_4 : decode cX7_tire 4 = .ok (.getfield 29, 3) := by decide +kernel
theorem dX7_tire_7 : decode cX7_tire 7 = .ok (.if_icmp .ge 31, 3) := by decide +kernel
theorem dX7_tire_10 : decode cX7_tire 10 = .ok (.aload_n 0, 1) := by decide +kernel
theorem dX7_tire_11 : decode cX7_tire 11 = .ok (.getfield 23, 3) := by decide +kernel
theorem dX7_tire_14 : decode cX7_tire 14 = .ok (.iload_n 2, 1) := by decide +kernel
theorem dX7_tire_15 : decode cX7_tire 15 = .ok (.aload_n 0, 1) := by decide +kernel
theorem dX7_tire_16 : decode cX7_tire 16 = .ok (.getfield 23, 3) := by decide +kernel
theorem dX7_tire_19 : decode cX7_tire 19 = .ok (.iload_n 2, 1) := by decide +kernel
theorem dX7_tire_20 : decode cX7_tire 20 = .ok (.invokevirtual 45, 3) := by decide +kernel
theorem dX7_tire_23 : decode cX7_tire 23 = .ok (.iload_n 1, 1) := by decide +kernel
theorem dX7_tire_24 : decode cX7_tire 24 = .ok (.isub, 1) := by decide +kernel
theorem dX7_tire_25 : decode cX7_tire 25 = .ok (.iconst 0, 1) := by decide +kernel
theorem dX7_tire_26 : decode cX7_tire 26 = .ok (.invokestatic 52, 3) := by decide +kernel
theorem dX7_tire_29 : decode cX7_tire 29 = .ok (.invokevirtual 41, 3) := by decide +kernel
theorem dX7_tire_32 : decode cX7_tire 32 = .ok (.iinc 2 1, 3) := by decide +kernel
theorem dX7_tire_35 : decode cX7_tire 35 = .ok (.goto (-33), 3) := by decide +kernel
theorem dX7_tire_38 : decode cX7_tire 38 = .ok (.return_, 1) := by decide +kernel
theorem dX8_whyNot_0 : decode cX8_whyNot 0 = .ok (.iconst 0, 1) := by decide +kernel
theorem dX8_whyNot_1 : decode cX8_whyNot 1 = .ok (.istore_n 3, 1) := by decide +kernel
theorem dX8_whyNot_2 : decode cX8_whyNot 2 = .ok (.iconst 0, 1) := by decide +kernel
theorem dX8_whyNot_3 : decode cX8_whyNot 3 = .ok (.istore 4, 2) := by decide +kernel
theorem dX8_whyNot_5 : decode cX8_whyNot 5 = .ok (.iconst 0, 1) := by decide +kernel
theorem dX8_whyNot_6 : decode cX8_whyNot 6 = .ok (.istore 5, 2) := by decide +kernel
theorem dX8_whyNot_8 : decode cX8_whyNot 8 = .ok (.iload 5, 2) := by decide +kernel
theorem dX8_whyNot_10 : decode cX8_whyNot 10 = .ok (.aload_n 0, 1) := by decide +kernel
theorem dX8_whyNot_11 : decode cX8_whyNot 11 = .ok (.getfield 9, 3) := by decide +kernel
theorem dX8_whyNot_14 : decode cX8_whyNot 14 = .ok (.if_icmp .ge 38, 3) := by decide +kernel
theorem dX8_whyNot_17 : decode cX8_whyNot 17 = .ok (.iload_n 1, 1) := by decide +kernel
theorem dX8_whyNot_18 : decode cX8_whyNot 18 = .ok (.iload 5, 2) := by decide +kernel
theorem dX8_whyNot_20 : decode cX8_whyNot 20 = .ok (.invokestatic 15, 3) := by decide +kernel
theorem dX8_whyNot_23 : decode cX8_whyNot 23 = .ok (.ifCond .eq 23, 3) := by decide +kernel
theorem dX8_whyNot_26 : decode cX8_whyNot 26 = .ok (.iload_n 3, 1) := by decide +kernel
theorem dX8_whyNot_27 : decode cX8_whyNot 27 = .ok (.aload_n 0, 1) := by decide +kernel
theorem dX8_whyNot_28 : decode cX8_whyNot 28 = .ok (.iload 5, 2) := by decide +kernel
theorem dX8_whyNot_30 : decode cX8_whyNot 30 = .ok (.invokevirtual 19, 3) := by decide +kernel
theorem dX8_whyNot_33 : decode cX8_whyNot 33 = .ok (.ixor, 1) := by decide +kernel
theorem dX8_whyNot_34 : decode cX8_whyNot 34 = .ok (.istore_n 3, 1) := by decide +kernel
theorem dX8_whyNot_35 : decode cX8_whyNot 35 = .ok (.iload 4, 2) := by decide +kernel
theorem dX8_whyNot_37 : decode cX8_whyNot 37 = .ok (.aload_n 0, 1) := by decide +kernel
theorem dX8_whyNot_38 : decode cX8_whyNot 38 = .ok (.iload 5, 2) := by decide +kernel
theorem dX8_whyNot_40 : decode cX8_whyNot 40 = .ok (.invokevirtual 19, 3) := by decide +kernel
theorem dX8_whyNot_43 : decode cX8_whyNot 43 = .ok (.ior, 1) := by decide +kernel
theorem dX8_whyNot_44 : decode cX8_whyNot 44 = .ok (.istore 4, 2) := by decide +kernel
theorem dX8_whyNot_46 : decode cX8_whyNot 46 = .ok (.iinc 5 1, 3) := by decide +kernel
theorem dX8_whyNot_49 : decode cX8_whyNot 49 = .ok (.goto (-41), 3) := by decide +kernel
theorem dX8_whyNot_52 : decode cX8_whyNot 52 = .ok (.iload_n 1, 1) := by decide +kernel
theorem dX8_whyNot_53 : decode cX8_whyNot 53 = .ok (.ifCond .ne 5, 3) := by decide +kernel
theorem dX8_whyNot_56 : decode cX8_whyNot 56 = .ok (.iconst 1, 1) := by decide +kernel
theorem dX8_whyNot_57 : decode cX8_whyNot 57 = .ok (.ireturn, 1) := by decide +kernel
theorem dX8_whyNot_58 : decode cX8_whyNot 58 = .ok (.iload 4, 2) := by decide +kernel
theorem dX8_whyNot_60 : decode cX8_whyNot 60 = .ok (.iload_n 2, 1) := by decide +kernel
theorem dX8_whyNot_61 : decode cX8_whyNot 61 = .ok (.invokestatic 15, 3) := by decide +kernel
theorem dX8_whyNot_64 : decode cX8_whyNot 64 = .ok (.ifCond .ne 5, 3) := by decide +kernel
theorem dX8_whyNot_67 : decode cX8_whyNot 67 = .ok (.iconst 2, 1) := by decide +kernel
theorem dX8_whyNot_68 : decode cX8_whyNot 68 = .ok (.ireturn, 1) := by decide +kernel
theorem dX8_whyNot_69 : decode cX8_whyNot 69 = .ok (.iload 4, 2) := by decide +kernel
theorem dX8_whyNot_71 : decode cX8_whyNot 71 = .ok (.aload_n 0, 1) := by decide +kernel
theorem dX8_whyNot_72 : decode cX8_whyNot 72 = .ok (.iload_n 2, 1) := by decide +kernel
theorem dX8_whyNot_73 : decode cX8_whyNot 73 = .ok (.iload_n 1, 1) := by decide +kernel
theorem dX8_whyNot_74 : decode cX8_whyNot 74 = .ok (.invokevirtual 25, 3) := by decide +kernel
theorem dX8_whyNot_77 : decode cX8_whyNot 77 = .ok (.iconst (-1), 1) := by decide +kernel
theorem dX8_whyNot_78 : decode cX8_whyNot 78 = .ok (.ixor, 1) := by decide +kernel
theorem dX8_whyNot_79 : decode cX8_whyNot 79 = .ok (.iand, 1) := by decide +kernel
theorem dX8_whyNot_80 : decode cX8_whyNot 80 = .ok (.ifCond .eq 5, 3) := by decide +kernel
theorem dX8_whyNot_83 : decode cX8_whyNot 83 = .ok (.iconst 3, 1) := by decide +kernel
theorem dX8_whyNot_84 : decode cX8_whyNot 84 = .ok (.ireturn, 1) := by decide +kernel
theorem dX8_whyNot_85 : decode cX8_whyNot 85 = .ok (.iload_n 3, 1) := by decide +kernel
theorem dX8_whyNot_86 : decode cX8_whyNot 86 = .ok (.invokestatic 29, 3) := by decide +kernel
theorem dX8_whyNot_89 : decode cX8_whyNot 89 = .ok (.iconst 2, 1) := by decide +kernel
theorem dX8_whyNot_90 : decode cX8_whyNot 90 = .ok (.if_icmp .le 5, 3) := by decide +kernel
theorem dX8_whyNot_93 : decode cX8_whyNot 93 = .ok (.iconst 4, 1) := by decide +kernel
theorem dX8_whyNot_94 : decode cX8_whyNot 94 = .ok (.ireturn, 1) := by decide +kernel
theorem dX8_whyNot_95 : decode cX8_whyNot 95 = .ok (.iload_n 3, 1) := by decide +kernel
theorem dX8_whyNot_96 : decode cX8_whyNot 96 = .ok (.ifCond .eq 11, 3) := by decide +kernel
theorem dX8_whyNot_99 : decode cX8_whyNot 99 = .ok (.iload_n 3, 1) := by decide +kernel
theorem dX8_whyNot_100 : decode cX8_whyNot 100 = .ok (.iload_n 2, 1) := by decide +kernel
theorem dX8_whyNot_101 : decode cX8_whyNot 101 = .ok (.invokestatic 15, 3) := by decide +kernel
theorem dX8_whyNot_104 : decode cX8_whyNot 104 = .ok (.ifCond .eq 7, 3) := by decide +kernel
theorem dX8_whyNot_107 : decode cX8_whyNot 107 = .ok (.iconst 0, 1) := by decide +kernel
theorem dX8_whyNot_108 : decode cX8_whyNot 108 = .ok (.goto 4, 3) := by decide +kernel
theorem dX8_whyNot_111 : decode cX8_whyNot 111 = .ok (.iconst 5, 1) := by decide +kernel
theorem dX8_whyNot_112 : decode cX8_whyNot 112 = .ok (.ireturn, 1) := by decide +kernel
theorem dX8_boardAt_0 : decode cX8_boardAt 0 = .ok (.iload_n 1, 1) := by decide +kernel
theorem dX8_boardAt_1 : decode cX8_boardAt 1 = .ok (.istore 4, 2) := by decide +kernel
theorem dX8_boardAt_3 : decode cX8_boardAt 3 = .ok (.iload_n 2, 1) := by decide +kernel
theorem dX8_boardAt_4 : decode cX8_boardAt 4 = .ok (.istore 5, 2) := by decide +kernel
theorem dX8_boardAt_6 : decode cX8_boardAt 6 = .ok (.iconst 0, 1) := by decide +kernel
theorem dX8_boardAt_7 : decode cX8_boardAt 7 = .ok (.istore 6, 2) := by decide +kernel
theorem dX8_boardAt_9 : decode cX8_boardAt 9 = .ok (.iload 6, 2) := by decide +kernel
theorem dX8_boardAt_11 : decode cX8_boardAt 11 = .ok (.bipush 20, 2) := by decide +kernel
theorem dX8_boardAt_13 : decode cX8_boardAt 13 = .ok (.if_icmp .ge 61, 3) := by decide +kernel
theorem dX8_boardAt_16 : decode cX8_boardAt 16 = .ok (.iload 4, 2) := by decide +kernel
theorem dX8_boardAt_18 : decode cX8_boardAt 18 = .ok (.ifCond .eq 56, 3) := by decide +kernel
theorem dX8_boardAt_21 : decode cX8_boardAt 21 = .ok (.aload_n 0, 1) := by decide +kernel
theorem dX8_boardAt_22 : decode cX8_boardAt 22 = .ok (.iload 4, 2) := by decide +kernel
theorem dX8_boardAt_24 : decode cX8_boardAt 24 = .ok (.iload 5, 2) := by decide +kernel
theorem dX8_boardAt_26 : decode cX8_boardAt 26 = .ok (.invokestatic 34, 3) := by decide +kernel
theorem dX8_boardAt_29 : decode cX8_boardAt 29 = .ok (.istore 7, 2) := by decide +kernel
theorem dX8_boardAt_31 : decode cX8_boardAt 31 = .ok (.iload 6, 2) := by decide +kernel
theorem dX8_boardAt_33 : decode cX8_boardAt 33 = .ok (.iload_n 3, 1) := by decide +kernel
theorem dX8_boardAt_34 : decode cX8_boardAt 34 = .ok (.if_icmp .eq 10, 3) := by decide +kernel
theorem dX8_boardAt_37 : decode cX8_boardAt 37 = .ok (.iload 7, 2) := by decide +kernel
theorem dX8_boardAt_39 : decode cX8_boardAt 39 = .ok (.bipush (-6), 2) := by decide +kernel
theorem dX8_boardAt_41 : decode cX8_boardAt 41 = .ok (.if_icmp .ne 6, 3) := by decide +kernel
theorem dX8_boardAt_44 : decode cX8_boardAt 44 = .ok (.iload 7, 2) := by decide +kernel
theorem dX8_boardAt_46 : decode cX8_boardAt 46 = .ok (.ireturn, 1) := by decide +kernel
theorem dX8_boardAt_47 : decode cX8_boardAt 47 = .ok (.iload 4, 2) := by decide +kernel
theorem dX8_boardAt_49 : decode cX8_boardAt 49 = .ok (.iconst 1, 1) := by decide +kernel
theorem dX8_boardAt_50 : decode cX8_boardAt 50 = .ok (.iload 7, 2) := by decide +kernel
theorem dX8_boardAt_52 : decode cX8_boardAt 52 = .ok (.ishl, 1) := by decide +kernel
theorem dX8_boardAt_53 : decode cX8_boardAt 53 = .ok (.iconst (-1), 1) := by decide +kernel
theorem dX8_boardAt_54 : decode cX8_boardAt 54 = .ok (.ixor, 1) := by decide +kernel
theorem dX8_boardAt_55 : decode cX8_boardAt 55 = .ok (.iand, 1) := by decide +kernel
theorem dX8_boardAt_56 : decode cX8_boardAt 56 = .ok (.istore 4, 2) := by decide +kernel
theorem dX8_boardAt_58 : decode cX8_boardAt 58 = .ok (.aload_n 0, 1) := by decide +kernel
theorem dX8_boardAt_59 : decode cX8_boardAt 59 = .ok (.iload 7, 2) := by decide +kernel
theorem dX8_boardAt_61 : decode cX8_boardAt 61 = .ok (.iload 5, 2) := by decide +kernel
theorem dX8_boardAt_63 : decode cX8_boardAt 63 = .ok (.invokevirtual 38, 3) := by decide +kernel
theorem dX8_boardAt_66 : decode cX8_boardAt 66 = .ok (.istore 5, 2) := by decide +kernel
theorem dX8_boardAt_68 : decode cX8_boardAt 68 = .ok (.iinc 6 1, 3) := by decide +kernel
theorem dX8_boardAt_71 : decode cX8_boardAt 71 = .ok (.goto (-62), 3) := by decide +kernel
theorem dX8_boardAt_74 : decode cX8_boardAt 74 = .ok (.bipush (-6), 2) := by decide +kernel
theorem dX8_boardAt_76 : decode cX8_boardAt 76 = .ok (.ireturn, 1) := by decide +kernel
theorem dX8_firstBoard_0 : decode cX8_firstBoard 0 = .ok (.iload_n 1, 1) := by decide +kernel
theorem dX8_firstBoard_1 : decode cX8_firstBoard 1 = .ok (.aload_n 0, 1) := by decide +kernel
theorem dX8_firstBoard_2 : decode cX8_firstBoard 2 = .ok (.iconst 1, 1) := by decide +kernel
theorem dX8_firstBoard_3 : decode cX8_firstBoard 3 = .ok (.iload_n 2, 1) := by decide +kernel
theorem dX8_firstBoard_4 : decode cX8_firstBoard 4 = .ok (.ishl, 1) := by decide +kernel
theorem dX8_firstBoard_5 : decode cX8_firstBoard 5 = .ok (.invokevirtual 41, 3) := by decide +kernel
theorem dX8_firstBoard_8 : decode cX8_firstBoard 8 = .ok (.iand, 1) := by decide +kernel
theorem dX8_firstBoard_9 : decode cX8_firstBoard 9 = .ok (.istore_n 3, 1) := by decide +kernel
theorem dX8_firstBoard_10 : decode cX8_firstBoard 10 = .ok (.iconst 0, 1) := by decide +kernel
theorem dX8_firstBoard_11 : decode cX8_firstBoard 11 = .ok (.istore 4, 2) := by decide +kernel
theorem dX8_firstBoard_13 : decode cX8_firstBoard 13 = .ok (.iload 4, 2) := by decide +kernel
theorem dX8_firstBoard_15 : decode cX8_firstBoard 15 = .ok (.aload_n 0, 1) := by decide +kernel
theorem dX8_firstBoard_16 : decode cX8_firstBoard 16 = .ok (.getfield 9, 3) := by decide +kernel
theorem dX8_firstBoard_19 : decode cX8_firstBoard 19 = .ok (.if_icmp .ge 52, 3) := by decide +kernel
theorem dX8_firstBoard_22 : decode cX8_firstBoard 22 = .ok (.iload_n 3, 1) := by decide +kernel
theorem dX8_firstBoard_23 : decode cX8_firstBoard 23 = .ok (.iload 4, 2) := by decide +kernel
theorem dX8_firstBoard_25 : decode cX8_firstBoard 25 = .ok (.invokestatic 15, 3) := by decide +kernel
theorem dX8_firstBoard_28 : decode cX8_firstBoard 28 = .ok (.ifCond .eq 37, 3) := by decide +kernel
theorem dX8_firstBoard_31 : decode cX8_firstBoard 31 = .ok (.iload_n 1, 1) := by decide +kernel
theorem dX8_firstBoard_32 : decode cX8_firstBoard 32 = .ok (.iconst 1, 1) := by decide +kernel
theorem dX8_firstBoard_33 : decode cX8_firstBoard 33 = .ok (.iload 4, 2) := by decide +kernel
theorem dX8_firstBoard_35 : decode cX8_firstBoard 35 = .ok (.ishl, 1) := by decide +kernel
theorem dX8_firstBoard_36 : decode cX8_firstBoard 36 = .ok (.iconst (-1), 1) := by decide +kernel
theorem dX8_firstBoard_37 : decode cX8_firstBoard 37 = .ok (.ixor, 1) := by decide +kernel
theorem dX8_firstBoard_38 : decode cX8_firstBoard 38 = .ok (.iand, 1) := by decide +kernel
theorem dX8_firstBoard_39 : decode cX8_firstBoard 39 = .ok (.istore 5, 2) := by decide +kernel
theorem dX8_firstBoard_41 : decode cX8_firstBoard 41 = .ok (.iload 5, 2) := by decide +kernel
theorem dX8_firstBoard_43 : decode cX8_firstBoard 43 = .ok (.ifCond .eq 19, 3) := by decide +kernel
theorem dX8_firstBoard_46 : decode cX8_firstBoard 46 = .ok (.aload_n 0, 1) := by decide +kernel
theorem dX8_firstBoard_47 : decode cX8_firstBoard 47 = .ok (.iload 5, 2) := by decide +kernel
theorem dX8_firstBoard_49 : decode cX8_firstBoard 49 = .ok (.aload_n 0, 1) := by decide +kernel
theorem dX8_firstBoard_50 : decode cX8_firstBoard 50 = .ok (.iload 4, 2) := by decide +kernel
theorem dX8_firstBoard_52 : decode cX8_firstBoard 52 = .ok (.iload_n 2, 1) := by decide +kernel
theorem dX8_firstBoard_53 : decode cX8_firstBoard 53 = .ok (.invokevirtual 38, 3) := by decide +kernel
theorem dX8_firstBoard_56 : decode cX8_firstBoard 56 = .ok (.invokestatic 44, 3) := by decide +kernel
theorem dX8_firstBoard_59 : decode cX8_firstBoard 59 = .ok (.ifCond .ne 6, 3) := by decide +kernel
theorem dX8_firstBoard_62 : decode cX8_firstBoard 62 = .ok (.iload 4, 2) := by decide +kernel
theorem dX8_firstBoard_64 : decode cX8_firstBoard 64 = .ok (.ireturn, 1) := by decide +kernel
theorem dX8_firstBoard_65 : decode cX8_firstBoard 65 = .ok (.iinc 4 1, 3) := by decide +kernel
theorem dX8_firstBoard_68 : decode cX8_firstBoard 68 = .ok (.goto (-55), 3) := by decide +kernel
theorem dX8_firstBoard_71 : decode cX8_firstBoard 71 = .ok (.bipush (-6), 2) := by decide +kernel
theorem dX8_firstBoard_73 : decode cX8_firstBoard 73 = .ok (.ireturn, 1) := by decide +kernel
theorem dX9_init_0 : decode cX9_init 0 = .ok (.aload_n 0, 1) := by decide +kernel
theorem dX9_init_1 : decode cX9_init 1 = .ok (.invokespecial 3, 3) := by decide +kernel
theorem dX9_init_4 : decode cX9_init 4 = .ok (.aload_n 0, 1) := by decide +kernel
theorem dX9_init_5 : decode cX9_init 5 = .ok (.new 9, 3) := by decide +kernel
theorem dX9_init_8 : decode cX9_init 8 = .ok (.dup, 1) := by decide +kernel
theorem dX9_init_9 : decode cX9_init 9 = .ok (.bipush 10, 2) := by decide +kernel
theorem dX9_init_11 : decode cX9_init 11 = .ok (.invokespecial 11, 3) := by decide +kernel
theorem dX9_init_14 : decode cX9_init 14 = .ok (.putfield 14, 3) := by decide +kernel
theorem dX9_init_17 : decode cX9_init 17 = .ok (.aload_n 0, 1) := by decide +kernel
theorem dX9_init_18 : decode cX9_init 18 = .ok (.new 9, 3) := by decide +kernel
theorem dX9_init_21 : decode cX9_init 21 = .ok (.dup, 1) := by decide +kernel
theorem dX9_init_22 : decode cX9_init 22 = .ok (.bipush 10, 2) := by decide +kernel
theorem dX9_init_24 : decode cX9_init 24 = .ok (.invokespecial 11, 3) := by decide +kernel
theorem dX9_init_27 : decode cX9_init 27 = .ok (.putfield 20, 3) := by decide +kernel
theorem dX9_init_30 : decode cX9_init 30 = .ok (.return_, 1) := by decide +kernel
theorem dX9_find_0 : decode cX9_find 0 = .ok (.aload_n 0, 1) := by decide +kernel
theorem dX9_find_1 : decode cX9_find 1 = .ok (.aload_n 1, 1) := by decide +kernel
theorem dX9_find_2 : decode cX9_find 2 = .ok (.iload_n 2, 1) := by decide +kernel
theorem dX9_find_3 : decode cX9_find 3 = .ok (.iload 4, 2) := by decide +kernel
theorem dX9_find_5 : decode cX9_find 5 = .ok (.invokevirtual 23, 3) := by decide +kernel
theorem dX9_find_8 : decode cX9_find 8 = .ok (.aload_n 0, 1) := by decide +kernel
theorem dX9_find_9 : decode cX9_find 9 = .ok (.aload_n 0, 1) := by decide +kernel
theorem dX9_find_10 : decode cX9_find 10 = .ok (.getfield 14, 3) := by decide +kernel
theorem dX9_find_13 : decode cX9_find 13 = .ok (.iload_n 3, 1) := by decide +kernel
theorem dX9_find_14 : decode cX9_find 14 = .ok (.invokevirtual 27, 3) := by decide +kernel
theorem dX9_find_17 : decode cX9_find 17 = .ok (.ldc 31, 2) := by decide +kernel
theorem dX9_find_19 : decode cX9_find 19 = .ok (.if_icmp .ge 7, 3) := by decide +kernel
theorem dX9_find_22 : decode cX9_find 22 = .ok (.iconst 1, 1) := by decide +kernel
theorem dX9_find_23 : decode cX9_find 23 = .ok (.goto 4, 3) := by decide +kernel
theorem dX9_find_26 : decode cX9_find 26 = .ok (.iconst 0, 1) := by decide +kernel
theorem dX9_find_27 : decode cX9_find 27 = .ok (.putfield 32, 3) := by decide +kernel
theorem dX9_find_30 : decode cX9_find 30 = .ok (.aload_n 0, 1) := by decide +kernel
theorem dX9_find_31 : decode cX9_find 31 = .ok (.iconst 0, 1) := by decide +kernel
theorem dX9_find_32 : decode cX9_find 32 = .ok (.putfield 36, 3) := by decide +kernel
theorem dX9_find_35 : decode cX9_find 35 = .ok (.aload_n 0, 1) := by decide +kernel
theorem dX9_find_36 : decode cX9_find 36 = .ok (.iconst 0, 1) := by decide +kernel
theorem dX9_find_37 : decode cX9_find 37 = .ok (.putfield 40, 3) := by decide +kernel
theorem dX9_find_40 : decode cX9_find 40 = .ok (.iload_n 3, 1) := by decide +kernel
theorem dX9_find_41 : decode cX9_find 41 = .ok (.istore 5, 2) := by decide +kernel
theorem dX9_find_43 : decode cX9_find 43 = .ok (.iconst 0, 1) := by decide +kernel
theorem dX9_find_44 : decode cX9_find 44 = .ok (.istore 6, 2) := by decide +kernel
theorem dX9_find_46 : decode cX9_find 46 = .ok (.iload 6, 2) := by decide +kernel
theorem dX9_find_48 : decode cX9_find 48 = .ok (.bipush 10, 2) := by decide +kernel
theorem dX9_find_50 : decode cX9_find 50 = .ok (.if_icmp .ge 82, 3) := by decide +kernel
theorem dX9_find_53 : decode cX9_find 53 = .ok (.aload_n 0, 1) := by decide +kernel
theorem dX9_find_54 : decode cX9_find 54 = .ok (.getfield 32, 3) := by decide +kernel
theorem dX9_find_57 : decode cX9_find 57 = .ok (.ifCond .eq 75, 3) := by decide +kernel
theorem dX9_find_60 : decode cX9_find 60 = .ok (.iload 5, 2) := by decide +kernel
theorem dX9_find_62 : decode cX9_find 62 = .ok (.iload 4, 2) := by decide +kernel
theorem dX9_find_64 : decode cX9_find 64 = .ok (.if_icmp .eq 68, 3) := by decide +kernel
theorem dX9_find_67 : decode cX9_find 67 = .ok (.aload_n 0, 1) := by decide +kernel
theorem dX9_find_68 : decode cX9_find 68 = .ok (.aload_n 1, 1) := by decide +kernel
theorem dX9_find_69 : decode cX9_find 69 = .ok (.iload_n 2, 1) := by decide +kernel
theorem dX9_find_70 : decode cX9_find 70 = .ok (.iload 5, 2) := by decide +kernel
theorem dX9_find_72 : decode cX9_find 72 = .ok (.invokevirtual 43, 3) := by decide +kernel
theorem dX9_find_75 : decode cX9_find 75 = .ok (.istore 7, 2) := by decide +kernel
theorem dX9_find_77 : decode cX9_find 77 = .ok (.aload_n 0, 1) := by decide +kernel
theorem dX9_find_78 : decode cX9_find 78 = .ok (.getfield 20, 3) := by decide +kernel
theorem dX9_find_81 : decode cX9_find 81 = .ok (.iload 6, 2) := by decide +kernel
theorem dX9_find_83 : decode cX9_find 83 = .ok (.iload 7, 2) := by decide +kernel
theorem dX9_find_85 : decode cX9_find 85 = .ok (.invokevirtual 47, 3) := by decide +kernel
theorem dX9_find_88 : decode cX9_find 88 = .ok (.aload_n 0, 1) := by decide +kernel
theorem dX9_find_89 : decode cX9_find 89 = .ok (.dup, 1) := by decide +kernel
theorem dX9_find_90 : decode cX9_find 90 = .ok (.getfield 36, 3) := by decide +kernel
theorem dX9_find_93 : decode cX9_find 93 = .ok (.aload_n 1, 1) := by decide +kernel
theorem dX9_find_94 : decode cX9_find 94 = .ok (.getfield 51, 3) := by decide +kernel
theorem dX9_find_97 : decode cX9_find 97 = .ok (.iload 7, 2) := by decide +kernel
theorem dX9_find_99 : decode cX9_find 99 = .ok (.invokevirtual 27, 3) := by decide +kernel
theorem dX9_find_102 : decode cX9_find 102 = .ok (.iadd, 1) := by decide +kernel
theorem dX9_find_103 : decode cX9_find 103 = .ok (.putfield 36, 3) := by decide +kernel
theorem dX9_find_106 : decode cX9_find 106 = .ok (.aload_n 0, 1) := by decide +kernel
theorem dX9_find_107 : decode cX9_find 107 = .ok (.dup, 1) := by decide +kernel
theorem dX9_find_108 : decode cX9_find 108 = .ok (.getfield 40, 3) := by decide +kernel
theorem dX9_find_111 : decode cX9_find 111 = .ok (.iconst 1, 1) := by decide +kernel
theorem dX9_find_112 : decode cX9_find 112 = .ok (.iadd, 1) := by decide +kernel
theorem dX9_find_113 : decode cX9_find 113 = .ok (.putfield 40, 3) := by decide +kernel
theorem dX9_find_116 : decode cX9_find 116 = .ok (.aload_n 1, 1) := by decide +kernel
theorem dX9_find_117 : decode cX9_find 117 = .ok (.iload 7, 2) := by decide +kernel
theorem dX9_find_119 : decode cX9_find 119 = .ok (.iload 5, 2) := by decide +kernel
theorem dX9_find_121 : decode cX9_find 121 = .ok (.invokevirtual 55, 3) := by decide +kernel
theorem dX9_find_124 : decode cX9_find 124 = .ok (.istore 5, 2) := by decide +kernel
theorem dX9_find_126 : decode cX9_find 126 = .ok (.iinc 6 1, 3) := by decide +kernel
theorem dX9_find_129 : decode cX9_find 129 = .ok (.goto (-83), 3) := by decide +kernel
theorem dX9_find_132 : decode cX9_find 132 = .ok (.return_, 1) := by decide +kernel
theorem dX9_weigh_0 : decode cX9_weigh 0 = .ok (.aload_n 0, 1) := by decide +kernel
theorem dX9_weigh_1 : decode cX9_weigh 1 = .ok (.getfield 14, 3) := by decide +kernel
theorem dX9_weigh_4 : decode cX9_weigh 4 = .ok (.ldc 31, 2) := by decide +kernel
theorem dX9_weigh_6 : decode cX9_weigh 6 = .ok (.invokevirtual 59, 3) := by decide +kernel
theorem dX9_weigh_9 : decode cX9_weigh 9 = .ok (.aload_n 0, 1) := by decide +kernel
theorem dX9_weigh_10 : decode cX9_weigh 10 = .ok (.getfield 14, 3) := by decide +kernel
theorem dX9_weigh_13 : decode cX9_weigh 13 = .ok (.iload_n 3, 1) := by decide +kernel
theorem dX9_weigh_14 : decode cX9_weigh 14 = .ok (.iconst 0, 1) := by decide +kernel
theorem dX9_weigh_15 : decode cX9_weigh 15 = .ok (.invokevirtual 47, 3) := by decide +kernel
theorem dX9_weigh_18 : decode cX9_weigh 18 = .ok (.iconst 1, 1) := by decide +kernel
theorem dX9_weigh_19 : decode cX9_weigh 19 = .ok (.istore 4, 2) := by decide +kernel
theorem dX9_weigh_21 : decode cX9_weigh 21 = .ok (.iconst 0, 1) := by decide +kernel
theorem dX9_weigh_22 : decode cX9_weigh 22 = .ok (.istore 5, 2) := by decide +kernel
theorem dX9_weigh_24 : decode cX9_weigh 24 = .ok (.iload 5, 2) := by decide +kernel
theorem dX9_weigh_26 : decode cX9_weigh 26 = .ok (.bipush 10, 2) := by decide +kernel
theorem dX9_weigh_28 : decode cX9_weigh 28 = .ok (.if_icmp .ge 57, 3) := by decide +kernel
theorem dX9_weigh_31 : decode cX9_weigh 31 = .ok (.iload 4, 2) := by decide +kernel
theorem dX9_weigh_33 : decode cX9_weigh 33 = .ok (.ifCond .eq 52, 3) := by decide +kernel
theorem dX9_weigh_36 : decode cX9_weigh 36 = .ok (.iconst 0, 1) := by decide +kernel
theorem dX9_weigh_37 : decode cX9_weigh 37 = .ok (.istore 4, 2) := by decide +kernel
theorem dX9_weigh_39 : decode cX9_weigh 39 = .ok (.iconst 0, 1) := by decide +kernel
theorem dX9_weigh_40 : decode cX9_weigh 40 = .ok (.istore 6, 2) := by decide +kernel
theorem dX9_weigh_42 : decode cX9_weigh 42 = .ok (.iload 6, 2) := by decide +kernel
theorem dX9_weigh_44 : decode cX9_weigh 44 = .ok (.aload_n 1, 1) := by decide +kernel
theorem dX9_weigh_45 : decode cX9_weigh 45 = .ok (.getfield 62, 3) := by decide +kernel
theorem dX9_weigh_48 : decode cX9_weigh 48 = .ok (.if_icmp .ge 31, 3) := by decide +kernel
theorem dX9_weigh_51 : decode cX9_weigh 51 = .ok (.iload_n 2, 1) := by decide +kernel
theorem dX9_weigh_52 : decode cX9_weigh 52 = .ok (.iload 6, 2) := by decide +kernel
theorem dX9_weigh_54 : decode cX9_weigh 54 = .ok (.invokestatic 65, 3) := by decide +kernel
theorem dX9_weigh_57 : decode cX9_weigh 57 = .ok (.ifCond .eq 16, 3) := by decide +kernel
theorem dX9_weigh_60 : decode cX9_weigh 60 = .ok (.aload_n 0, 1) := by decide +kernel
theorem dX9_weigh_61 : decode cX9_weigh 61 = .ok (.aload_n 1, 1) := by decide +kernel
theorem dX9_weigh_62 : decode cX9_weigh 62 = .ok (.iload 6, 2) := by decide +kernel
theorem dX9_weigh_64 : decode cX9_weigh 64 = .ok (.invokevirtual 69, 3) := by decide +kernel
theorem dX9_weigh_67 : decode cX9_weigh 67 = .ok (.ifCond .eq 6, 3) := by decide +kernel
theorem dX9_weigh_70 : decode cX9_weigh 70 = .ok (.iconst 1, 1) := by decide +kernel
theorem dX9_weigh_71 : decode cX9_weigh 71 = .ok (.istore 4, 2) := by decide +kernel
theorem dX9_weigh_73 : decode cX9_weigh 73 = .ok (.iinc 6 1, 3) := by decide +kernel
theorem dX9_weigh_76 : decode cX9_weigh 76 = .ok (.goto (-34), 3) := by decide +kernel
theorem dX9_weigh_79 : decode cX9_weigh 79 = .ok (.iinc 5 1, 3) := by decide +kernel
theorem dX9_weigh_82 : decode cX9_weigh 82 = .ok (.goto (-58), 3) := by decide +kernel
theorem dX9_weigh_85 : decode cX9_weigh 85 = .ok (.return_, 1) := by decide +kernel
theorem dX9_lowerCosts_0 : decode cX9_lowerCosts 0 = .ok (.aload_n 1, 1) := by decide +kernel
theorem dX9_lowerCosts_1 : decode cX9_lowerCosts 1 = .ok (.getfield 73, 3) := by decide +kernel
theorem dX9_lowerCosts_4 : decode cX9_lowerCosts 4 = .ok (.iload_n 2, 1) := by decide +kernel
theorem dX9_lowerCosts_5 : decode cX9_lowerCosts 5 = .ok (.invokevirtual 27, 3) := by decide +kernel
theorem dX9_lowerCosts_8 : decode cX9_lowerCosts 8 = .ok (.istore_n 3, 1) := by decide +kernel
theorem dX9_lowerCosts_9 : decode cX9_lowerCosts 9 = .ok (.aload_n 1, 1) := by decide +kernel
theorem dX9_lowerCosts_10 : decode cX9_lowerCosts 10 = .ok (.getfield 76, 3) := by decide +kernel
theorem dX9_lowerCosts_13 : decode cX9_lowerCosts 13 = .ok (.iload_n 2, 1) := by decide +kernel
theorem dX9_lowerCosts_14 : decode cX9_lowerCosts 14 = .ok (.invokevirtual 27, 3) := by decide +kernel
theorem dX9_lowerCosts_17 : decode cX9_lowerCosts 17 = .ok (.istore 4, 2) := by decide +kernel
theorem dX9_lowerCosts_19 : decode cX9_lowerCosts 19 = .ok (.aload_n 1, 1) := by decide +kernel
theorem dX9_lowerCosts_20 : decode cX9_lowerCosts 20 = .ok (.iload_n 2, 1) := by decide +kernel
theorem dX9_lowerCosts_21 : decode cX9_lowerCosts 21 = .ok (.invokestatic 79, 3) := by decide +kernel
theorem dX9_lowerCosts_24 : decode cX9_lowerCosts 24 = .ok (.istore 5, 2) := by decide +kernel
theorem dX9_lowerCosts_26 : decode cX9_lowerCosts 26 = .ok (.aload_n 0, 1) := by decide +kernel
theorem dX9_lowerCosts_27 : decode cX9_lowerCosts 27 = .ok (.getfield 14, 3) := by decide +kernel
theorem dX9_lowerCosts_30 : decode cX9_lowerCosts 30 = .ok (.iload 4, 2) := by decide +kernel
theorem dX9_lowerCosts_32 : decode cX9_lowerCosts 32 = .ok (.invokevirtual 27, 3) := by decide +kernel
theorem dX9_lowerCosts_35 : decode cX9_lowerCosts 35 = .ok (.iload 5, 2) := by decide +kernel
theorem dX9_lowerCosts_37 : decode cX9_lowerCosts 37 = .ok (.iadd, 1) := by decide +kernel
theorem dX9_lowerCosts_38 : decode cX9_lowerCosts 38 = .ok (.aload_n 0, 1) := by decide +kernel
theorem dX9_lowerCosts_39 : decode cX9_lowerCosts 39 = .ok (.getfield 14, 3) := by decide +kernel
theorem dX9_lowerCosts_42 : decode cX9_lowerCosts 42 = .ok (.iload_n 3, 1) := by decide +kernel
theorem dX9_lowerCosts_43 : decode cX9_lowerCosts 43 = .ok (.invokevirtual 27, 3) := by decide +kernel
theorem dX9_lowerCosts_46 : decode cX9_lowerCosts 46 = .ok (.if_icmp .ge 25, 3) := by decide +kernel
theorem dX9_lowerCosts_49 : decode cX9_lowerCosts 49 = .ok (.aload_n 0, 1) := by decide +kernel
theorem dX9_lowerCosts_50 : decode cX9_lowerCosts 50 = .ok (.getfield 14, 3) := by decide +kernel
theorem dX9_lowerCosts_53 : decode cX9_lowerCosts 53 = .ok (.iload_n 3, 1) := by decide +kernel
theorem dX9_lowerCosts_54 : decode cX9_lowerCosts 54 = .ok (.aload_n 0, 1) := by decide +kernel
theorem dX9_lowerCosts_55 : decode cX9_lowerCosts 55 = .ok (.getfield 14, 3) := by decide +kernel
theorem dX9_lowerCosts_58 : decode cX9_lowerCosts 58 = .ok (.iload 4, 2) := by decide +kernel
theorem dX9_lowerCosts_60 : decode cX9_lowerCosts 60 = .ok (.invokevirtual 27, 3) := by decide +kernel
theorem dX9_lowerCosts_63 : decode cX9_lowerCosts 63 = .ok (.iload 5, 2) := by decide +kernel
theorem dX9_lowerCosts_65 : decode cX9_lowerCosts 65 = .ok (.iadd, 1) := by decide +kernel
theorem dX9_lowerCosts_66 : decode cX9_lowerCosts 66 = .ok (.invokevirtual 47, 3) := by decide +kernel
theorem dX9_lowerCosts_69 : decode cX9_lowerCosts 69 = .ok (.iconst 1, 1) := by decide +kernel
theorem dX9_lowerCosts_70 : decode cX9_lowerCosts 70 = .ok (.ireturn, 1) := by decide +kernel
theorem dX9_lowerCosts_71 : decode cX9_lowerCosts 71 = .ok (.aload_n 0, 1) := by decide +kernel
theorem dX9_lowerCosts_72 : decode cX9_lowerCosts 72 = .ok (.getfield 14, 3) := by decide +kernel
theorem dX9_lowerCosts_75 : decode cX9_lowerCosts 75 = .ok (.iload_n 3, 1) := by decide +kernel
theorem dX9_lowerCosts_76 : decode cX9_lowerCosts 76 = .ok (.invokevirtual 27, 3) := by decide +kernel
theorem dX9_lowerCosts_79 : decode cX9_lowerCosts 79 = .ok (.iload 5, 2) := by decide +kernel
theorem dX9_lowerCosts_81 : decode cX9_lowerCosts 81 = .ok (.iadd, 1) := by decide +kernel
theorem dX9_lowerCosts_82 : decode cX9_lowerCosts 82 = .ok (.aload_n 0, 1) := by decide +kernel
theorem dX9_lowerCosts_83 : decode cX9_lowerCosts 83 = .ok (.getfield 14, 3) := by decide +kernel
theorem dX9_lowerCosts_86 : decode cX9_lowerCosts 86 = .ok (.iload 4, 2) := by decide +kernel
theorem dX9_lowerCosts_88 : decode cX9_lowerCosts 88 = .ok (.invokevirtual 27, 3) := by decide +kernel
theorem dX9_lowerCosts_91 : decode cX9_lowerCosts 91 = .ok (.if_icmp .ge 25, 3) := by decide +kernel
theorem dX9_lowerCosts_94 : decode cX9_lowerCosts 94 = .ok (.aload_n 0, 1) := by decide +kernel
theorem dX9_lowerCosts_95 : decode cX9_lowerCosts 95 = .ok (.getfield 14, 3) := by decide +kernel
theorem dX9_lowerCosts_98 : decode cX9_lowerCosts 98 = .ok (.iload 4, 2) := by decide +kernel
theorem dX9_lowerCosts_100 : decode cX9_lowerCosts 100 = .ok (.aload_n 0, 1) := by decide +kernel
theorem dX9_lowerCosts_101 : decode cX9_lowerCosts 101 = .ok (.getfield 14, 3) := by decide +kernel
theorem dX9_lowerCosts_104 : decode cX9_lowerCosts 104 = .ok (.iload_n 3, 1) := by decide +kernel
theorem dX9_lowerCosts_105 : decode cX9_lowerCosts 105 = .ok (.invokevirtual 27, 3) := by decide +kernel
theorem dX9_lowerCosts_108 : decode cX9_lowerCosts 108 = .ok (.iload 5, 2) := by decide +kernel
theorem dX9_lowerCosts_110 : decode cX9_lowerCosts 110 = .ok (.iadd, 1) := by decide +kernel
theorem dX9_lowerCosts_111 : decode cX9_lowerCosts 111 = .ok (.invokevirtual 47, 3) := by decide +kernel
theorem dX9_lowerCosts_114 : decode cX9_lowerCosts 114 = .ok (.iconst 1, 1) := by decide +kernel
theorem dX9_lowerCosts_115 : decode cX9_lowerCosts 115 = .ok (.ireturn, 1) := by decide +kernel
theorem dX9_lowerCosts_116 : decode cX9_lowerCosts 116 = .ok (.iconst 0, 1) := by decide +kernel
theorem dX9_lowerCosts_117 : decode cX9_lowerCosts 117 = .ok (.ireturn, 1) := by decide +kernel
theorem dX9_priceOf_0 : decode cX9_priceOf 0 = .ok (.aload_n 0, 1) := by decide +kernel
theorem dX9_priceOf_1 : decode cX9_priceOf 1 = .ok (.getfield 51, 3) := by decide +kernel
theorem dX9_priceOf_4 : decode cX9_priceOf 4 = .ok (.iload_n 1, 1) := by decide +kernel
theorem dX9_priceOf_5 : decode cX9_priceOf 5 = .ok (.invokevirtual 27, 3) := by decide +kernel
theorem dX9_priceOf_8 : decode cX9_priceOf 8 = .ok (.bipush 10, 2) := by decide +kernel
theorem dX9_priceOf_10 : decode cX9_priceOf 10 = .ok (.imul, 1) := by decide +kernel
theorem dX9_priceOf_11 : decode cX9_priceOf 11 = .ok (.iconst 1, 1) := by decide +kernel
theorem dX9_priceOf_12 : decode cX9_priceOf 12 = .ok (.iadd, 1) := by decide +kernel
theorem dX9_priceOf_13 : decode cX9_priceOf 13 = .ok (.ireturn, 1) := by decide +kernel
theorem dX9_firstStep_0 : decode cX9_firstStep 0 = .ok (.iload_n 2, 1) := by decide +kernel
theorem dX9_firstStep_1 : decode cX9_firstStep 1 = .ok (.aload_n 1, 1) := by decide +kernel
theorem dX9_firstStep_2 : decode cX9_firstStep 2 = .ok (.iconst 1, 1) := by decide +kernel
theorem dX9_firstStep_3 : decode cX9_firstStep 3 = .ok (.iload_n 3, 1) := by decide +kernel
theorem dX9_firstStep_4 : decode cX9_firstStep 4 = .ok (.ishl, 1) := by decide +kernel
theorem dX9_firstStep_5 : decode cX9_firstStep 5 = .ok (.invokevirtual 83, 3) := by decide +kernel
theorem dX9_firstStep_8 : decode cX9_firstStep 8 = .ok (.iand, 1) := by decide +kernel
theorem dX9_firstStep_9 : decode cX9_firstStep 9 = .ok (.istore 4, 2) := by decide +kernel
theorem dX9_firstStep_11 : decode cX9_firstStep 11 = .ok (.iconst 0, 1) := by decide +kernel
theorem dX9_firstStep_12 : decode cX9_firstStep 12 = .ok (.istore 5, 2) := by decide +kernel
theorem dX9_firstStep_14 : decode cX9_firstStep 14 = .ok (.iload 5, 2) := by decide +kernel
theorem dX9_firstStep_16 : decode cX9_firstStep 16 = .ok (.aload_n 1, 1) := by decide +kernel
theorem dX9_firstStep_17 : decode cX9_firstStep 17 = .ok (.getfield 62, 3) := by decide +kernel
theorem dX9_firstStep_20 : decode cX9_firstStep 20 = .ok (.if_icmp .ge 58, 3) := by decide +kernel
theorem dX9_firstStep_23 : decode cX9_firstStep 23 = .ok (.aload_n 0, 1) := by decide +kernel
theorem dX9_firstStep_24 : decode cX9_firstStep 24 = .ok (.getfield 14, 3) := by decide +kernel
theorem dX9_firstStep_27 : decode cX9_firstStep 27 = .ok (.aload_n 1, 1) := by decide +kernel
theorem dX9_firstStep_28 : decode cX9_firstStep 28 = .ok (.iload 5, 2) := by decide +kernel
theorem dX9_firstStep_30 : decode cX9_firstStep 30 = .ok (.iload_n 3, 1) := by decide +kernel
theorem dX9_firstStep_31 : decode cX9_firstStep 31 = .ok (.invokevirtual 55, 3) := by decide +kernel
theorem dX9_firstStep_34 : decode cX9_firstStep 34 = .ok (.invokevirtual 27, 3) := by decide +kernel
theorem dX9_firstStep_37 : decode cX9_firstStep 37 = .ok (.istore 6, 2) := by decide +kernel
theorem dX9_firstStep_39 : decode cX9_firstStep 39 = .ok (.iload 4, 2) := by decide +kernel
theorem dX9_firstStep_41 : decode cX9_firstStep 41 = .ok (.iload 5, 2) := by decide +kernel
theorem dX9_firstStep_43 : decode cX9_firstStep 43 = .ok (.invokestatic 65, 3) := by decide +kernel
theorem dX9_firstStep_46 : decode cX9_firstStep 46 = .ok (.ifCond .eq 26, 3) := by decide +kernel
theorem dX9_firstStep_49 : decode cX9_firstStep 49 = .ok (.iload 6, 2) := by decide +kernel
theorem dX9_firstStep_51 : decode cX9_firstStep 51 = .ok (.aload_n 1, 1) := by decide +kernel
theorem dX9_firstStep_52 : decode cX9_firstStep 52 = .ok (.iload 5, 2) := by decide +kernel
theorem dX9_firstStep_54 : decode cX9_firstStep 54 = .ok (.invokestatic 79, 3) := by decide +kernel
theorem dX9_firstStep_57 : decode cX9_firstStep 57 = .ok (.iadd, 1) := by decide +kernel
theorem dX9_firstStep_58 : decode cX9_firstStep 58 = .ok (.aload_n 0, 1) := by decide +kernel
theorem dX9_firstStep_59 : decode cX9_firstStep 59 = .ok (.getfield 14, 3) := by decide +kernel
theorem dX9_firstStep_62 : decode cX9_firstStep 62 = .ok (.iload_n 3, 1) := by decide +kernel
theorem dX9_firstStep_63 : decode cX9_firstStep 63 = .ok (.invokevirtual 27, 3) := by decide +kernel
theorem dX9_firstStep_66 : decode cX9_firstStep 66 = .ok (.if_icmp .ne 6, 3) := by decide +kernel
theorem dX9_firstStep_69 : decode cX9_firstStep 69 = .ok (.iload 5, 2) := by decide +kernel
theorem dX9_firstStep_71 : decode cX9_firstStep 71 = .ok (.ireturn, 1) := by decide +kernel
theorem dX9_firstStep_72 : decode cX9_firstStep 72 = .ok (.iinc 5 1, 3) := by decide +kernel
theorem dX9_firstStep_75 : decode cX9_firstStep 75 = .ok (.goto (-61), 3) := by decide +kernel
theorem dX9_firstStep_78 : decode cX9_firstStep 78 = .ok (.bipush (-6), 2) := by decide +kernel
theorem dX9_firstStep_80 : decode cX9_firstStep 80 = .ok (.ireturn, 1) := by decide +kernel
theorem dJ6_bitCount_0f7a4_0 : decode cJ6_bitCount_0f7a4 0 = .ok (.iload_n 0, 1) := by decide +kernel
theorem dJ6_bitCount_0f7a4_1 : decode cJ6_bitCount_0f7a4 1 = .ok (.iload_n 0, 1) := by decide +kernel
theorem dJ6_bitCount_0f7a4_2 : decode cJ6_bitCount_0f7a4 2 = .ok (.iconst 1, 1) := by decide +kernel
theorem dJ6_bitCount_0f7a4_3 : decode cJ6_bitCount_0f7a4 3 = .ok (.iushr, 1) := by decide +kernel
theorem dJ6_bitCount_0f7a4_4 : decode cJ6_bitCount_0f7a4 4 = .ok (.ldc_w 265, 3) := by decide +kernel
theorem dJ6_bitCount_0f7a4_7 : decode cJ6_bitCount_0f7a4 7 = .ok (.iand, 1) := by decide +kernel
theorem dJ6_bitCount_0f7a4_8 : decode cJ6_bitCount_0f7a4 8 = .ok (.isub, 1) := by decide +kernel
theorem dJ6_bitCount_0f7a4_9 : decode cJ6_bitCount_0f7a4 9 = .ok (.istore_n 0, 1) := by decide +kernel
theorem dJ6_bitCount_0f7a4_10 : decode cJ6_bitCount_0f7a4 10 = .ok (.iload_n 0, 1) := by decide +kernel
theorem dJ6_bitCount_0f7a4_11 : decode cJ6_bitCount_0f7a4 11 = .ok (.ldc_w 266, 3) := by decide +kernel
theorem dJ6_bitCount_0f7a4_14 : decode cJ6_bitCount_0f7a4 14 = .ok (.iand, 1) := by decide +kernel
theorem dJ6_bitCount_0f7a4_15 : decode cJ6_bitCount_0f7a4 15 = .ok (.iload_n 0, 1) := by decide +kernel
theorem dJ6_bitCount_0f7a4_16 : decode cJ6_bitCount_0f7a4 16 = .ok (.iconst 2, 1) := by decide +kernel
theorem dJ6_bitCount_0f7a4_17 : decode cJ6_bitCount_0f7a4 17 = .ok (.iushr, 1) := by decide +kernel
theorem dJ6_bitCount_0f7a4_18 : decode cJ6_bitCount_0f7a4 18 = .ok (.ldc_w 266, 3) := by decide +kernel
theorem dJ6_bitCount_0f7a4_21 : decode cJ6_bitCount_0f7a4 21 = .ok (.iand, 1) := by decide +kernel
theorem dJ6_bitCount_0f7a4_22 : decode cJ6_bitCount_0f7a4 22 = .ok (.iadd, 1) := by decide +kernel
theorem dJ6_bitCount_0f7a4_23 : decode cJ6_bitCount_0f7a4 23 = .ok (.istore_n 0, 1) := by decide +kernel
theorem dJ6_bitCount_0f7a4_24 : decode cJ6_bitCount_0f7a4 24 = .ok (.iload_n 0, 1) := by decide +kernel
theorem dJ6_bitCount_0f7a4_25 : decode cJ6_bitCount_0f7a4 25 = .ok (.iload_n 0, 1) := by decide +kernel
theorem dJ6_bitCount_0f7a4_26 : decode cJ6_bitCount_0f7a4 26 = .ok (.iconst 4, 1) := by decide +kernel
theorem dJ6_bitCount_0f7a4_27 : decode cJ6_bitCount_0f7a4 27 = .ok (.iushr, 1) := by decide +kernel
theorem dJ6_bitCount_0f7a4_28 : decode cJ6_bitCount_0f7a4 28 = .ok (.iadd, 1) := by decide +kernel
theorem dJ6_bitCount_0f7a4_29 : decode cJ6_bitCount_0f7a4 29 = .ok (.ldc_w 267, 3) := by decide +kernel
theorem dJ6_bitCount_0f7a4_32 : decode cJ6_bitCount_0f7a4 32 = .ok (.iand, 1) := by decide +kernel
theorem dJ6_bitCount_0f7a4_33 : decode cJ6_bitCount_0f7a4 33 = .ok (.istore_n 0, 1) := by decide +kernel
theorem dJ6_bitCount_0f7a4_34 : decode cJ6_bitCount_0f7a4 34 = .ok (.iload_n 0, 1) := by decide +kernel
theorem dJ6_bitCount_0f7a4_35 : decode cJ6_bitCount_0f7a4 35 = .ok (.iload_n 0, 1) := by decide +kernel
theorem dJ6_bitCount_0f7a4_36 : decode cJ6_bitCount_0f7a4 36 = .ok (.bipush 8, 2) := by decide +kernel
theorem dJ6_bitCount_0f7a4_38 : decode cJ6_bitCount_0f7a4 38 = .ok (.iushr, 1) := by decide +kernel
theorem dJ6_bitCount_0f7a4_39 : decode cJ6_bitCount_0f7a4 39 = .ok (.iadd, 1) := by decide +kernel
theorem dJ6_bitCount_0f7a4_40 : decode cJ6_bitCount_0f7a4 40 = .ok (.istore_n 0, 1) := by decide +kernel
theorem dJ6_bitCount_0f7a4_41 : decode cJ6_bitCount_0f7a4 41 = .ok (.iload_n 0, 1) := by decide +kernel
theorem dJ6_bitCount_0f7a4_42 : decode cJ6_bitCount_0f7a4 42 = .ok (.iload_n 0, 1) := by decide +kernel
theorem dJ6_bitCount_0f7a4_43 : decode cJ6_bitCount_0f7a4 43 = .ok (.bipush 16, 2) := by decide +kernel
theorem dJ6_bitCount_0f7a4_45 : decode cJ6_bitCount_0f7a4 45 = .ok (.iushr, 1) := by decide +kernel
theorem dJ6_bitCount_0f7a4_46 : decode cJ6_bitCount_0f7a4 46 = .ok (.iadd, 1) := by decide +kernel
theorem dJ6_bitCount_0f7a4_47 : decode cJ6_bitCount_0f7a4 47 = .ok (.istore_n 0, 1) := by decide +kernel
theorem dJ6_bitCount_0f7a4_48 : decode cJ6_bitCount_0f7a4 48 = .ok (.iload_n 0, 1) := by decide +kernel
theorem dJ6_bitCount_0f7a4_49 : decode cJ6_bitCount_0f7a4 49 = .ok (.bipush 63, 2) := by decide +kernel
theorem dJ6_bitCount_0f7a4_51 : decode cJ6_bitCount_0f7a4 51 = .ok (.iand, 1) := by decide +kernel
theorem dJ6_bitCount_0f7a4_52 : decode cJ6_bitCount_0f7a4 52 = .ok (.ireturn, 1) := by decide +kernel
theorem dJ9_max_7cf53_0 : decode cJ9_max_7cf53 0 = .ok (.iload_n 0, 1) := by decide +kernel
theorem dJ9_max_7cf53_1 : decode cJ9_max_7cf53 1 = .ok (.iload_n 1, 1) := by decide +kernel
theorem dJ9_max_7cf53_2 : decode cJ9_max_7cf53 2 = .ok (.if_icmp .lt 7, 3) := by decide +kernel
theorem dJ9_max_7cf53_5 : decode cJ9_max_7cf53 5 = .ok (.iload_n 0, 1) := by decide +kernel
theorem dJ9_max_7cf53_6 : decode cJ9_max_7cf53 6 = .ok (.goto 4, 3) := by decide +kernel
theorem dJ9_max_7cf53_9 : decode cJ9_max_7cf53 9 = .ok (.iload_n 1, 1) := by decide +kernel
theorem dJ9_max_7cf53_10 : decode cJ9_max_7cf53 10 = .ok (.ireturn, 1) := by decide +kernel
theorem dJ9_min_7cf53_0 : decode cJ9_min_7cf53 0 = .ok (.iload_n 0, 1) := by decide +kernel
theorem dJ9_min_7cf53_1 : decode cJ9_min_7cf53 1 = .ok (.iload_n 1, 1) := by decide +kernel
theorem dJ9_min_7cf53_2 : decode cJ9_min_7cf53 2 = .ok (.if_icmp .gt 7, 3) := by decide +kernel
theorem dJ9_min_7cf53_5 : decode cJ9_min_7cf53 5 = .ok (.iload_n 0, 1) := by decide +kernel
theorem dJ9_min_7cf53_6 : decode cJ9_min_7cf53 6 = .ok (.goto 4, 3) := by decide +kernel
theorem dJ9_min_7cf53_9 : decode cJ9_min_7cf53 9 = .ok (.iload_n 1, 1) := by decide +kernel
theorem dJ9_min_7cf53_10 : decode cJ9_min_7cf53 10 = .ok (.ireturn, 1) := by decide +kernel
end
section
theorem dX11_init_0 : decode cX11_init 0 = .ok (.aload_n 0, 1) := by decide +kernel
theorem dX11_init_1 : decode cX11_init 1 = .ok (.invokespecial 1, 3) := by decide +kernel
theorem dX11_init_4 : decode cX11_init 4 = .ok (.aload_n 0, 1) := by decide +kernel
theorem dX11_init_5 : decode cX11_init 5 = .ok (.sipush 138, 3) := by decide +kernel
theorem dX11_init_8 : decode cX11_init 8 = .ok (.newarray .int, 2) := by decide +kernel
theorem dX11_init_10 : decode cX11_init 10 = .ok (.putfield 7, 3) := by decide +kernel
theorem dX11_init_13 : decode cX11_init 13 = .ok (.aload_n 0, 1) := by decide +kernel
theorem dX11_init_14 : decode cX11_init 14 = .ok (.sipush 828, 3) := by decide +kernel
theorem dX11_init_17 : decode cX11_init 17 = .ok (.newarray .int, 2) := by decide +kernel
theorem dX11_init_19 : decode cX11_init 19 = .ok (.putfield 13, 3) := by decide +kernel
theorem dX11_init_22 : decode cX11_init 22 = .ok (.aload_n 0, 1) := by decide +kernel
theorem dX11_init_23 : decode cX11_init 23 = .ok (.sipush 276, 3) := by decide +kernel
theorem dX11_init_26 : decode cX11_init 26 = .ok (.newarray .int, 2) := by decide +kernel
theorem dX11_init_28 : decode cX11_init 28 = .ok (.putfield 16, 3) := by decide +kernel
theorem dX11_init_31 : decode cX11_init 31 = .ok (.aload_n 0, 1) := by decide +kernel
theorem dX11_init_32 : decode cX11_init 32 = .ok (.iconst 2, 1) := by decide +kernel
theorem dX11_init_33 : decode cX11_init 33 = .ok (.newarray .boolean, 2) := by decide +kernel
theorem dX11_init_35 : decode cX11_init 35 = .ok (.putfield 19, 3) := by decide +kernel
theorem dX11_init_38 : decode cX11_init 38 = .ok (.aload_n 0, 1) := by decide +kernel
theorem dX11_init_39 : decode cX11_init 39 = .ok (.bipush 60, 2) := by decide +kernel
theorem dX11_init_41 : decode cX11_init 41 = .ok (.newarray .char, 2) := by decide +kernel
theorem dX11_init_43 : decode cX11_init 43 = .ok (.putfield 23, 3) := by decide +kernel
theorem dX11_init_46 : decode cX11_init 46 = .ok (.aload_n 0, 1) := by decide +kernel
theorem dX11_init_47 : decode cX11_init 47 = .ok (.bipush 10, 2) := by decide +kernel
theorem dX11_init_49 : decode cX11_init 49 = .ok (.newarray .int, 2) := by decide +kernel
theorem dX11_init_51 : decode cX11_init 51 = .ok (.putfield 27, 3) := by decide +kernel
theorem dX11_init_54 : decode cX11_init 54 = .ok (.aload_n 0, 1) := by decide +kernel
theorem dX11_init_55 : decode cX11_init 55 = .ok (.bipush 10, 2) := by decide +kernel
theorem dX11_init_57 : decode cX11_init 57 = .ok (.newarray .int, 2) := by decide +kernel
theorem dX11_init_59 : decode cX11_init 59 = .ok (.putfield 30, 3) := by decide +kernel
theorem dX11_init_62 : decode cX11_init 62 = .ok (.aload_n 0, 1) := by decide +kernel
theorem dX11_init_63 : decode cX11_init 63 = .ok (.bipush 64, 2) := by decide +kernel
theorem dX11_init_65 : decode cX11_init 65 = .ok (.newarray .int, 2) := by decide +kernel
theorem dX11_init_67 : decode cX11_init 67 = .ok (.putfield 33, 3) := by decide +kernel
theorem dX11_init_70 : decode cX11_init 70 = .ok (.aload_n 0, 1) := by decide +kernel
theorem dX11_init_71 : decode cX11_init 71 = .ok (.getfield 7, 3) := by decide +kernel
theorem dX11_init_74 : decode cX11_init 74 = .ok (.iconst 0, 1) := by decide +kernel
theorem dX11_init_75 : decode cX11_init 75 = .ok (.bipush 60, 2) := by decide +kernel
theorem dX11_init_77 : decode cX11_init 77 = .ok (.iastore, 1) := by decide +kernel
theorem dX11_init_78 : decode cX11_init 78 = .ok (.aload_n 0, 1) := by decide +kernel
theorem dX11_init_79 : decode cX11_init 79 = .ok (.getfield 7, 3) := by decide +kernel
theorem dX11_init_82 : decode cX11_init 82 = .ok (.iconst 1, 1) := by decide +kernel
theorem dX11_init_83 : decode cX11_init 83 = .ok (.bipush 10, 2) := by decide +kernel
theorem dX11_init_85 : decode cX11_init 85 = .ok (.iastore, 1) := by decide +kernel
theorem dX11_init_86 : decode cX11_init 86 = .ok (.return_, 1) := by decide +kernel
theorem dX11_in_0 : decode cX11_in 0 = .ok (.iload_n 0, 1) := by decide +kernel
theorem dX11_in_1 : decode cX11_in 1 = .ok (.iload_n 1, 1) := by decide +kernel
theorem dX11_in_2 : decode cX11_in 2 = .ok (.if_icmp .lt 12, 3) := by decide +kernel
theorem dX11_in_5 : decode cX11_in 5 = .ok (.iload_n 0, 1) := by decide +kernel
theorem dX11_in_6 : decode cX11_in 6 = .ok (.iload_n 2, 1) := by decide +kernel
theorem dX11_in_7 : decode cX11_in 7 = .ok (.if_icmp .gt 7, 3) := by decide +kernel
theorem dX11_in_10 : decode cX11_in 10 = .ok (.iconst 1, 1) := by decide +kernel
theorem dX11_in_11 : decode cX11_in 11 = .ok (.goto 4, 3) := by decide +kernel
theorem dX11_in_14 : decode cX11_in 14 = .ok (.iconst 0, 1) := by decide +kernel
theorem dX11_in_15 : decode cX11_in 15 = .ok (.ireturn, 1) := by decide +kernel
theorem dX11_isRoom_0 : decode cX11_isRoom 0 = .ok (.iload_n 0, 1) := by decide +kernel
theorem dX11_isRoom_1 : decode cX11_isRoom 1 = .ok (.iconst 0, 1) := by decide +kernel
theorem dX11_isRoom_2 : decode cX11_isRoom 2 = .ok (.bipush 9, 2) := by decide +kernel
theorem dX11_isRoom_4 : decode cX11_isRoom 4 = .ok (.invokestatic 36, 3) := by decide +kernel
theorem dX11_isRoom_7 : decode cX11_isRoom 7 = .ok (.ireturn, 1) := by decide +kernel
theorem dX11_isGhost_0 : decode cX11_isGhost 0 = .ok (.iload_n 0, 1) := by decide +kernel
theorem dX11_isGhost_1 : decode cX11_isGhost 1 = .ok (.iconst 0, 1) := by decide +kernel
theorem dX11_isGhost_2 : decode cX11_isGhost 2 = .ok (.iconst 3, 1) := by decide +kernel
theorem dX11_isGhost_3 : decode cX11_isGhost 3 = .ok (.invokestatic 36, 3) := by decide +kernel
theorem dX11_isGhost_6 : decode cX11_isGhost 6 = .ok (.ireturn, 1) := by decide +kernel
theorem dX11_isBoard_0 : decode cX11_isBoard 0 = .ok (.iload_n 1, 1) := by decide +kernel
theorem dX11_isBoard_1 : decode cX11_isBoard 1 = .ok (.ifCond .lt 17, 3) := by decide +kernel
theorem dX11_isBoard_4 : decode cX11_isBoard 4 = .ok (.iload_n 1, 1) := by decide +kernel
theorem dX11_isBoard_5 : decode cX11_isBoard 5 = .ok (.aload_n 0, 1) := by decide +kernel
theorem dX11_isBoard_6 : decode cX11_isBoard 6 = .ok (.getfield 7, 3) := by decide +kernel
theorem dX11_isBoard_9 : decode cX11_isBoard 9 = .ok (.iconst 4, 1) := by decide +kernel
theorem dX11_isBoard_10 : decode cX11_isBoard 10 = .ok (.iaload, 1) := by decide +kernel
theorem dX11_isBoard_11 : decode cX11_isBoard 11 = .ok (.if_icmp .ge 7, 3) := by decide +kernel
theorem dX11_isBoard_14 : decode cX11_isBoard 14 = .ok (.iconst 1, 1) := by decide +kernel
theorem dX11_isBoard_15 : decode cX11_isBoard 15 = .ok (.goto 4, 3) := by decide +kernel
theorem dX11_isBoard_18 : decode cX11_isBoard 18 = .ok (.iconst 0, 1) := by decide +kernel
theorem dX11_isBoard_19 : decode cX11_isBoard 19 = .ok (.ireturn, 1) := by decide +kernel
theorem dX11_isSleeper_0 : decode cX11_isSleeper 0 = .ok (.iload_n 1, 1) := by decide +kernel
theorem dX11_isSleeper_1 : decode cX11_isSleeper 1 = .ok (.ifCond .lt 17, 3) := by decide +kernel
theorem dX11_isSleeper_4 : decode cX11_isSleeper 4 = .ok (.iload_n 1, 1) := by decide +kernel
theorem dX11_isSleeper_5 : decode cX11_isSleeper 5 = .ok (.aload_n 0, 1) := by decide +kernel
theorem dX11_isSleeper_6 : decode cX11_isSleeper 6 = .ok (.getfield 7, 3) := by decide +kernel
theorem dX11_isSleeper_9 : decode cX11_isSleeper 9 = .ok (.iconst 5, 1) := by decide +kernel
theorem dX11_isSleeper_10 : decode cX11_isSleeper 10 = .ok (.iaload, 1) := by decide +kernel
theorem dX11_isSleeper_11 : decode cX11_isSleeper 11 = .ok (.if_icmp .ge 7, 3) := by decide +kernel
theorem dX11_isSleeper_14 : decode cX11_isSleeper 14 = .ok (.iconst 1, 1) := by decide +kernel
theorem dX11_isSleeper_15 : decode cX11_isSleeper 15 = .ok (.goto 4, 3) := by decide +kernel
theorem dX11_isSleeper_18 : decode cX11_isSleeper 18 = .ok (.iconst 0, 1) := by decide +kernel
theorem dX11_isSleeper_19 : decode cX11_isSleeper 19 = .ok (.ireturn, 1) := by decide +kernel
theorem dX11_ofBoard_0 : decode cX11_ofBoard 0 = .ok (.aload_n 0, 1) := by decide +kernel
theorem dX11_ofBoard_1 : decode cX11_ofBoard 1 = .ok (.getfield 7, 3) := by decide +kernel
theorem dX11_ofBoard_4 : decode cX11_ofBoard 4 = .ok (.bipush 6, 2) := by decide +kernel
theorem dX11_ofBoard_6 : decode cX11_ofBoard 6 = .ok (.iconst 5, 1) := by decide +kernel
theorem dX11_ofBoard_7 : decode cX11_ofBoard 7 = .ok (.iload_n 1, 1) := by decide +kernel
theorem dX11_ofBoard_8 : decode cX11_ofBoard 8 = .ok (.imul, 1) := by decide +kernel
theorem dX11_ofBoard_9 : decode cX11_ofBoard 9 = .ok (.iadd, 1) := by decide +kernel
theorem dX11_ofBoard_10 : decode cX11_ofBoard 10 = .ok (.iload_n 2, 1) := by decide +kernel
theorem dX11_ofBoard_11 : decode cX11_ofBoard 11 = .ok (.iadd, 1) := by decide +kernel
theorem dX11_ofBoard_12 : decode cX11_ofBoard 12 = .ok (.iaload, 1) := by decide +kernel
theorem dX11_ofBoard_13 : decode cX11_ofBoard 13 = .ok (.ireturn, 1) := by decide +kernel
theorem dX11_ofGhost_0 : decode cX11_ofGhost 0 = .ok (.aload_n 0, 1) := by decide +kernel
theorem dX11_ofGhost_1 : decode cX11_ofGhost 1 = .ok (.getfield 7, 3) := by decide +kernel
theorem dX11_ofGhost_4 : decode cX11_ofGhost 4 = .ok (.bipush 106, 2) := by decide +kernel
theorem dX11_ofGhost_6 : decode cX11_ofGhost 6 = .ok (.iconst 3, 1) := by decide +kernel
theorem dX11_ofGhost_7 : decode cX11_ofGhost 7 = .ok (.iload_n 1, 1) := by decide +kernel
theorem dX11_ofGhost_8 : decode cX11_ofGhost 8 = .ok (.imul, 1) := by decide +kernel
theorem dX11_ofGhost_9 : decode cX11_ofGhost 9 = .ok (.iadd, 1) := by decide +kernel
theorem dX11_ofGhost_10 : decode cX11_ofGhost 10 = .ok (.iload_n 2, 1) := by decide +kernel
theorem dX11_ofGhost_11 : decode cX11_ofGhost 11 = .ok (.iadd, 1) := by decide +kernel
theorem dX11_ofGhost_12 : decode cX11_ofGhost 12 = .ok (.iaload, 1) := by decide +kernel
theorem dX11_ofGhost_13 : decode cX11_ofGhost 13 = .ok (.ireturn, 1) := by decide +kernel
theorem dX11_ofSleeper_0 : decode cX11_ofSleeper 0 = .ok (.aload_n 0, 1) := by decide +kernel
theorem dX11_ofSleeper_1 : decode cX11_ofSleeper 1 = .ok (.getfield 7, 3) := by decide +kernel
theorem dX11_ofSleeper_4 : decode cX11_ofSleeper 4 = .ok (.bipush 118, 2) := by decide +kernel
theorem dX11_ofSleeper_6 : decode cX11_ofSleeper 6 = .ok (.iconst 4, 1) := by decide +kernel
theorem dX11_ofSleeper_7 : decode cX11_ofSleeper 7 = .ok (.iload_n 1, 1) := by decide +kernel
theorem dX11_ofSleeper_8 : decode cX11_ofSleeper 8 = .ok (.imul, 1) := by decide +kernel
theorem dX11_ofSleeper_9 : decode cX11_ofSleeper 9 = .ok (.iadd, 1) := by decide +kernel
theorem dX11_ofSleeper_10 : decode cX11_ofSleeper 10 = .ok (.iload_n 2, 1) := by decide +kernel
theorem dX11_ofSleeper_11 : decode cX11_ofSleeper 11 = .ok (.iadd, 1) := by decide +kernel
theorem dX11_ofSleeper_12 : decode cX11_ofSleeper 12 = .ok (.iaload, 1) := by decide +kernel
theorem dX11_ofSleeper_13 : decode cX11_ofSleeper 13 = .ok (.ireturn, 1) := by decide +kernel
theorem dX11_roomOf_0 : decode cX11_roomOf 0 = .ok (.aload_n 0, 1) := by decide +kernel
theorem dX11_roomOf_1 : decode cX11_roomOf 1 = .ok (.iload_n 1, 1) := by decide +kernel
theorem dX11_roomOf_2 : decode cX11_roomOf 2 = .ok (.iconst 0, 1) := by decide +kernel
theorem dX11_roomOf_3 : decode cX11_roomOf 3 = .ok (.invokevirtual 40, 3) := by decide +kernel
theorem dX11_roomOf_6 : decode cX11_roomOf 6 = .ok (.ireturn, 1) := by decide +kernel
theorem dX11_hasCrossed_0 : decode cX11_hasCrossed 0 = .ok (.aload_n 0, 1) := by decide +kernel
theorem dX11_hasCrossed_1 : decode cX11_hasCrossed 1 = .ok (.iload_n 1, 1) := by decide +kernel
theorem dX11_hasCrossed_2 : decode cX11_hasCrossed 2 = .ok (.iconst 1, 1) := by decide +kernel
theorem dX11_hasCrossed_3 : decode cX11_hasCrossed 3 = .ok (.invokevirtual 40, 3) := by decide +kernel
theorem dX11_hasCrossed_6 : decode cX11_hasCrossed 6 = .ok (.iload_n 2, 1) := by decide +kernel
theorem dX11_hasCrossed_7 : decode cX11_hasCrossed 7 = .ok (.ishr, 1) := by decide +kernel
theorem dX11_hasCrossed_8 : decode cX11_hasCrossed 8 = .ok (.iconst 1, 1) := by decide +kernel
theorem dX11_hasCrossed_9 : decode cX11_hasCrossed 9 = .ok (.iand, 1) := by decide +kernel
theorem dX11_hasCrossed_10 : decode cX11_hasCrossed 10 = .ok (.iconst 1, 1) := by decide +kernel
theorem dX11_hasCrossed_11 : decode cX11_hasCrossed 11 = .ok (.if_icmp .ne 7, 3) := by decide +kernel
theorem dX11_hasCrossed_14 : decode cX11_hasCrossed 14 = .ok (.iconst 1, 1) := by decide +kernel
theorem dX11_hasCrossed_15 : decode cX11_hasCrossed 15 = .ok (.goto 4, 3) := by decide +kernel
theorem dX11_hasCrossed_18 : decode cX11_hasCrossed 18 = .ok (.iconst 0, 1) := by decide +kernel
theorem dX11_hasCrossed_19 : decode cX11_hasCrossed 19 = .ok (.ireturn, 1) := by decide +kernel
theorem dX11_record_0 : decode cX11_record 0 = .ok (.aload_n 0, 1) := by decide +kernel
theorem dX11_record_1 : decode cX11_record 1 = .ok (.getfield 44, 3) := by decide +kernel
theorem dX11_record_4 : decode cX11_record 4 = .ok (.bipush 6, 2) := by decide +kernel
theorem dX11_record_6 : decode cX11_record 6 = .ok (.if_icmp .ne 44, 3) := by decide +kernel
theorem dX11_record_9 : decode cX11_record 9 = .ok (.iconst 0, 1) := by decide +kernel
theorem dX11_record_10 : decode cX11_record 10 = .ok (.istore_n 1, 1) := by decide +kernel
theorem dX11_record_11 : decode cX11_record 11 = .ok (.iload_n 1, 1) := by decide +kernel
theorem dX11_record_12 : decode cX11_record 12 = .ok (.sipush 690, 3) := by decide +kernel
theorem dX11_record_15 : decode cX11_record 15 = .ok (.if_icmp .ge 25, 3) := by decide +kernel
theorem dX11_record_18 : decode cX11_record 18 = .ok (.aload_n 0, 1) := by decide +kernel
theorem dX11_record_19 : decode cX11_record 19 = .ok (.getfield 13, 3) := by decide +kernel
theorem dX11_record_22 : decode cX11_record 22 = .ok (.iload_n 1, 1) := by decide +kernel
theorem dX11_record_23 : decode cX11_record 23 = .ok (.aload_n 0, 1) := by decide +kernel
theorem dX11_record_24 : decode cX11_record 24 = .ok (.getfield 13, 3) := by decide +kernel
theorem dX11_record_27 : decode cX11_record 27 = .ok (.iload_n 1, 1) := by decide +kernel
theorem dX11_record_28 : decode cX11_record 28 = .ok (.sipush 138, 3) := by decide +kernel
theorem dX11_record_31 : decode cX11_record 31 = .ok (.iadd, 1) := by decide +kernel
theorem dX11_record_32 : decode cX11_record 32 = .ok (.iaload, 1) := by decide +kernel
theorem dX11_record_33 : decode cX11_record 33 = .ok (.iastore, 1) := by decide +kernel
theorem dX11_record_34 : decode cX11_record 34 = .ok (.iinc 1 1, 3) := by decide +kernel
theorem dX11_record_37 : decode cX11_record 37 = .ok (.goto (-26), 3) := by decide +kernel
theorem dX11_record_40 : decode cX11_record 40 = .ok (.aload_n 0, 1) := by decide +kernel
theorem dX11_record_41 : decode cX11_record 41 = .ok (.dup, 1) := by decide +kernel
theorem dX11_record_42 : decode cX11_record 42 = .ok (.getfield 44, 3) := by decide +kernel
theorem dX11_record_45 : decode cX11_record 45 = .ok (.iconst 1, 1) := by decide +kernel
theorem dX11_record_46 : decode cX11_record 46 = .ok (.isub, 1) := by decide +kernel
theorem dX11_record_47 : decode cX11_record 47 = .ok (.putfield 44, 3) := by decide +kernel
theorem dX11_record_50 : decode cX11_record 50 = .ok (.iconst 0, 1) := by decide +kernel
theorem dX11_record_51 : decode cX11_record 51 = .ok (.istore_n 1, 1) := by decide +kernel
theorem dX11_record_52 : decode cX11_record 52 = .ok (.iload_n 1, 1) := by decide +kernel
theorem dX11_record_53 : decode cX11_record 53 = .ok (.sipush 138, 3) := by decide +kernel
theorem dX11_record_56 : decode cX11_record 56 = .ok (.if_icmp .ge 30, 3) := by decide +kernel
theorem dX11_record_59 : decode cX11_record 59 = .ok (.aload_n 0, 1) := by decide +kernel
theorem dX11_record_60 : decode cX11_record 60 = .ok (.getfield 13, 3) := by decide +kernel
theorem dX11_record_63 : decode cX11_record 63 = .ok (.aload_n 0, 1) := by decide +kernel
theorem dX11_record_64 : decode cX11_record 64 = .ok (.getfield 44, 3) := by decide +kernel
theorem dX11_record_67 : decode cX11_record 67 = .ok (.sipush 138, 3) := by decide +kernel
theorem dX11_record_70 : decode cX11_record 70 = .ok (.imul, 1) := by decide +kernel
theorem dX11_record_71 : decode cX11_record 71 = .ok (.iload_n 1, 1) := by decide +kernel
theorem dX11_record_72 : decode cX11_record 72 = .ok (.iadd, 1) := by decide +kernel
theorem dX11_record_73 : decode cX11_record 73 = .ok (.aload_n 0, 1) := by decide +kernel
theorem dX11_record_74 : decode cX11_record 74 = .ok (.getfield 7, 3) := by decide +kernel
theorem dX11_record_77 : decode cX11_record 77 = .ok (.iload_n 1, 1) := by decide +kernel
theorem dX11_record_78 : decode cX11_record 78 = .ok (.iaload, 1) := by decide +kernel
theorem dX11_record_79 : decode cX11_record 79 = .ok (.iastore, 1) := by decide +kernel
theorem dX11_record_80 : decode cX11_record 80 = .ok (.iinc 1 1, 3) := by decide +kernel
theorem dX11_record_83 : decode cX11_record 83 = .ok (.goto (-31), 3) := by decide +kernel
theorem dX11_record_86 : decode cX11_record 86 = .ok (.aload_n 0, 1) := by decide +kernel
theorem dX11_record_87 : decode cX11_record 87 = .ok (.dup, 1) := by decide +kernel
theorem dX11_record_88 : decode cX11_record 88 = .ok (.getfield 44, 3) := by decide +kernel
theorem dX11_record_91 : decode cX11_record 91 = .ok (.iconst 1, 1) := by decide +kernel
theorem dX11_record_92 : decode cX11_record 92 = .ok (.iadd, 1) := by decide +kernel
theorem dX11_record_93 : decode cX11_record 93 = .ok (.putfield 44, 3) := by decide +kernel
theorem dX11_record_96 : decode cX11_record 96 = .ok (.return_, 1) := by decide +kernel
theorem dX11_undo_0 : decode cX11_undo 0 = .ok (.aload_n 0, 1) := by decide +kernel
theorem dX11_undo_1 : decode cX11_undo 1 = .ok (.getfield 44, 3) := by decide +kernel
theorem dX11_undo_4 : decode cX11_undo 4 = .ok (.ifCond .ne 6, 3) := by decide +kernel
theorem dX11_undo_7 : decode cX11_undo 7 = .ok (.bipush (-5), 2) := by decide +kernel
theorem dX11_undo_9 : decode cX11_undo 9 = .ok (.ireturn, 1) := by decide +kernel
theorem dX11_undo_10 : decode cX11_undo 10 = .ok (.aload_n 0, 1) := by decide +kernel
theorem dX11_undo_11 : decode cX11_undo 11 = .ok (.dup, 1) := by decide +kernel
theorem dX11_undo_12 : decode cX11_undo 12 = .ok (.getfield 44, 3) := by decide +kernel
theorem dX11_undo_15 : decode cX11_undo 15 = .ok (.iconst 1, 1) := by decide +kernel
theorem dX11_undo_16 : decode cX11_undo 16 = .ok (.isub, 1) := by decide +kernel
theorem dX11_undo_17 : decode cX11_undo 17 = .ok (.putfield 44, 3) := by decide +kernel
theorem dX11_undo_20 : decode cX11_undo 20 = .ok (.iconst 0, 1) := by decide +kernel
theorem dX11_undo_21 : decode cX11_undo 21 = .ok (.istore_n 1, 1) := by decide +kernel
theorem dX11_undo_22 : decode cX11_undo 22 = .ok (.iload_n 1, 1) := by decide +kernel
theorem dX11_undo_23 : decode cX11_undo 23 = .ok (.sipush 138, 3) := by decide +kernel
theorem dX11_undo_26 : decode cX11_undo 26 = .ok (.if_icmp .ge 30, 3) := by decide +kernel
theorem dX11_undo_29 : decode cX11_undo 29 = .ok (.aload_n 0, 1) := by decide +kernel
theorem dX11_undo_30 : decode cX11_undo 30 = .ok (.getfield 7, 3) := by decide +kernel
theorem dX11_undo_33 : decode cX11_undo 33 = .ok (.iload_n 1, 1) := by decide +kernel
theorem dX11_undo_34 : decode cX11_undo 34 = .ok (.aload_n 0, 1) := by decide +kernel
theorem dX11_undo_35 : decode cX11_undo 35 = .ok (.getfield 13, 3) := by decide +kernel
theorem dX11_undo_38 : decode cX11_undo 38 = .ok (.aload_n 0, 1) := by decide +kernel
theorem dX11_undo_39 : decode cX11_undo 39 = .ok (.getfield 44, 3) := by decide +kernel
theorem dX11_undo_42 : decode cX11_undo 42 = .ok (.sipush 138, 3) := by decide +kernel
theorem dX11_undo_45 : decode cX11_undo 45 = .ok (.imul, 1) := by decide +kernel
theorem dX11_undo_46 : decode cX11_undo 46 = .ok (.iload_n 1, 1) := by decide +kernel
theorem dX11_undo_47 : decode cX11_undo 47 = .ok (.iadd, 1) := by decide +kernel
theorem dX11_undo_48 : decode cX11_undo 48 = .ok (.iaload, 1) := by decide +kernel
theorem dX11_undo_49 : decode cX11_undo 49 = .ok (.iastore, 1) := by decide +kernel
theorem dX11_undo_50 : decode cX11_undo 50 = .ok (.iinc 1 1, 3) := by decide +kernel
theorem dX11_undo_53 : decode cX11_undo 53 = .ok (.goto (-31), 3) := by decide +kernel
theorem dX11_undo_56 : decode cX11_undo 56 = .ok (.aload_n 0, 1) := by decide +kernel
theorem dX11_undo_57 : decode cX11_undo 57 = .ok (.getfield 44, 3) := by decide +kernel
theorem dX11_undo_60 : decode cX11_undo 60 = .ok (.ireturn, 1) := by decide +kernel
theorem dX11_save_0 : decode cX11_save 0 = .ok (.iload_n 1, 1) := by decide +kernel
theorem dX11_save_1 : decode cX11_save 1 = .ok (.iconst 0, 1) := by decide +kernel
theorem dX11_save_2 : decode cX11_save 2 = .ok (.iconst 1, 1) := by decide +kernel
theorem dX11_save_3 : decode cX11_save 3 = .ok (.invokestatic 36, 3) := by decide +kernel
theorem dX11_save_6 : decode cX11_save 6 = .ok (.ifCond .ne 6, 3) := by decide +kernel
theorem dX11_save_9 : decode cX11_save 9 = .ok (.bipush (-2), 2) := by decide +kernel
theorem dX11_save_11 : decode cX11_save 11 = .ok (.ireturn, 1) := by decide +kernel
theorem dX11_save_12 : decode cX11_save 12 = .ok (.aload_n 0, 1) := by decide +kernel
theorem dX11_save_13 : decode cX11_save 13 = .ok (.getfield 19, 3) := by decide +kernel
theorem dX11_save_16 : decode cX11_save 16 = .ok (.iload_n 1, 1) := by decide +kernel
theorem dX11_save_17 : decode cX11_save 17 = .ok (.iconst 1, 1) := by decide +kernel
theorem dX11_save_18 : decode cX11_save 18 = .ok (.bastore, 1) := by decide +kernel
theorem dX11_save_19 : decode cX11_save 19 = .ok (.iconst 0, 1) := by decide +kernel
theorem dX11_save_20 : decode cX11_save 20 = .ok (.istore_n 2, 1) := by decide +kernel
theorem dX11_save_21 : decode cX11_save 21 = .ok (.iload_n 2, 1) := by decide +kernel
theorem dX11_save_22 : decode cX11_save 22 = .ok (.sipush 138, 3) := by decide +kernel
theorem dX11_save_25 : decode cX11_save 25 = .ok (.if_icmp .ge 27, 3) := by decide +kernel
theorem dX11_save_28 : decode cX11_save 28 = .ok (.aload_n 0, 1) := by decide +kernel
theorem dX11_save_29 : decode cX11_save 29 = .ok (.getfield 16, 3) := by decide +kernel
theorem dX11_save_32 : decode cX11_save 32 = .ok (.iload_n 1, 1) := by decide +kernel
theorem dX11_save_33 : decode cX11_save 33 = .ok (.sipush 138, 3) := by decide +kernel
theorem dX11_save_36 : decode cX11_save 36 = .ok (.imul, 1) := by decide +kernel
theorem dX11_save_37 : decode cX11_save 37 = .ok (.iload_n 2, 1) := by decide +kernel
theorem dX11_save_38 : decode cX11_save 38 = .ok (.iadd, 1) := by decide +kernel
theorem dX11_save_39 : decode cX11_save 39 = .ok (.aload_n 0, 1) := by decide +kernel
theorem dX11_save_40 : decode cX11_save 40 = .ok (.getfield 7, 3) := by decide +kernel
theorem dX11_save_43 : decode cX11_save 43 = .ok (.iload_n 2, 1) := by decide +kernel
theorem dX11_save_44 : decode cX11_save 44 = .ok (.iaload, 1) := by decide +kernel
theorem dX11_save_45 : decode cX11_save 45 = .ok (.iastore, 1) := by decide +kernel
theorem dX11_save_46 : decode cX11_save 46 = .ok (.iinc 2 1, 3) := by decide +kernel
theorem dX11_save_49 : decode cX11_save 49 = .ok (.goto (-28), 3) := by decide +kernel
theorem dX11_save_52 : decode cX11_save 52 = .ok (.aload_n 0, 1) := by decide +kernel
theorem dX11_save_53 : decode cX11_save 53 = .ok (.getfield 7, 3) := by decide +kernel
theorem dX11_save_56 : decode cX11_save 56 = .ok (.iconst 4, 1) := by decide +kernel
theorem dX11_save_57 : decode cX11_save 57 = .ok (.iaload, 1) := by decide +kernel
theorem dX11_save_58 : decode cX11_save 58 = .ok (.ireturn, 1) := by decide +kernel
theorem dX11_restore_0 : decode cX11_restore 0 = .ok (.iload_n 1, 1) := by decide +kernel
theorem dX11_restore_1 : decode cX11_restore 1 = .ok (.iconst 0, 1) := by decide +kernel
theorem dX11_restore_2 : decode cX11_restore 2 = .ok (.iconst 1, 1) := by decide +kernel
theorem dX11_restore_3 : decode cX11_restore 3 = .ok (.invokestatic 36, 3) := by decide +kernel
theorem dX11_restore_6 : decode cX11_restore 6 = .ok (.ifCond .ne 6, 3) := by decide +kernel
theorem dX11_restore_9 : decode cX11_restore 9 = .ok (.bipush (-2), 2) := by decide +kernel
theorem dX11_restore_11 : decode cX11_restore 11 = .ok (.ireturn, 1) := by decide +kernel
theorem dX11_restore_12 : decode cX11_restore 12 = .ok (.aload_n 0, 1) := by decide +kernel
theorem dX11_restore_13 : decode cX11_restore 13 = .ok (.getfield 19, 3) := by decide +kernel
theorem dX11_restore_16 : decode cX11_restore 16 = .ok (.iload_n 1, 1) := by decide +kernel
theorem dX11_restore_17 : decode cX11_restore 17 = .ok (.baload, 1) := by decide +kernel
theorem dX11_restore_18 : decode cX11_restore 18 = .ok (.ifCond .ne 6, 3) := by decide +kernel
theorem dX11_restore_21 : decode cX11_restore 21 = .ok (.bipush (-5), 2) := by decide +kernel
theorem dX11_restore_23 : decode cX11_restore 23 = .ok (.ireturn, 1) := by decide +kernel
theorem dX11_restore_24 : decode cX11_restore 24 = .ok (.aload_n 0, 1) := by decide +kernel
theorem dX11_restore_25 : decode cX11_restore 25 = .ok (.invokevirtual 48, 3) := by decide +kernel
theorem dX11_restore_28 : decode cX11_restore 28 = .ok (.iconst 0, 1) := by decide +kernel
theorem dX11_restore_29 : decode cX11_restore 29 = .ok (.istore_n 2, 1) := by decide +kernel
theorem dX11_restore_30 : decode cX11_restore 30 = .ok (.iload_n 2, 1) := by decide +kernel
theorem dX11_restore_31 : decode cX11_restore 31 = .ok (.sipush 138, 3) := by decide +kernel
theorem dX11_restore_34 : decode cX11_restore 34 = .ok (.if_icmp .ge 27, 3) := by decide +kernel
theorem dX11_restore_37 : decode cX11_restore 37 = .ok (.aload_n 0, 1) := by decide +kernel
theorem dX11_restore_38 : decode cX11_restore 38 = .ok (.getfield 7, 3) := by decide +kernel
theorem dX11_restore_41 : decode cX11_restore 41 = .ok (.iload_n 2, 1) := by decide +kernel
theorem dX11_restore_42 : decode cX11_restore 42 = .ok (.aload_n 0, 1) := by decide +kernel
theorem dX11_restore_43 : decode cX11_restore 43 = .ok (.getfield 16, 3) := by decide +kernel
theorem dX11_restore_46 : decode cX11_restore 46 = .ok (.iload_n 1, 1) := by decide +kernel
theorem dX11_restore_47 : decode cX11_restore 47 = .ok (.sipush 138, 3) := by decide +kernel
theorem dX11_restore_50 : decode cX11_restore 50 = .ok (.imul, 1) := by decide +kernel
theorem dX11_restore_51 : decode cX11_restore 51 = .ok (.iload_n 2, 1) := by decide +kernel
theorem dX11_restore_52 : decode cX11_restore 52 = .ok (.iadd, 1) := by decide +kernel
theorem dX11_restore_53 : decode cX11_restore 53 = .ok (.iaload, 1) := by decide +kernel
theorem dX11_restore_54 : decode cX11_restore 54 = .ok (.iastore, 1) := by decide +kernel
theorem dX11_restore_55 : decode cX11_restore 55 = .ok (.iinc 2 1, 3) := by decide +kernel
theorem dX11_restore_58 : decode cX11_restore 58 = .ok (.goto (-28), 3) := by decide +kernel
theorem dX11_restore_61 : decode cX11_restore 61 = .ok (.aload_n 0, 1) := by decide +kernel
theorem dX11_restore_62 : decode cX11_restore 62 = .ok (.getfield 7, 3) := by decide +kernel
theorem dX11_restore_65 : decode cX11_restore 65 = .ok (.iconst 4, 1) := by decide +kernel
theorem dX11_restore_66 : decode cX11_restore 66 = .ok (.iaload, 1) := by decide +kernel
theorem dX11_restore_67 : decode cX11_restore 67 = .ok (.ireturn, 1) := by decide +kernel
theorem dX11_set_0 : decode cX11_set 0 = .ok (.iload_n 1, 1) := by decide +kernel
theorem dX11_set_1 : decode cX11_set 1 = .ok (.iconst 0, 1) := by decide +kernel
theorem dX11_set_2 : decode cX11_set 2 = .ok (.iconst 1, 1) := by decide +kernel
theorem dX11_set_3 : decode cX11_set 3 = .ok (.invokestatic 36, 3) := by decide +kernel
theorem dX11_set_6 : decode cX11_set 6 = .ok (.ifCond .eq 32, 3) := by decide +kernel
theorem dX11_set_9 : decode cX11_set 9 = .ok (.iload_n 2, 1) := by decide +kernel
theorem dX11_set_10 : decode cX11_set 10 = .ok (.iload_n 1, 1) := by decide +kernel
theorem dX11_set_11 : decode cX11_set 11 = .ok (.ifCond .ne 8, 3) := by decide +kernel
theorem dX11_set_14 : decode cX11_set 14 = .ok (.bipush 10, 2) := by decide +kernel
theorem dX11_set_16 : decode cX11_set 16 = .ok (.goto 4, 3) := by decide +kernel
theorem dX11_set_19 : decode cX11_set 19 = .ok (.iconst 0, 1) := by decide +kernel
theorem dX11_set_20 : decode cX11_set 20 = .ok (.iload_n 1, 1) := by decide +kernel
theorem dX11_set_21 : decode cX11_set 21 = .ok (.ifCond .ne 9, 3) := by decide +kernel
theorem dX11_set_24 : decode cX11_set 24 = .ok (.sipush 200, 3) := by decide +kernel
theorem dX11_set_27 : decode cX11_set 27 = .ok (.goto 5, 3) := by decide +kernel
theorem dX11_set_30 : decode cX11_set 30 = .ok (.bipush 60, 2) := by decide +kernel
theorem dX11_set_32 : decode cX11_set 32 = .ok (.invokestatic 36, 3) := by decide +kernel
theorem dX11_set_35 : decode cX11_set 35 = .ok (.ifCond .ne 6, 3) := by decide +kernel
theorem dX11_set_38 : decode cX11_set 38 = .ok (.bipush (-2), 2) := by decide +kernel
theorem dX11_set_40 : decode cX11_set 40 = .ok (.ireturn, 1) := by decide +kernel
theorem dX11_set_41 : decode cX11_set 41 = .ok (.aload_n 0, 1) := by decide +kernel
theorem dX11_set_42 : decode cX11_set 42 = .ok (.invokevirtual 48, 3) := by decide +kernel
theorem dX11_set_45 : decode cX11_set 45 = .ok (.aload_n 0, 1) := by decide +kernel
theorem dX11_set_46 : decode cX11_set 46 = .ok (.getfield 7, 3) := by decide +kernel
theorem dX11_set_49 : decode cX11_set 49 = .ok (.iload_n 1, 1) := by decide +kernel
theorem dX11_set_50 : decode cX11_set 50 = .ok (.iaload, 1) := by decide +kernel
theorem dX11_set_51 : decode cX11_set 51 = .ok (.istore_n 3, 1) := by decide +kernel
theorem dX11_set_52 : decode cX11_set 52 = .ok (.aload_n 0, 1) := by decide +kernel
theorem dX11_set_53 : decode cX11_set 53 = .ok (.getfield 7, 3) := by decide +kernel
theorem dX11_set_56 : decode cX11_set 56 = .ok (.iload_n 1, 1) := by decide +kernel
theorem dX11_set_57 : decode cX11_set 57 = .ok (.iload_n 2, 1) := by decide +kernel
theorem dX11_set_58 : decode cX11_set 58 = .ok (.iastore, 1) := by decide +kernel
theorem dX11_set_59 : decode cX11_set 59 = .ok (.iload_n 3, 1) := by decide +kernel
theorem dX11_set_60 : decode cX11_set 60 = .ok (.ireturn, 1) := by decide +kernel
theorem dX11_whyNotLay_0 : decode cX11_whyNotLay 0 = .ok (.iload_n 1, 1) := by decide +kernel
theorem dX11_whyNotLay_1 : decode cX11_whyNotLay 1 = .ok (.invokestatic 51, 3) := by decide +kernel
theorem dX11_whyNotLay_4 : decode cX11_whyNotLay 4 = .ok (.ifCond .eq 10, 3) := by decide +kernel
theorem dX11_whyNotLay_7 : decode cX11_whyNotLay 7 = .ok (.iload_n 2, 1) := by decide +kernel
theorem dX11_whyNotLay_8 : decode cX11_whyNotLay 8 = .ok (.invokestatic 51, 3) := by decide +kernel
theorem dX11_whyNotLay_11 : decode cX11_whyNotLay 11 = .ok (.ifCond .ne 5, 3) := by decide +kernel
theorem dX11_whyNotLay_14 : decode cX11_whyNotLay 14 = .ok (.iconst (-1), 1) := by decide +kernel
theorem dX11_whyNotLay_15 : decode cX11_whyNotLay 15 = .ok (.ireturn, 1) := by decide +kernel
theorem dX11_whyNotLay_16 : decode cX11_whyNotLay 16 = .ok (.iload_n 1, 1) := by decide +kernel
theorem dX11_whyNotLay_17 : decode cX11_whyNotLay 17 = .ok (.iload_n 2, 1) := by decide +kernel
theorem dX11_whyNotLay_18 : decode cX11_whyNotLay 18 = .ok (.if_icmp .eq 24, 3) := by decide +kernel
theorem dX11_whyNotLay_21 : decode cX11_whyNotLay 21 = .ok (.iload_n 3, 1) := by decide +kernel
theorem dX11_whyNotLay_22 : decode cX11_whyNotLay 22 = .ok (.iconst 1, 1) := by decide +kernel
theorem dX11_whyNotLay_23 : decode cX11_whyNotLay 23 = .ok (.bipush 9, 2) := by decide +kernel
theorem dX11_whyNotLay_25 : decode cX11_whyNotLay 25 = .ok (.invokestatic 36, 3) := by decide +kernel
theorem dX11_whyNotLay_28 : decode cX11_whyNotLay 28 = .ok (.ifCond .eq 14, 3) := by decide +kernel
theorem dX11_whyNotLay_31 : decode cX11_whyNotLay 31 = .ok (.iload 4, 2) := by decide +kernel
theorem dX11_whyNotLay_33 : decode cX11_whyNotLay 33 = .ok (.iconst 1, 1) := by decide +kernel
theorem dX11_whyNotLay_34 : decode cX11_whyNotLay 34 = .ok (.bipush 9, 2) := by decide +kernel
theorem dX11_whyNotLay_36 : decode cX11_whyNotLay 36 = .ok (.invokestatic 36, 3) := by decide +kernel
theorem dX11_whyNotLay_39 : decode cX11_whyNotLay 39 = .ok (.ifCond .ne 8, 3) := by decide +kernel
theorem dX11_whyNotLay_42 : decode cX11_whyNotLay 42 = .ok (.bipush (-2), 2) := by decide +kernel
theorem dX11_whyNotLay_44 : decode cX11_whyNotLay 44 = .ok (.goto 20, 3) := by decide +kernel
theorem dX11_whyNotLay_47 : decode cX11_whyNotLay 47 = .ok (.aload_n 0, 1) := by decide +kernel
theorem dX11_whyNotLay_48 : decode cX11_whyNotLay 48 = .ok (.getfield 7, 3) := by decide +kernel
theorem dX11_whyNotLay_51 : decode cX11_whyNotLay 51 = .ok (.iconst 4, 1) := by decide +kernel
theorem dX11_whyNotLay_52 : decode cX11_whyNotLay 52 = .ok (.iaload, 1) := by decide +kernel
theorem dX11_whyNotLay_53 : decode cX11_whyNotLay 53 = .ok (.bipush 20, 2) := by decide +kernel
theorem dX11_whyNotLay_55 : decode cX11_whyNotLay 55 = .ok (.if_icmp .ne 8, 3) := by decide +kernel
theorem dX11_whyNotLay_58 : decode cX11_whyNotLay 58 = .ok (.bipush (-4), 2) := by decide +kernel
theorem dX11_whyNotLay_60 : decode cX11_whyNotLay 60 = .ok (.goto 4, 3) := by decide +kernel
theorem dX11_whyNotLay_63 : decode cX11_whyNotLay 63 = .ok (.iconst 0, 1) := by decide +kernel
theorem dX11_whyNotLay_64 : decode cX11_whyNotLay 64 = .ok (.ireturn, 1) := by decide +kernel
theorem dX11_lies_0 : decode cX11_lies 0 = .ok (.bipush 6, 2) := by decide +kernel
theorem dX11_lies_2 : decode cX11_lies 2 = .ok (.iconst 5, 1) := by decide +kernel
theorem dX11_lies_3 : decode cX11_lies 3 = .ok (.aload_n 0, 1) := by decide +kernel
theorem dX11_lies_4 : decode cX11_lies 4 = .ok (.getfield 7, 3) := by decide +kernel
theorem dX11_lies_7 : decode cX11_lies 7 = .ok (.iconst 4, 1) := by decide +kernel
theorem dX11_lies_8 : decode cX11_lies 8 = .ok (.iaload, 1) := by decide +kernel
theorem dX11_lies_9 : decode cX11_lies 9 = .ok (.imul, 1) := by decide +kernel
theorem dX11_lies_10 : decode cX11_lies 10 = .ok (.iadd, 1) := by decide +kernel
theorem dX11_lies_11 : decode cX11_lies 11 = .ok (.istore 5, 2) := by decide +kernel
theorem dX11_lies_13 : decode cX11_lies 13 = .ok (.aload_n 0, 1) := by decide +kernel
theorem dX11_lies_14 : decode cX11_lies 14 = .ok (.getfield 7, 3) := by decide +kernel
theorem dX11_lies_17 : decode cX11_lies 17 = .ok (.iload 5, 2) := by decide +kernel
theorem dX11_lies_19 : decode cX11_lies 19 = .ok (.iload_n 1, 1) := by decide +kernel
theorem dX11_lies_20 : decode cX11_lies 20 = .ok (.iload_n 2, 1) := by decide +kernel
theorem dX11_lies_21 : decode cX11_lies 21 = .ok (.if_icmp .ge 7, 3) := by decide +kernel
theorem dX11_lies_24 : decode cX11_lies 24 = .ok (.iload_n 1, 1) := by decide +kernel
theorem dX11_lies_25 : decode cX11_lies 25 = .ok (.goto 4, 3) := by decide +kernel
theorem dX11_lies_28 : decode cX11_lies 28 = .ok (.iload_n 2, 1) := by decide +kernel
theorem dX11_lies_29 : decode cX11_lies 29 = .ok (.iastore, 1) := by decide +kernel
theorem dX11_lies_30 : decode cX11_lies 30 = .ok (.aload_n 0, 1) := by decide +kernel
theorem dX11_lies_31 : decode cX11_lies 31 = .ok (.getfield 7, 3) := by decide +kernel
theorem dX11_lies_34 : decode cX11_lies 34 = .ok (.iload 5, 2) := by decide +kernel
theorem dX11_lies_36 : decode cX11_lies 36 = .ok (.iconst 1, 1) := by decide +kernel
theorem dX11_lies_37 : decode cX11_lies 37 = .ok (.iadd, 1) := by decide +kernel
theorem dX11_lies_38 : decode cX11_lies 38 = .ok (.iload_n 1, 1) := by decide +kernel
theorem dX11_lies_39 : decode cX11_lies 39 = .ok (.iload_n 2, 1) := by decide +kernel
theorem dX11_lies_40 : decode cX11_lies 40 = .ok (.if_icmp .ge 7, 3) := by decide +kernel
theorem dX11_lies_43 : decode cX11_lies 43 = .ok (.iload_n 2, 1) := by decide +kernel
theorem dX11_lies_44 : decode cX11_lies 44 = .ok (.goto 4, 3) := by decide +kernel
theorem dX11_lies_47 : decode cX11_lies 47 = .ok (.iload_n 1, 1) := by decide +kernel
theorem dX11_lies_48 : decode cX11_lies 48 = .ok (.iastore, 1) := by decide +kernel
theorem dX11_lies_49 : decode cX11_lies 49 = .ok (.aload_n 0, 1) := by decide +kernel
theorem dX11_lies_50 : decode cX11_lies 50 = .ok (.getfield 7, 3) := by decide +kernel
theorem dX11_lies_53 : decode cX11_lies 53 = .ok (.iload 5, 2) := by decide +kernel
theorem dX11_lies_55 : decode cX11_lies 55 = .ok (.iconst 2, 1) := by decide +kernel
theorem dX11_lies_56 : decode cX11_lies 56 = .ok (.iadd, 1) := by decide +kernel
theorem dX11_lies_57 : decode cX11_lies 57 = .ok (.iload_n 3, 1) := by decide +kernel
theorem dX11_lies_58 : decode cX11_lies 58 = .ok (.iastore, 1) := by decide +kernel
theorem dX11_lies_59 : decode cX11_lies 59 = .ok (.aload_n 0, 1) := by decide +kernel
theorem dX11_lies_60 : decode cX11_lies 60 = .ok (.getfield 7, 3) := by decide +kernel
theorem dX11_lies_63 : decode cX11_lies 63 = .ok (.iload 5, 2) := by decide +kernel
theorem dX11_lies_65 : decode cX11_lies 65 = .ok (.iconst 3, 1) := by decide +kernel
theorem dX11_lies_66 : decode cX11_lies 66 = .ok (.iadd, 1) := by decide +kernel
theorem dX11_lies_67 : decode cX11_lies 67 = .ok (.iload 4, 2) := by decide +kernel
theorem dX11_lies_69 : decode cX11_lies 69 = .ok (.iastore, 1) := by decide +kernel
theorem dX11_lies_70 : decode cX11_lies 70 = .ok (.aload_n 0, 1) := by decide +kernel
theorem dX11_lies_71 : decode cX11_lies 71 = .ok (.getfield 7, 3) := by decide +kernel
theorem dX11_lies_74 : decode cX11_lies 74 = .ok (.iload 5, 2) := by decide +kernel
theorem dX11_lies_76 : decode cX11_lies 76 = .ok (.iconst 4, 1) := by decide +kernel
theorem dX11_lies_77 : decode cX11_lies 77 = .ok (.iadd, 1) := by decide +kernel
theorem dX11_lies_78 : decode cX11_lies 78 = .ok (.iconst 0, 1) := by decide +kernel
theorem dX11_lies_79 : decode cX11_lies 79 = .ok (.iastore, 1) := by decide +kernel
theorem dX11_lies_80 : decode cX11_lies 80 = .ok (.aload_n 0, 1) := by decide +kernel
theorem dX11_lies_81 : decode cX11_lies 81 = .ok (.getfield 7, 3) := by decide +kernel
theorem dX11_lies_84 : decode cX11_lies 84 = .ok (.iconst 4, 1) := by decide +kernel
theorem dX11_lies_85 : decode cX11_lies 85 = .ok (.dup2, 1) := by decide +kernel
theorem dX11_lies_86 : decode cX11_lies 86 = .ok (.iaload, 1) := by decide +kernel
theorem dX11_lies_87 : decode cX11_lies 87 = .ok (.iconst 1, 1) := by decide +kernel
theorem dX11_lies_88 : decode cX11_lies 88 = .ok (.iadd, 1) := by decide +kernel
theorem dX11_lies_89 : decode cX11_lies 89 = .ok (.iastore, 1) := by decide +kernel
theorem dX11_lies_90 : decode cX11_lies 90 = .ok (.aload_n 0, 1) := by decide +kernel
theorem dX11_lies_91 : decode cX11_lies 91 = .ok (.getfield 7, 3) := by decide +kernel
theorem dX11_lies_94 : decode cX11_lies 94 = .ok (.iconst 4, 1) := by decide +kernel
theorem dX11_lies_95 : decode cX11_lies 95 = .ok (.iaload, 1) := by decide +kernel
theorem dX11_lies_96 : decode cX11_lies 96 = .ok (.iconst 1, 1) := by decide +kernel
theorem dX11_lies_97 : decode cX11_lies 97 = .ok (.isub, 1) := by decide +kernel
theorem dX11_lies_98 : decode cX11_lies 98 = .ok (.ireturn, 1) := by decide +kernel
theorem dX11_lay_0 : decode cX11_lay 0 = .ok (.aload_n 0, 1) := by decide +kernel
theorem dX11_lay_1 : decode cX11_lay 1 = .ok (.iload_n 1, 1) := by decide +kernel
theorem dX11_lay_2 : decode cX11_lay 2 = .ok (.iload_n 2, 1) := by decide +kernel
theorem dX11_lay_3 : decode cX11_lay 3 = .ok (.iload_n 3, 1) := by decide +kernel
theorem dX11_lay_4 : decode cX11_lay 4 = .ok (.iload 4, 2) := by decide +kernel
theorem dX11_lay_6 : decode cX11_lay 6 = .ok (.invokevirtual 55, 3) := by decide +kernel
theorem dX11_lay_9 : decode cX11_lay 9 = .ok (.istore 5, 2) := by decide +kernel
theorem dX11_lay_11 : decode cX11_lay 11 = .ok (.iload 5, 2) := by decide +kernel
theorem dX11_lay_13 : decode cX11_lay 13 = .ok (.ifCond .ge 6, 3) := by decide +kernel
theorem dX11_lay_16 : decode cX11_lay 16 = .ok (.iload 5, 2) := by decide +kernel
theorem dX11_lay_18 : decode cX11_lay 18 = .ok (.ireturn, 1) := by decide +kernel
theorem dX11_lay_19 : decode cX11_lay 19 = .ok (.aload_n 0, 1) := by decide +kernel
theorem dX11_lay_20 : decode cX11_lay 20 = .ok (.invokevirtual 48, 3) := by decide +kernel
theorem dX11_lay_23 : decode cX11_lay 23 = .ok (.aload_n 0, 1) := by decide +kernel
theorem dX11_lay_24 : decode cX11_lay 24 = .ok (.iload_n 1, 1) := by decide +kernel
theorem dX11_lay_25 : decode cX11_lay 25 = .ok (.iload_n 2, 1) := by decide +kernel
theorem dX11_lay_26 : decode cX11_lay 26 = .ok (.iload_n 3, 1) := by decide +kernel
theorem dX11_lay_27 : decode cX11_lay 27 = .ok (.iload 4, 2) := by decide +kernel
theorem dX11_lay_29 : decode cX11_lay 29 = .ok (.invokevirtual 59, 3) := by decide +kernel
theorem dX11_lay_32 : decode cX11_lay 32 = .ok (.ireturn, 1) := by decide +kernel
theorem dX11_takeUp_0 : decode cX11_takeUp 0 = .ok (.aload_n 0, 1) := by decide +kernel
theorem dX11_takeUp_1 : decode cX11_takeUp 1 = .ok (.iload_n 1, 1) := by decide +kernel
theorem dX11_takeUp_2 : decode cX11_takeUp 2 = .ok (.invokevirtual 62, 3) := by decide +kernel
theorem dX11_takeUp_5 : decode cX11_takeUp 5 = .ok (.ifCond .ne 5, 3) := by decide +kernel
theorem dX11_takeUp_8 : decode cX11_takeUp 8 = .ok (.iconst (-1), 1) := by decide +kernel
theorem dX11_takeUp_9 : decode cX11_takeUp 9 = .ok (.ireturn, 1) := by decide +kernel
theorem dX11_takeUp_10 : decode cX11_takeUp 10 = .ok (.aload_n 0, 1) := by decide +kernel
theorem dX11_takeUp_11 : decode cX11_takeUp 11 = .ok (.invokevirtual 48, 3) := by decide +kernel
theorem dX11_takeUp_14 : decode cX11_takeUp 14 = .ok (.aload_n 0, 1) := by decide +kernel
theorem dX11_takeUp_15 : decode cX11_takeUp 15 = .ok (.getfield 7, 3) := by decide +kernel
theorem dX11_takeUp_18 : decode cX11_takeUp 18 = .ok (.iconst 4, 1) := by decide +kernel
theorem dX11_takeUp_19 : decode cX11_takeUp 19 = .ok (.dup2, 1) := by decide +kernel
theorem dX11_takeUp_20 : decode cX11_takeUp 20 = .ok (.iaload, 1) := by decide +kernel
theorem dX11_takeUp_21 : decode cX11_takeUp 21 = .ok (.iconst 1, 1) := by decide +kernel
theorem dX11_takeUp_22 : decode cX11_takeUp 22 = .ok (.isub, 1) := by decide +kernel
theorem dX11_takeUp_23 : decode cX11_takeUp 23 = .ok (.iastore, 1) := by decide +kernel
theorem dX11_takeUp_24 : decode cX11_takeUp 24 = .ok (.bipush 6, 2) := by decide +kernel
theorem dX11_takeUp_26 : decode cX11_takeUp 26 = .ok (.iconst 5, 1) := by decide +kernel
theorem dX11_takeUp_27 : decode cX11_takeUp 27 = .ok (.iload_n 1, 1) := by decide +kernel
theorem dX11_takeUp_28 : decode cX11_takeUp 28 = .ok (.imul, 1) := by decide +kernel
theorem dX11_takeUp_29 : decode cX11_takeUp 29 = .ok (.iadd, 1) := by decide +kernel
theorem dX11_takeUp_30 : decode cX11_takeUp 30 = .ok (.istore_n 2, 1) := by decide +kernel
theorem dX11_takeUp_31 : decode cX11_takeUp 31 = .ok (.iload_n 2, 1) := by decide +kernel
theorem dX11_takeUp_32 : decode cX11_takeUp 32 = .ok (.bipush 6, 2) := by decide +kernel
theorem dX11_takeUp_34 : decode cX11_takeUp 34 = .ok (.iconst 5, 1) := by decide +kernel
theorem dX11_takeUp_35 : decode cX11_takeUp 35 = .ok (.aload_n 0, 1) := by decide +kernel
theorem dX11_takeUp_36 : decode cX11_takeUp 36 = .ok (.getfield 7, 3) := by decide +kernel
theorem dX11_takeUp_39 : decode cX11_takeUp 39 = .ok (.iconst 4, 1) := by decide +kernel
theorem dX11_takeUp_40 : decode cX11_takeUp 40 = .ok (.iaload, 1) := by decide +kernel
theorem dX11_takeUp_41 : decode cX11_takeUp 41 = .ok (.imul, 1) := by decide +kernel
theorem dX11_takeUp_42 : decode cX11_takeUp 42 = .ok (.iadd, 1) := by decide +kernel
theorem dX11_takeUp_43 : decode cX11_takeUp 43 = .ok (.if_icmp .ge 23, 3) := by decide +kernel
theorem dX11_takeUp_46 : decode cX11_takeUp 46 = .ok (.aload_n 0, 1) := by decide +kernel
theorem dX11_takeUp_47 : decode cX11_takeUp 47 = .ok (.getfield 7, 3) := by decide +kernel
theorem dX11_takeUp_50 : decode cX11_takeUp 50 = .ok (.iload_n 2, 1) := by decide +kernel
theorem dX11_takeUp_51 : decode cX11_takeUp 51 = .ok (.aload_n 0, 1) := by decide +kernel
theorem dX11_takeUp_52 : decode cX11_takeUp 52 = .ok (.getfield 7, 3) := by decide +kernel
theorem dX11_takeUp_55 : decode cX11_takeUp 55 = .ok (.iload_n 2, 1) := by decide +kernel
theorem dX11_takeUp_56 : decode cX11_takeUp 56 = .ok (.iconst 5, 1) := by decide +kernel
theorem dX11_takeUp_57 : decode cX11_takeUp 57 = .ok (.iadd, 1) := by decide +kernel
theorem dX11_takeUp_58 : decode cX11_takeUp 58 = .ok (.iaload, 1) := by decide +kernel
theorem dX11_takeUp_59 : decode cX11_takeUp 59 = .ok (.iastore, 1) := by decide +kernel
theorem dX11_takeUp_60 : decode cX11_takeUp 60 = .ok (.iinc 2 1, 3) := by decide +kernel
theorem dX11_takeUp_63 : decode cX11_takeUp 63 = .ok (.goto (-32), 3) := by decide +kernel
theorem dX11_takeUp_66 : decode cX11_takeUp 66 = .ok (.iconst 0, 1) := by decide +kernel
theorem dX11_takeUp_67 : decode cX11_takeUp 67 = .ok (.istore_n 2, 1) := by decide +kernel
theorem dX11_takeUp_68 : decode cX11_takeUp 68 = .ok (.iload_n 2, 1) := by decide +kernel
theorem dX11_takeUp_69 : decode cX11_takeUp 69 = .ok (.iconst 4, 1) := by decide +kernel
theorem dX11_takeUp_70 : decode cX11_takeUp 70 = .ok (.if_icmp .ge 48, 3) := by decide +kernel
theorem dX11_takeUp_73 : decode cX11_takeUp 73 = .ok (.aload_n 0, 1) := by decide +kernel
theorem dX11_takeUp_74 : decode cX11_takeUp 74 = .ok (.iload_n 2, 1) := by decide +kernel
theorem dX11_takeUp_75 : decode cX11_takeUp 75 = .ok (.iconst 1, 1) := by decide +kernel
theorem dX11_takeUp_76 : decode cX11_takeUp 76 = .ok (.invokevirtual 40, 3) := by decide +kernel
theorem dX11_takeUp_79 : decode cX11_takeUp 79 = .ok (.istore_n 3, 1) := by decide +kernel
theorem dX11_takeUp_80 : decode cX11_takeUp 80 = .ok (.iload_n 3, 1) := by decide +kernel
theorem dX11_takeUp_81 : decode cX11_takeUp 81 = .ok (.iconst 1, 1) := by decide +kernel
theorem dX11_takeUp_82 : decode cX11_takeUp 82 = .ok (.iload_n 1, 1) := by decide +kernel
theorem dX11_takeUp_83 : decode cX11_takeUp 83 = .ok (.ishl, 1) := by decide +kernel
theorem dX11_takeUp_84 : decode cX11_takeUp 84 = .ok (.iconst 1, 1) := by decide +kernel
theorem dX11_takeUp_85 : decode cX11_takeUp 85 = .ok (.isub, 1) := by decide +kernel
theorem dX11_takeUp_86 : decode cX11_takeUp 86 = .ok (.iand, 1) := by decide +kernel
theorem dX11_takeUp_87 : decode cX11_takeUp 87 = .ok (.istore 4, 2) := by decide +kernel
theorem dX11_takeUp_89 : decode cX11_takeUp 89 = .ok (.aload_n 0, 1) := by decide +kernel
theorem dX11_takeUp_90 : decode cX11_takeUp 90 = .ok (.getfield 7, 3) := by decide +kernel
theorem dX11_takeUp_93 : decode cX11_takeUp 93 = .ok (.bipush 106, 2) := by decide +kernel
theorem dX11_takeUp_95 : decode cX11_takeUp 95 = .ok (.iconst 3, 1) := by decide +kernel
theorem dX11_takeUp_96 : decode cX11_takeUp 96 = .ok (.iload_n 2, 1) := by decide +kernel
theorem dX11_takeUp_97 : decode cX11_takeUp 97 = .ok (.imul, 1) := by decide +kernel
theorem dX11_takeUp_98 : decode cX11_takeUp 98 = .ok (.iadd, 1) := by decide +kernel
theorem dX11_takeUp_99 : decode cX11_takeUp 99 = .ok (.iconst 1, 1) := by decide +kernel
theorem dX11_takeUp_100 : decode cX11_takeUp 100 = .ok (.iadd, 1) := by decide +kernel
theorem dX11_takeUp_101 : decode cX11_takeUp 101 = .ok (.iload 4, 2) := by decide +kernel
theorem dX11_takeUp_103 : decode cX11_takeUp 103 = .ok (.iload_n 3, 1) := by decide +kernel
theorem dX11_takeUp_104 : decode cX11_takeUp 104 = .ok (.iload_n 1, 1) := by decide +kernel
theorem dX11_takeUp_105 : decode cX11_takeUp 105 = .ok (.iconst 1, 1) := by decide +kernel
theorem dX11_takeUp_106 : decode cX11_takeUp 106 = .ok (.iadd, 1) := by decide +kernel
theorem dX11_takeUp_107 : decode cX11_takeUp 107 = .ok (.ishr, 1) := by decide +kernel
theorem dX11_takeUp_108 : decode cX11_takeUp 108 = .ok (.iload_n 1, 1) := by decide +kernel
theorem dX11_takeUp_109 : decode cX11_takeUp 109 = .ok (.ishl, 1) := by decide +kernel
theorem dX11_takeUp_110 : decode cX11_takeUp 110 = .ok (.ior, 1) := by decide +kernel
theorem dX11_takeUp_111 : decode cX11_takeUp 111 = .ok (.iastore, 1) := by decide +kernel
theorem dX11_takeUp_112 : decode cX11_takeUp 112 = .ok (.iinc 2 1, 3) := by decide +kernel
theorem dX11_takeUp_115 : decode cX11_takeUp 115 = .ok (.goto (-47), 3) := by decide +kernel
theorem dX11_takeUp_118 : decode cX11_takeUp 118 = .ok (.aload_n 0, 1) := by decide +kernel
theorem dX11_takeUp_119 : decode cX11_takeUp 119 = .ok (.getfield 7, 3) := by decide +kernel
theorem dX11_takeUp_122 : decode cX11_takeUp 122 = .ok (.iconst 4, 1) := by decide +kernel
theorem dX11_takeUp_123 : decode cX11_takeUp 123 = .ok (.iaload, 1) := by decide +kernel
theorem dX11_takeUp_124 : decode cX11_takeUp 124 = .ok (.ireturn, 1) := by decide +kernel
theorem dX11_isAt_0 : decode cX11_isAt 0 = .ok (.aload_n 0, 1) := by decide +kernel
theorem dX11_isAt_1 : decode cX11_isAt 1 = .ok (.iload_n 1, 1) := by decide +kernel
theorem dX11_isAt_2 : decode cX11_isAt 2 = .ok (.iconst 0, 1) := by decide +kernel
theorem dX11_isAt_3 : decode cX11_isAt 3 = .ok (.invokevirtual 65, 3) := by decide +kernel
theorem dX11_isAt_6 : decode cX11_isAt 6 = .ok (.iload_n 2, 1) := by decide +kernel
theorem dX11_isAt_7 : decode cX11_isAt 7 = .ok (.if_icmp .eq 13, 3) := by decide +kernel
theorem dX11_isAt_10 : decode cX11_isAt 10 = .ok (.aload_n 0, 1) := by decide +kernel
theorem dX11_isAt_11 : decode cX11_isAt 11 = .ok (.iload_n 1, 1) := by decide +kernel
theorem dX11_isAt_12 : decode cX11_isAt 12 = .ok (.iconst 1, 1) := by decide +kernel
theorem dX11_isAt_13 : decode cX11_isAt 13 = .ok (.invokevirtual 65, 3) := by decide +kernel
theorem dX11_isAt_16 : decode cX11_isAt 16 = .ok (.iload_n 2, 1) := by decide +kernel
theorem dX11_isAt_17 : decode cX11_isAt 17 = .ok (.if_icmp .ne 7, 3) := by decide +kernel
theorem dX11_isAt_20 : decode cX11_isAt 20 = .ok (.iconst 1, 1) := by decide +kernel
theorem dX11_isAt_21 : decode cX11_isAt 21 = .ok (.goto 4, 3) := by decide +kernel
theorem dX11_isAt_24 : decode cX11_isAt 24 = .ok (.iconst 0, 1) := by decide +kernel
theorem dX11_isAt_25 : decode cX11_isAt 25 = .ok (.ireturn, 1) := by decide +kernel
theorem dX11_across_0 : decode cX11_across 0 = .ok (.aload_n 0, 1) := by decide +kernel
theorem dX11_across_1 : decode cX11_across 1 = .ok (.iload_n 1, 1) := by decide +kernel
theorem dX11_across_2 : decode cX11_across 2 = .ok (.iconst 0, 1) := by decide +kernel
theorem dX11_across_3 : decode cX11_across 3 = .ok (.invokevirtual 65, 3) := by decide +kernel
theorem dX11_across_6 : decode cX11_across 6 = .ok (.iload_n 2, 1) := by decide +kernel
theorem dX11_across_7 : decode cX11_across 7 = .ok (.if_icmp .ne 12, 3) := by decide +kernel
theorem dX11_across_10 : decode cX11_across 10 = .ok (.aload_n 0, 1) := by decide +kernel
theorem dX11_across_11 : decode cX11_across 11 = .ok (.iload_n 1, 1) := by decide +kernel
theorem dX11_across_12 : decode cX11_across 12 = .ok (.iconst 1, 1) := by decide +kernel
theorem dX11_across_13 : decode cX11_across 13 = .ok (.invokevirtual 65, 3) := by decide +kernel
theorem dX11_across_16 : decode cX11_across 16 = .ok (.goto 9, 3) := by decide +kernel
theorem dX11_across_19 : decode cX11_across 19 = .ok (.aload_n 0, 1) := by decide +kernel
theorem dX11_across_20 : decode cX11_across 20 = .ok (.iload_n 1, 1) := by decide +kernel
theorem dX11_across_21 : decode cX11_across 21 = .ok (.iconst 0, 1) := by decide +kernel
theorem dX11_across_22 : decode cX11_across 22 = .ok (.invokevirtual 65, 3) := by decide +kernel
theorem dX11_across_25 : decode cX11_across 25 = .ok (.ireturn, 1) := by decide +kernel
theorem dX11_measure_0 : decode cX11_measure 0 = .ok (.iconst 0, 1) := by decide +kernel
theorem dX11_measure_1 : decode cX11_measure 1 = .ok (.istore 4, 2) := by decide +kernel
theorem dX11_measure_3 : decode cX11_measure 3 = .ok (.iload 4, 2) := by decide +kernel
theorem dX11_measure_5 : decode cX11_measure 5 = .ok (.bipush 10, 2) := by decide +kernel
theorem dX11_measure_7 : decode cX11_measure 7 = .ok (.if_icmp .ge 28, 3) := by decide +kernel
theorem dX11_measure_10 : decode cX11_measure 10 = .ok (.aload_n 0, 1) := by decide +kernel
theorem dX11_measure_11 : decode cX11_measure 11 = .ok (.getfield 27, 3) := by decide +kernel
theorem dX11_measure_14 : decode cX11_measure 14 = .ok (.iload 4, 2) := by decide +kernel
theorem dX11_measure_16 : decode cX11_measure 16 = .ok (.iload 4, 2) := by decide +kernel
theorem dX11_measure_18 : decode cX11_measure 18 = .ok (.iload_n 1, 1) := by decide +kernel
theorem dX11_measure_19 : decode cX11_measure 19 = .ok (.if_icmp .ne 7, 3) := by decide +kernel
theorem dX11_measure_22 : decode cX11_measure 22 = .ok (.iconst 0, 1) := by decide +kernel
theorem dX11_measure_23 : decode cX11_measure 23 = .ok (.goto 5, 3) := by decide +kernel
theorem dX11_measure_26 : decode cX11_measure 26 = .ok (.ldc 68, 2) := by decide +kernel
theorem dX11_measure_28 : decode cX11_measure 28 = .ok (.iastore, 1) := by decide +kernel
theorem dX11_measure_29 : decode cX11_measure 29 = .ok (.iinc 4 1, 3) := by decide +kernel
theorem dX11_measure_32 : decode cX11_measure 32 = .ok (.goto (-29), 3) := by decide +kernel
theorem dX11_measure_35 : decode cX11_measure 35 = .ok (.iconst 1, 1) := by decide +kernel
theorem dX11_measure_36 : decode cX11_measure 36 = .ok (.istore 4, 2) := by decide +kernel
theorem dX11_measure_38 : decode cX11_measure 38 = .ok (.iload 4, 2) := by decide +kernel
theorem dX11_measure_40 : decode cX11_measure 40 = .ok (.bipush 10, 2) := by decide +kernel
theorem dX11_measure_42 : decode cX11_measure 42 = .ok (.if_icmp .ge 173, 3) := by decide +kernel
theorem dX11_measure_45 : decode cX11_measure 45 = .ok (.iconst 0, 1) := by decide +kernel
theorem dX11_measure_46 : decode cX11_measure 46 = .ok (.istore 5, 2) := by decide +kernel
theorem dX11_measure_48 : decode cX11_measure 48 = .ok (.iload 5, 2) := by decide +kernel
theorem dX11_measure_50 : decode cX11_measure 50 = .ok (.aload_n 0, 1) := by decide +kernel
theorem dX11_measure_51 : decode cX11_measure 51 = .ok (.getfield 7, 3) := by decide +kernel
theorem dX11_measure_54 : decode cX11_measure 54 = .ok (.iconst 4, 1) := by decide +kernel
theorem dX11_measure_55 : decode cX11_measure 55 = .ok (.iaload, 1) := by decide +kernel
theorem dX11_measure_56 : decode cX11_measure 56 = .ok (.if_icmp .ge 153, 3) := by decide +kernel
theorem dX11_measure_59 : decode cX11_measure 59 = .ok (.iload_n 2, 1) := by decide +kernel
theorem dX11_measure_60 : decode cX11_measure 60 = .ok (.iload 5, 2) := by decide +kernel
theorem dX11_measure_62 : decode cX11_measure 62 = .ok (.ishr, 1) := by decide +kernel
theorem dX11_measure_63 : decode cX11_measure 63 = .ok (.iconst 1, 1) := by decide +kernel
theorem dX11_measure_64 : decode cX11_measure 64 = .ok (.iand, 1) := by decide +kernel
theorem dX11_measure_65 : decode cX11_measure 65 = .ok (.iconst 1, 1) := by decide +kernel
theorem dX11_measure_66 : decode cX11_measure 66 = .ok (.if_icmp .ne 137, 3) := by decide +kernel
theorem dX11_measure_69 : decode cX11_measure 69 = .ok (.iload_n 3, 1) := by decide +kernel
theorem dX11_measure_70 : decode cX11_measure 70 = .ok (.ifCond .eq 18, 3) := by decide +kernel
theorem dX11_measure_73 : decode cX11_measure 73 = .ok (.bipush 100, 2) := by decide +kernel
theorem dX11_measure_75 : decode cX11_measure 75 = .ok (.aload_n 0, 1) := by decide +kernel
theorem dX11_measure_76 : decode cX11_measure 76 = .ok (.iload 5, 2) := by decide +kernel
theorem dX11_measure_78 : decode cX11_measure 78 = .ok (.iconst 3, 1) := by decide +kernel
theorem dX11_measure_79 : decode cX11_measure 79 = .ok (.invokevirtual 65, 3) := by decide +kernel
theorem dX11_measure_82 : decode cX11_measure 82 = .ok (.imul, 1) := by decide +kernel
theorem dX11_measure_83 : decode cX11_measure 83 = .ok (.iconst 1, 1) := by decide +kernel
theorem dX11_measure_84 : decode cX11_measure 84 = .ok (.iadd, 1) := by decide +kernel
theorem dX11_measure_85 : decode cX11_measure 85 = .ok (.goto 4, 3) := by decide +kernel
theorem dX11_measure_88 : decode cX11_measure 88 = .ok (.iconst 1, 1) := by decide +kernel
theorem dX11_measure_89 : decode cX11_measure 89 = .ok (.istore 6, 2) := by decide +kernel
theorem dX11_measure_91 : decode cX11_measure 91 = .ok (.aload_n 0, 1) := by decide +kernel
theorem dX11_measure_92 : decode cX11_measure 92 = .ok (.iload 5, 2) := by decide +kernel
theorem dX11_measure_94 : decode cX11_measure 94 = .ok (.iconst 0, 1) := by decide +kernel
theorem dX11_measure_95 : decode cX11_measure 95 = .ok (.invokevirtual 65, 3) := by decide +kernel
theorem dX11_measure_98 : decode cX11_measure 98 = .ok (.istore 7, 2) := by decide +kernel
theorem dX11_measure_100 : decode cX11_measure 100 = .ok (.aload_n 0, 1) := by decide +kernel
theorem dX11_measure_101 : decode cX11_measure 101 = .ok (.iload 5, 2) := by decide +kernel
theorem dX11_measure_103 : decode cX11_measure 103 = .ok (.iconst 1, 1) := by decide +kernel
theorem dX11_measure_104 : decode cX11_measure 104 = .ok (.invokevirtual 65, 3) := by decide +kernel
theorem dX11_measure_107 : decode cX11_measure 107 = .ok (.istore 8, 2) := by decide +kernel
theorem dX11_measure_109 : decode cX11_measure 109 = .ok (.aload_n 0, 1) := by decide +kernel
theorem dX11_measure_110 : decode cX11_measure 110 = .ok (.getfield 27, 3) := by decide +kernel
theorem dX11_measure_113 : decode cX11_measure 113 = .ok (.iload 7, 2) := by decide +kernel
theorem dX11_measure_115 : decode cX11_measure 115 = .ok (.aload_n 0, 1) := by decide +kernel
theorem dX11_measure_116 : decode cX11_measure 116 = .ok (.getfield 27, 3) := by decide +kernel
theorem dX11_measure_119 : decode cX11_measure 119 = .ok (.iload 8, 2) := by decide +kernel
theorem dX11_measure_121 : decode cX11_measure 121 = .ok (.iaload, 1) := by decide +kernel
theorem dX11_measure_122 : decode cX11_measure 122 = .ok (.iload 6, 2) := by decide +kernel
theorem dX11_measure_124 : decode cX11_measure 124 = .ok (.iadd, 1) := by decide +kernel
theorem dX11_measure_125 : decode cX11_measure 125 = .ok (.aload_n 0, 1) := by decide +kernel
theorem dX11_measure_126 : decode cX11_measure 126 = .ok (.getfield 27, 3) := by decide +kernel
theorem dX11_measure_129 : decode cX11_measure 129 = .ok (.iload 7, 2) := by decide +kernel
theorem dX11_measure_131 : decode cX11_measure 131 = .ok (.iaload, 1) := by decide +kernel
theorem dX11_measure_132 : decode cX11_measure 132 = .ok (.if_icmp .ge 16, 3) := by decide +kernel
theorem dX11_measure_135 : decode cX11_measure 135 = .ok (.aload_n 0, 1) := by decide +kernel
theorem dX11_measure_136 : decode cX11_measure 136 = .ok (.getfield 27, 3) := by decide +kernel
theorem dX11_measure_139 : decode cX11_measure 139 = .ok (.iload 8, 2) := by decide +kernel
theorem dX11_measure_141 : decode cX11_measure 141 = .ok (.iaload, 1) := by decide +kernel
theorem dX11_measure_142 : decode cX11_measure 142 = .ok (.iload 6, 2) := by decide +kernel
theorem dX11_measure_144 : decode cX11_measure 144 = .ok (.iadd, 1) := by decide +kernel
theorem dX11_measure_145 : decode cX11_measure 145 = .ok (.goto 10, 3) := by decide +kernel
theorem dX11_measure_148 : decode cX11_measure 148 = .ok (.aload_n 0, 1) := by decide +kernel
theorem dX11_measure_149 : decode cX11_measure 149 = .ok (.getfield 27, 3) := by decide +kernel
theorem dX11_measure_152 : decode cX11_measure 152 = .ok (.iload 7, 2) := by decide +kernel
theorem dX11_measure_154 : decode cX11_measure 154 = .ok (.iaload, 1) := by decide +kernel
theorem dX11_measure_155 : decode cX11_measure 155 = .ok (.iastore, 1) := by decide +kernel
theorem dX11_measure_156 : decode cX11_measure 156 = .ok (.aload_n 0, 1) := by decide +kernel
theorem dX11_measure_157 : decode cX11_measure 157 = .ok (.getfield 27, 3) := by decide +kernel
theorem dX11_measure_160 : decode cX11_measure 160 = .ok (.iload 8, 2) := by decide +kernel
theorem dX11_measure_162 : decode cX11_measure 162 = .ok (.aload_n 0, 1) := by decide +kernel
theorem dX11_measure_163 : decode cX11_measure 163 = .ok (.getfield 27, 3) := by decide +kernel
theorem dX11_measure_166 : decode cX11_measure 166 = .ok (.iload 7, 2) := by decide +kernel
theorem dX11_measure_168 : decode cX11_measure 168 = .ok (.iaload, 1) := by decide +kernel
theorem dX11_measure_169 : decode cX11_measure 169 = .ok (.iload 6, 2) := by decide +kernel
theorem dX11_measure_171 : decode cX11_measure 171 = .ok (.iadd, 1) := by decide +kernel
theorem dX11_measure_172 : decode cX11_measure 172 = .ok (.aload_n 0, 1) := by decide +kernel
theorem dX11_measure_173 : decode cX11_measure 173 = .ok (.getfield 27, 3) := by decide +kernel
theorem dX11_measure_176 : decode cX11_measure 176 = .ok (.iload 8, 2) := by decide +kernel
theorem dX11_measure_178 : decode cX11_measure 178 = .ok (.iaload, 1) := by decide +kernel
theorem dX11_measure_179 : decode cX11_measure 179 = .ok (.if_icmp .ge 16, 3) := by decide +kernel
theorem dX11_measure_182 : decode cX11_measure 182 = .ok (.aload_n 0, 1) := by decide +kernel
theorem dX11_measure_183 : decode cX11_measure 183 = .ok (.getfield 27, 3) := by decide +kernel
theorem dX11_measure_186 : decode cX11_measure 186 = .ok (.iload 7, 2) := by decide +kernel
theorem dX11_measure_188 : decode cX11_measure 188 = .ok (.iaload, 1) := by decide +kernel
theorem dX11_measure_189 : decode cX11_measure 189 = .ok (.iload 6, 2) := by decide +kernel
theorem dX11_measure_191 : decode cX11_measure 191 = .ok (.iadd, 1) := by decide +kernel
theorem dX11_measure_192 : decode cX11_measure 192 = .ok (.goto 10, 3) := by decide +kernel
theorem dX11_measure_195 : decode cX11_measure 195 = .ok (.aload_n 0, 1) := by decide +kernel
theorem dX11_measure_196 : decode cX11_measure 196 = .ok (.getfield 27, 3) := by decide +kernel
theorem dX11_measure_199 : decode cX11_measure 199 = .ok (.iload 8, 2) := by decide +kernel
theorem dX11_measure_201 : decode cX11_measure 201 = .ok (.iaload, 1) := by decide +kernel
theorem dX11_measure_202 : decode cX11_measure 202 = .ok (.iastore, 1) := by decide +kernel
theorem dX11_measure_203 : decode cX11_measure 203 = .ok (.iinc 5 1, 3) := by decide +kernel
theorem dX11_measure_206 : decode cX11_measure 206 = .ok (.goto (-158), 3) := by decide +kernel
theorem dX11_measure_209 : decode cX11_measure 209 = .ok (.iinc 4 1, 3) := by decide +kernel
theorem dX11_measure_212 : decode cX11_measure 212 = .ok (.goto (-174), 3) := by decide +kernel
theorem dX11_measure_215 : decode cX11_measure 215 = .ok (.return_, 1) := by decide +kernel
theorem dX11_all_0 : decode cX11_all 0 = .ok (.iconst 1, 1) := by decide +kernel
theorem dX11_all_1 : decode cX11_all 1 = .ok (.aload_n 0, 1) := by decide +kernel
theorem dX11_all_2 : decode cX11_all 2 = .ok (.getfield 7, 3) := by decide +kernel
theorem dX11_all_5 : decode cX11_all 5 = .ok (.iconst 4, 1) := by decide +kernel
theorem dX11_all_6 : decode cX11_all 6 = .ok (.iaload, 1) := by decide +kernel
theorem dX11_all_7 : decode cX11_all 7 = .ok (.ishl, 1) := by decide +kernel
theorem dX11_all_8 : decode cX11_all 8 = .ok (.iconst 1, 1) := by decide +kernel
theorem dX11_all_9 : decode cX11_all 9 = .ok (.isub, 1) := by decide +kernel
theorem dX11_all_10 : decode cX11_all 10 = .ok (.ireturn, 1) := by decide +kernel
theorem dX11_farOf_0 : decode cX11_farOf 0 = .ok (.aload_n 0, 1) := by decide +kernel
theorem dX11_farOf_1 : decode cX11_farOf 1 = .ok (.iload_n 1, 1) := by decide +kernel
theorem dX11_farOf_2 : decode cX11_farOf 2 = .ok (.aload_n 0, 1) := by decide +kernel
theorem dX11_farOf_3 : decode cX11_farOf 3 = .ok (.invokevirtual 69, 3) := by decide +kernel
theorem dX11_farOf_6 : decode cX11_farOf 6 = .ok (.iconst 0, 1) := by decide +kernel
theorem dX11_farOf_7 : decode cX11_farOf 7 = .ok (.invokevirtual 73, 3) := by decide +kernel
theorem dX11_farOf_10 : decode cX11_farOf 10 = .ok (.aload_n 0, 1) := by decide +kernel
theorem dX11_farOf_11 : decode cX11_farOf 11 = .ok (.getfield 27, 3) := by decide +kernel
theorem dX11_farOf_14 : decode cX11_farOf 14 = .ok (.iload_n 2, 1) := by decide +kernel
theorem dX11_farOf_15 : decode cX11_farOf 15 = .ok (.iaload, 1) := by decide +kernel
theorem dX11_farOf_16 : decode cX11_farOf 16 = .ok (.ldc 68, 2) := by decide +kernel
theorem dX11_farOf_18 : decode cX11_farOf 18 = .ok (.if_icmp .lt 8, 3) := by decide +kernel
theorem dX11_farOf_21 : decode cX11_farOf 21 = .ok (.bipush (-6), 2) := by decide +kernel
theorem dX11_farOf_23 : decode cX11_farOf 23 = .ok (.goto 9, 3) := by decide +kernel
theorem dX11_farOf_26 : decode cX11_farOf 26 = .ok (.aload_n 0, 1) := by decide +kernel
theorem dX11_farOf_27 : decode cX11_farOf 27 = .ok (.getfield 27, 3) := by decide +kernel
theorem dX11_farOf_30 : decode cX11_farOf 30 = .ok (.iload_n 2, 1) := by decide +kernel
theorem dX11_farOf_31 : decode cX11_farOf 31 = .ok (.iaload, 1) := by decide +kernel
theorem dX11_farOf_32 : decode cX11_farOf 32 = .ok (.ireturn, 1) := by decide +kernel
theorem dX11_far_0 : decode cX11_far 0 = .ok (.iload_n 1, 1) := by decide +kernel
theorem dX11_far_1 : decode cX11_far 1 = .ok (.invokestatic 51, 3) := by decide +kernel
theorem dX11_far_4 : decode cX11_far 4 = .ok (.ifCond .eq 19, 3) := by decide +kernel
theorem dX11_far_7 : decode cX11_far 7 = .ok (.iload_n 2, 1) := by decide +kernel
theorem dX11_far_8 : decode cX11_far 8 = .ok (.invokestatic 51, 3) := by decide +kernel
theorem dX11_far_11 : decode cX11_far 11 = .ok (.ifCond .eq 12, 3) := by decide +kernel
theorem dX11_far_14 : decode cX11_far 14 = .ok (.aload_n 0, 1) := by decide +kernel
theorem dX11_far_15 : decode cX11_far 15 = .ok (.iload_n 1, 1) := by decide +kernel
theorem dX11_far_16 : decode cX11_far 16 = .ok (.iload_n 2, 1) := by decide +kernel
theorem dX11_far_17 : decode cX11_far 17 = .ok (.invokevirtual 77, 3) := by decide +kernel
theorem dX11_far_20 : decode cX11_far 20 = .ok (.goto 4, 3) := by decide +kernel
theorem dX11_far_23 : decode cX11_far 23 = .ok (.iconst (-1), 1) := by decide +kernel
theorem dX11_far_24 : decode cX11_far 24 = .ok (.ireturn, 1) := by decide +kernel
theorem dX11_loud_0 : decode cX11_loud 0 = .ok (.aload_n 0, 1) := by decide +kernel
theorem dX11_loud_1 : decode cX11_loud 1 = .ok (.aload_n 0, 1) := by decide +kernel
theorem dX11_loud_2 : decode cX11_loud 2 = .ok (.iload_n 2, 1) := by decide +kernel
theorem dX11_loud_3 : decode cX11_loud 3 = .ok (.iconst 0, 1) := by decide +kernel
theorem dX11_loud_4 : decode cX11_loud 4 = .ok (.invokevirtual 80, 3) := by decide +kernel
theorem dX11_loud_7 : decode cX11_loud 7 = .ok (.aload_n 0, 1) := by decide +kernel
theorem dX11_loud_8 : decode cX11_loud 8 = .ok (.invokevirtual 69, 3) := by decide +kernel
theorem dX11_loud_11 : decode cX11_loud 11 = .ok (.iconst 0, 1) := by decide +kernel
theorem dX11_loud_12 : decode cX11_loud 12 = .ok (.invokevirtual 73, 3) := by decide +kernel
theorem dX11_loud_15 : decode cX11_loud 15 = .ok (.aload_n 0, 1) := by decide +kernel
theorem dX11_loud_16 : decode cX11_loud 16 = .ok (.getfield 27, 3) := by decide +kernel
theorem dX11_loud_19 : decode cX11_loud 19 = .ok (.aload_n 0, 1) := by decide +kernel
theorem dX11_loud_20 : decode cX11_loud 20 = .ok (.iload_n 1, 1) := by decide +kernel
theorem dX11_loud_21 : decode cX11_loud 21 = .ok (.iconst 0, 1) := by decide +kernel
theorem dX11_loud_22 : decode cX11_loud 22 = .ok (.invokevirtual 65, 3) := by decide +kernel
theorem dX11_loud_25 : decode cX11_loud 25 = .ok (.iaload, 1) := by decide +kernel
theorem dX11_loud_26 : decode cX11_loud 26 = .ok (.istore_n 3, 1) := by decide +kernel
theorem dX11_loud_27 : decode cX11_loud 27 = .ok (.aload_n 0, 1) := by decide +kernel
theorem dX11_loud_28 : decode cX11_loud 28 = .ok (.getfield 27, 3) := by decide +kernel
theorem dX11_loud_31 : decode cX11_loud 31 = .ok (.aload_n 0, 1) := by decide +kernel
theorem dX11_loud_32 : decode cX11_loud 32 = .ok (.iload_n 1, 1) := by decide +kernel
theorem dX11_loud_33 : decode cX11_loud 33 = .ok (.iconst 1, 1) := by decide +kernel
theorem dX11_loud_34 : decode cX11_loud 34 = .ok (.invokevirtual 65, 3) := by decide +kernel
theorem dX11_loud_37 : decode cX11_loud 37 = .ok (.iaload, 1) := by decide +kernel
theorem dX11_loud_38 : decode cX11_loud 38 = .ok (.istore 4, 2) := by decide +kernel
theorem dX11_loud_40 : decode cX11_loud 40 = .ok (.aload_n 0, 1) := by decide +kernel
theorem dX11_loud_41 : decode cX11_loud 41 = .ok (.iload_n 1, 1) := by decide +kernel
theorem dX11_loud_42 : decode cX11_loud 42 = .ok (.iconst 2, 1) := by decide +kernel
theorem dX11_loud_43 : decode cX11_loud 43 = .ok (.invokevirtual 65, 3) := by decide +kernel
theorem dX11_loud_46 : decode cX11_loud 46 = .ok (.iload_n 3, 1) := by decide +kernel
theorem dX11_loud_47 : decode cX11_loud 47 = .ok (.iload 4, 2) := by decide +kernel
theorem dX11_loud_49 : decode cX11_loud 49 = .ok (.if_icmp .ge 7, 3) := by decide +kernel
theorem dX11_loud_52 : decode cX11_loud 52 = .ok (.iload_n 3, 1) := by decide +kernel
theorem dX11_loud_53 : decode cX11_loud 53 = .ok (.goto 5, 3) := by decide +kernel
theorem dX11_loud_56 : decode cX11_loud 56 = .ok (.iload 4, 2) := by decide +kernel
theorem dX11_loud_58 : decode cX11_loud 58 = .ok (.isub, 1) := by decide +kernel
theorem dX11_loud_59 : decode cX11_loud 59 = .ok (.istore 5, 2) := by decide +kernel
theorem dX11_loud_61 : decode cX11_loud 61 = .ok (.iload 5, 2) := by decide +kernel
theorem dX11_loud_63 : decode cX11_loud 63 = .ok (.ifCond .ge 7, 3) := by decide +kernel
theorem dX11_loud_66 : decode cX11_loud 66 = .ok (.iconst 0, 1) := by decide +kernel
theorem dX11_loud_67 : decode cX11_loud 67 = .ok (.goto 5, 3) := by decide +kernel
theorem dX11_loud_70 : decode cX11_loud 70 = .ok (.iload 5, 2) := by decide +kernel
theorem dX11_loud_72 : decode cX11_loud 72 = .ok (.ireturn, 1) := by decide +kernel
theorem dX11_loudness_0 : decode cX11_loudness 0 = .ok (.aload_n 0, 1) := by decide +kernel
theorem dX11_loudness_1 : decode cX11_loudness 1 = .ok (.iload_n 1, 1) := by decide +kernel
theorem dX11_loudness_2 : decode cX11_loudness 2 = .ok (.invokevirtual 62, 3) := by decide +kernel
theorem dX11_loudness_5 : decode cX11_loudness 5 = .ok (.ifCond .eq 20, 3) := by decide +kernel
theorem dX11_loudness_8 : decode cX11_loudness 8 = .ok (.aload_n 0, 1) := by decide +kernel
theorem dX11_loudness_9 : decode cX11_loudness 9 = .ok (.iload_n 2, 1) := by decide +kernel
theorem dX11_loudness_10 : decode cX11_loudness 10 = .ok (.invokevirtual 83, 3) := by decide +kernel
theorem dX11_loudness_13 : decode cX11_loudness 13 = .ok (.ifCond .eq 12, 3) := by decide +kernel
theorem dX11_loudness_16 : decode cX11_loudness 16 = .ok (.aload_n 0, 1) := by decide +kernel
theorem dX11_loudness_17 : decode cX11_loudness 17 = .ok (.iload_n 1, 1) := by decide +kernel
theorem dX11_loudness_18 : decode cX11_loudness 18 = .ok (.iload_n 2, 1) := by decide +kernel
theorem dX11_loudness_19 : decode cX11_loudness 19 = .ok (.invokevirtual 86, 3) := by decide +kernel
theorem dX11_loudness_22 : decode cX11_loudness 22 = .ok (.goto 4, 3) := by decide +kernel
theorem dX11_loudness_25 : decode cX11_loudness 25 = .ok (.iconst (-1), 1) := by decide +kernel
theorem dX11_loudness_26 : decode cX11_loudness 26 = .ok (.ireturn, 1) := by decide +kernel
theorem dX11_sleeper_0 : decode cX11_sleeper 0 = .ok (.iload_n 1, 1) := by decide +kernel
theorem dX11_sleeper_1 : decode cX11_sleeper 1 = .ok (.invokestatic 51, 3) := by decide +kernel
theorem dX11_sleeper_4 : decode cX11_sleeper 4 = .ok (.ifCond .ne 5, 3) := by decide +kernel
theorem dX11_sleeper_7 : decode cX11_sleeper 7 = .ok (.iconst (-1), 1) := by decide +kernel
theorem dX11_sleeper_8 : decode cX11_sleeper 8 = .ok (.ireturn, 1) := by decide +kernel
theorem dX11_sleeper_9 : decode cX11_sleeper 9 = .ok (.iload_n 2, 1) := by decide +kernel
theorem dX11_sleeper_10 : decode cX11_sleeper 10 = .ok (.iconst 1, 1) := by decide +kernel
theorem dX11_sleeper_11 : decode cX11_sleeper 11 = .ok (.bipush 9, 2) := by decide +kernel
theorem dX11_sleeper_13 : decode cX11_sleeper 13 = .ok (.invokestatic 36, 3) := by decide +kernel
theorem dX11_sleeper_16 : decode cX11_sleeper 16 = .ok (.ifCond .ne 6, 3) := by decide +kernel
theorem dX11_sleeper_19 : decode cX11_sleeper 19 = .ok (.bipush (-2), 2) := by decide +kernel
theorem dX11_sleeper_21 : decode cX11_sleeper 21 = .ok (.ireturn, 1) := by decide +kernel
theorem dX11_sleeper_22 : decode cX11_sleeper 22 = .ok (.aload_n 0, 1) := by decide +kernel
theorem dX11_sleeper_23 : decode cX11_sleeper 23 = .ok (.getfield 7, 3) := by decide +kernel
theorem dX11_sleeper_26 : decode cX11_sleeper 26 = .ok (.iconst 5, 1) := by decide +kernel
theorem dX11_sleeper_27 : decode cX11_sleeper 27 = .ok (.iaload, 1) := by decide +kernel
theorem dX11_sleeper_28 : decode cX11_sleeper 28 = .ok (.iconst 5, 1) := by decide +kernel
theorem dX11_sleeper_29 : decode cX11_sleeper 29 = .ok (.if_icmp .ne 6, 3) := by decide +kernel
theorem dX11_sleeper_32 : decode cX11_sleeper 32 = .ok (.bipush (-4), 2) := by decide +kernel
theorem dX11_sleeper_34 : decode cX11_sleeper 34 = .ok (.ireturn, 1) := by decide +kernel
theorem dX11_sleeper_35 : decode cX11_sleeper 35 = .ok (.aload_n 0, 1) := by decide +kernel
theorem dX11_sleeper_36 : decode cX11_sleeper 36 = .ok (.invokevirtual 48, 3) := by decide +kernel
theorem dX11_sleeper_39 : decode cX11_sleeper 39 = .ok (.bipush 118, 2) := by decide +kernel
theorem dX11_sleeper_41 : decode cX11_sleeper 41 = .ok (.iconst 4, 1) := by decide +kernel
theorem dX11_sleeper_42 : decode cX11_sleeper 42 = .ok (.aload_n 0, 1) := by decide +kernel
theorem dX11_sleeper_43 : decode cX11_sleeper 43 = .ok (.getfield 7, 3) := by decide +kernel
theorem dX11_sleeper_46 : decode cX11_sleeper 46 = .ok (.iconst 5, 1) := by decide +kernel
theorem dX11_sleeper_47 : decode cX11_sleeper 47 = .ok (.iaload, 1) := by decide +kernel
theorem dX11_sleeper_48 : decode cX11_sleeper 48 = .ok (.imul, 1) := by decide +kernel
theorem dX11_sleeper_49 : decode cX11_sleeper 49 = .ok (.iadd, 1) := by decide +kernel
theorem dX11_sleeper_50 : decode cX11_sleeper 50 = .ok (.istore_n 3, 1) := by decide +kernel
theorem dX11_sleeper_51 : decode cX11_sleeper 51 = .ok (.aload_n 0, 1) := by decide +kernel
theorem dX11_sleeper_52 : decode cX11_sleeper 52 = .ok (.getfield 7, 3) := by decide +kernel
theorem dX11_sleeper_55 : decode cX11_sleeper 55 = .ok (.iload_n 3, 1) := by decide +kernel
theorem dX11_sleeper_56 : decode cX11_sleeper 56 = .ok (.iload_n 1, 1) := by decide +kernel
theorem dX11_sleeper_57 : decode cX11_sleeper 57 = .ok (.iastore, 1) := by decide +kernel
theorem dX11_sleeper_58 : decode cX11_sleeper 58 = .ok (.aload_n 0, 1) := by decide +kernel
theorem dX11_sleeper_59 : decode cX11_sleeper 59 = .ok (.getfield 7, 3) := by decide +kernel
theorem dX11_sleeper_62 : decode cX11_sleeper 62 = .ok (.iload_n 3, 1) := by decide +kernel
theorem dX11_sleeper_63 : decode cX11_sleeper 63 = .ok (.iconst 1, 1) := by decide +kernel
theorem dX11_sleeper_64 : decode cX11_sleeper 64 = .ok (.iadd, 1) := by decide +kernel
theorem dX11_sleeper_65 : decode cX11_sleeper 65 = .ok (.iload_n 2, 1) := by decide +kernel
theorem dX11_sleeper_66 : decode cX11_sleeper 66 = .ok (.iastore, 1) := by decide +kernel
theorem dX11_sleeper_67 : decode cX11_sleeper 67 = .ok (.aload_n 0, 1) := by decide +kernel
theorem dX11_sleeper_68 : decode cX11_sleeper 68 = .ok (.getfield 7, 3) := by decide +kernel
theorem dX11_sleeper_71 : decode cX11_sleeper 71 = .ok (.iload_n 3, 1) := by decide +kernel
theorem dX11_sleeper_72 : decode cX11_sleeper 72 = .ok (.iconst 2, 1) := by decide +kernel
theorem dX11_sleeper_73 : decode cX11_sleeper 73 = .ok (.iadd, 1) := by decide +kernel
theorem dX11_sleeper_74 : decode cX11_sleeper 74 = .ok (.iconst 0, 1) := by decide +kernel
theorem dX11_sleeper_75 : decode cX11_sleeper 75 = .ok (.iastore, 1) := by decide +kernel
theorem dX11_sleeper_76 : decode cX11_sleeper 76 = .ok (.aload_n 0, 1) := by decide +kernel
theorem dX11_sleeper_77 : decode cX11_sleeper 77 = .ok (.getfield 7, 3) := by decide +kernel
theorem dX11_sleeper_80 : decode cX11_sleeper 80 = .ok (.iload_n 3, 1) := by decide +kernel
theorem dX11_sleeper_81 : decode cX11_sleeper 81 = .ok (.iconst 3, 1) := by decide +kernel
theorem dX11_sleeper_82 : decode cX11_sleeper 82 = .ok (.iadd, 1) := by decide +kernel
theorem dX11_sleeper_83 : decode cX11_sleeper 83 = .ok (.iconst 0, 1) := by decide +kernel
theorem dX11_sleeper_84 : decode cX11_sleeper 84 = .ok (.iastore, 1) := by decide +kernel
theorem dX11_sleeper_85 : decode cX11_sleeper 85 = .ok (.aload_n 0, 1) := by decide +kernel
theorem dX11_sleeper_86 : decode cX11_sleeper 86 = .ok (.getfield 7, 3) := by decide +kernel
theorem dX11_sleeper_89 : decode cX11_sleeper 89 = .ok (.iconst 5, 1) := by decide +kernel
theorem dX11_sleeper_90 : decode cX11_sleeper 90 = .ok (.dup2, 1) := by decide +kernel
theorem dX11_sleeper_91 : decode cX11_sleeper 91 = .ok (.iaload, 1) := by decide +kernel
theorem dX11_sleeper_92 : decode cX11_sleeper 92 = .ok (.iconst 1, 1) := by decide +kernel
theorem dX11_sleeper_93 : decode cX11_sleeper 93 = .ok (.iadd, 1) := by decide +kernel
theorem dX11_sleeper_94 : decode cX11_sleeper 94 = .ok (.iastore, 1) := by decide +kernel
theorem dX11_sleeper_95 : decode cX11_sleeper 95 = .ok (.aload_n 0, 1) := by decide +kernel
theorem dX11_sleeper_96 : decode cX11_sleeper 96 = .ok (.getfield 7, 3) := by decide +kernel
theorem dX11_sleeper_99 : decode cX11_sleeper 99 = .ok (.iconst 5, 1) := by decide +kernel
theorem dX11_sleeper_100 : decode cX11_sleeper 100 = .ok (.iaload, 1) := by decide +kernel
theorem dX11_sleeper_101 : decode cX11_sleeper 101 = .ok (.iconst 1, 1) := by decide +kernel
theorem dX11_sleeper_102 : decode cX11_sleeper 102 = .ok (.isub, 1) := by decide +kernel
theorem dX11_sleeper_103 : decode cX11_sleeper 103 = .ok (.ireturn, 1) := by decide +kernel
theorem dX11_watched_0 : decode cX11_watched 0 = .ok (.iconst 0, 1) := by decide +kernel
theorem dX11_watched_1 : decode cX11_watched 1 = .ok (.istore_n 1, 1) := by decide +kernel
theorem dX11_watched_2 : decode cX11_watched 2 = .ok (.iconst 0, 1) := by decide +kernel
theorem dX11_watched_3 : decode cX11_watched 3 = .ok (.istore_n 2, 1) := by decide +kernel
theorem dX11_watched_4 : decode cX11_watched 4 = .ok (.iload_n 2, 1) := by decide +kernel
theorem dX11_watched_5 : decode cX11_watched 5 = .ok (.aload_n 0, 1) := by decide +kernel
theorem dX11_watched_6 : decode cX11_watched 6 = .ok (.getfield 7, 3) := by decide +kernel
theorem dX11_watched_9 : decode cX11_watched 9 = .ok (.iconst 5, 1) := by decide +kernel
theorem dX11_watched_10 : decode cX11_watched 10 = .ok (.iaload, 1) := by decide +kernel
theorem dX11_watched_11 : decode cX11_watched 11 = .ok (.if_icmp .ge 33, 3) := by decide +kernel
theorem dX11_watched_14 : decode cX11_watched 14 = .ok (.iload_n 1, 1) := by decide +kernel
theorem dX11_watched_15 : decode cX11_watched 15 = .ok (.aload_n 0, 1) := by decide +kernel
theorem dX11_watched_16 : decode cX11_watched 16 = .ok (.iload_n 2, 1) := by decide +kernel
theorem dX11_watched_17 : decode cX11_watched 17 = .ok (.iconst 2, 1) := by decide +kernel
theorem dX11_watched_18 : decode cX11_watched 18 = .ok (.invokevirtual 80, 3) := by decide +kernel
theorem dX11_watched_21 : decode cX11_watched 21 = .ok (.ifCond .le 14, 3) := by decide +kernel
theorem dX11_watched_24 : decode cX11_watched 24 = .ok (.iconst 1, 1) := by decide +kernel
theorem dX11_watched_25 : decode cX11_watched 25 = .ok (.aload_n 0, 1) := by decide +kernel
theorem dX11_watched_26 : decode cX11_watched 26 = .ok (.iload_n 2, 1) := by decide +kernel
theorem dX11_watched_27 : decode cX11_watched 27 = .ok (.iconst 0, 1) := by decide +kernel
theorem dX11_watched_28 : decode cX11_watched 28 = .ok (.invokevirtual 80, 3) := by decide +kernel
theorem dX11_watched_31 : decode cX11_watched 31 = .ok (.ishl, 1) := by decide +kernel
theorem dX11_watched_32 : decode cX11_watched 32 = .ok (.goto 4, 3) := by decide +kernel
theorem dX11_watched_35 : decode cX11_watched 35 = .ok (.iconst 0, 1) := by decide +kernel
theorem dX11_watched_36 : decode cX11_watched 36 = .ok (.ior, 1) := by decide +kernel
theorem dX11_watched_37 : decode cX11_watched 37 = .ok (.istore_n 1, 1) := by decide +kernel
theorem dX11_watched_38 : decode cX11_watched 38 = .ok (.iinc 2 1, 3) := by decide +kernel
theorem dX11_watched_41 : decode cX11_watched 41 = .ok (.goto (-37), 3) := by decide +kernel
theorem dX11_watched_44 : decode cX11_watched 44 = .ok (.iload_n 1, 1) := by decide +kernel
theorem dX11_watched_45 : decode cX11_watched 45 = .ok (.ireturn, 1) := by decide +kernel
theorem dX11_isFree_0 : decode cX11_isFree 0 = .ok (.aload_n 0, 1) := by decide +kernel
theorem dX11_isFree_1 : decode cX11_isFree 1 = .ok (.invokevirtual 89, 3) := by decide +kernel
theorem dX11_isFree_4 : decode cX11_isFree 4 = .ok (.istore_n 3, 1) := by decide +kernel
theorem dX11_isFree_5 : decode cX11_isFree 5 = .ok (.aload_n 0, 1) := by decide +kernel
theorem dX11_isFree_6 : decode cX11_isFree 6 = .ok (.iload_n 1, 1) := by decide +kernel
theorem dX11_isFree_7 : decode cX11_isFree 7 = .ok (.iload_n 2, 1) := by decide +kernel
theorem dX11_isFree_8 : decode cX11_isFree 8 = .ok (.invokevirtual 92, 3) := by decide +kernel
theorem dX11_isFree_11 : decode cX11_isFree 11 = .ok (.ifCond .ne 33, 3) := by decide +kernel
theorem dX11_isFree_14 : decode cX11_isFree 14 = .ok (.iload_n 3, 1) := by decide +kernel
theorem dX11_isFree_15 : decode cX11_isFree 15 = .ok (.aload_n 0, 1) := by decide +kernel
theorem dX11_isFree_16 : decode cX11_isFree 16 = .ok (.iload_n 2, 1) := by decide +kernel
theorem dX11_isFree_17 : decode cX11_isFree 17 = .ok (.iconst 0, 1) := by decide +kernel
theorem dX11_isFree_18 : decode cX11_isFree 18 = .ok (.invokevirtual 65, 3) := by decide +kernel
theorem dX11_isFree_21 : decode cX11_isFree 21 = .ok (.ishr, 1) := by decide +kernel
theorem dX11_isFree_22 : decode cX11_isFree 22 = .ok (.iconst 1, 1) := by decide +kernel
theorem dX11_isFree_23 : decode cX11_isFree 23 = .ok (.iand, 1) := by decide +kernel
theorem dX11_isFree_24 : decode cX11_isFree 24 = .ok (.ifCond .ne 20, 3) := by decide +kernel
theorem dX11_isFree_27 : decode cX11_isFree 27 = .ok (.iload_n 3, 1) := by decide +kernel
theorem dX11_isFree_28 : decode cX11_isFree 28 = .ok (.aload_n 0, 1) := by decide +kernel
theorem dX11_isFree_29 : decode cX11_isFree 29 = .ok (.iload_n 2, 1) := by decide +kernel
theorem dX11_isFree_30 : decode cX11_isFree 30 = .ok (.iconst 1, 1) := by decide +kernel
theorem dX11_isFree_31 : decode cX11_isFree 31 = .ok (.invokevirtual 65, 3) := by decide +kernel
theorem dX11_isFree_34 : decode cX11_isFree 34 = .ok (.ishr, 1) := by decide +kernel
theorem dX11_isFree_35 : decode cX11_isFree 35 = .ok (.iconst 1, 1) := by decide +kernel
theorem dX11_isFree_36 : decode cX11_isFree 36 = .ok (.iand, 1) := by decide +kernel
theorem dX11_isFree_37 : decode cX11_isFree 37 = .ok (.ifCond .ne 7, 3) := by decide +kernel
theorem dX11_isFree_40 : decode cX11_isFree 40 = .ok (.iconst 1, 1) := by decide +kernel
theorem dX11_isFree_41 : decode cX11_isFree 41 = .ok (.goto 4, 3) := by decide +kernel
theorem dX11_isFree_44 : decode cX11_isFree 44 = .ok (.iconst 0, 1) := by decide +kernel
theorem dX11_isFree_45 : decode cX11_isFree 45 = .ok (.ireturn, 1) := by decide +kernel
theorem dX11_freeTo_0 : decode cX11_freeTo 0 = .ok (.iconst 0, 1) := by decide +kernel
theorem dX11_freeTo_1 : decode cX11_freeTo 1 = .ok (.istore_n 2, 1) := by decide +kernel
theorem dX11_freeTo_2 : decode cX11_freeTo 2 = .ok (.iconst 0, 1) := by decide +kernel
theorem dX11_freeTo_3 : decode cX11_freeTo 3 = .ok (.istore_n 3, 1) := by decide +kernel
theorem dX11_freeTo_4 : decode cX11_freeTo 4 = .ok (.iload_n 3, 1) := by decide +kernel
theorem dX11_freeTo_5 : decode cX11_freeTo 5 = .ok (.aload_n 0, 1) := by decide +kernel
theorem dX11_freeTo_6 : decode cX11_freeTo 6 = .ok (.getfield 7, 3) := by decide +kernel
theorem dX11_freeTo_9 : decode cX11_freeTo 9 = .ok (.iconst 4, 1) := by decide +kernel
theorem dX11_freeTo_10 : decode cX11_freeTo 10 = .ok (.iaload, 1) := by decide +kernel
theorem dX11_freeTo_11 : decode cX11_freeTo 11 = .ok (.if_icmp .ge 28, 3) := by decide +kernel
theorem dX11_freeTo_14 : decode cX11_freeTo 14 = .ok (.iload_n 2, 1) := by decide +kernel
theorem dX11_freeTo_15 : decode cX11_freeTo 15 = .ok (.aload_n 0, 1) := by decide +kernel
theorem dX11_freeTo_16 : decode cX11_freeTo 16 = .ok (.iload_n 1, 1) := by decide +kernel
theorem dX11_freeTo_17 : decode cX11_freeTo 17 = .ok (.iload_n 3, 1) := by decide +kernel
theorem dX11_freeTo_18 : decode cX11_freeTo 18 = .ok (.invokevirtual 96, 3) := by decide +kernel
theorem dX11_freeTo_21 : decode cX11_freeTo 21 = .ok (.ifCond .eq 9, 3) := by decide +kernel
theorem dX11_freeTo_24 : decode cX11_freeTo 24 = .ok (.iconst 1, 1) := by decide +kernel
theorem dX11_freeTo_25 : decode cX11_freeTo 25 = .ok (.iload_n 3, 1) := by decide +kernel
theorem dX11_freeTo_26 : decode cX11_freeTo 26 = .ok (.ishl, 1) := by decide +kernel
theorem dX11_freeTo_27 : decode cX11_freeTo 27 = .ok (.goto 4, 3) := by decide +kernel
theorem dX11_freeTo_30 : decode cX11_freeTo 30 = .ok (.iconst 0, 1) := by decide +kernel
theorem dX11_freeTo_31 : decode cX11_freeTo 31 = .ok (.ior, 1) := by decide +kernel
theorem dX11_freeTo_32 : decode cX11_freeTo 32 = .ok (.istore_n 2, 1) := by decide +kernel
theorem dX11_freeTo_33 : decode cX11_freeTo 33 = .ok (.iinc 3 1, 3) := by decide +kernel
theorem dX11_freeTo_36 : decode cX11_freeTo 36 = .ok (.goto (-32), 3) := by decide +kernel
theorem dX11_freeTo_39 : decode cX11_freeTo 39 = .ok (.iload_n 2, 1) := by decide +kernel
theorem dX11_freeTo_40 : decode cX11_freeTo 40 = .ok (.ireturn, 1) := by decide +kernel
theorem dX11_creak_0 : decode cX11_creak 0 = .ok (.aload_n 0, 1) := by decide +kernel
theorem dX11_creak_1 : decode cX11_creak 1 = .ok (.getfield 7, 3) := by decide +kernel
theorem dX11_creak_4 : decode cX11_creak 4 = .ok (.bipush 6, 2) := by decide +kernel
theorem dX11_creak_6 : decode cX11_creak 6 = .ok (.iconst 5, 1) := by decide +kernel
theorem dX11_creak_7 : decode cX11_creak 7 = .ok (.iload_n 1, 1) := by decide +kernel
theorem dX11_creak_8 : decode cX11_creak 8 = .ok (.imul, 1) := by decide +kernel
theorem dX11_creak_9 : decode cX11_creak 9 = .ok (.iadd, 1) := by decide +kernel
theorem dX11_creak_10 : decode cX11_creak 10 = .ok (.iconst 4, 1) := by decide +kernel
theorem dX11_creak_11 : decode cX11_creak 11 = .ok (.iadd, 1) := by decide +kernel
theorem dX11_creak_12 : decode cX11_creak 12 = .ok (.dup2, 1) := by decide +kernel
theorem dX11_creak_13 : decode cX11_creak 13 = .ok (.iaload, 1) := by decide +kernel
theorem dX11_creak_14 : decode cX11_creak 14 = .ok (.iconst 1, 1) := by decide +kernel
theorem dX11_creak_15 : decode cX11_creak 15 = .ok (.iadd, 1) := by decide +kernel
theorem dX11_creak_16 : decode cX11_creak 16 = .ok (.iastore, 1) := by decide +kernel
theorem dX11_creak_17 : decode cX11_creak 17 = .ok (.iconst 0, 1) := by decide +kernel
theorem dX11_creak_18 : decode cX11_creak 18 = .ok (.istore_n 2, 1) := by decide +kernel
theorem dX11_creak_19 : decode cX11_creak 19 = .ok (.iconst 0, 1) := by decide +kernel
theorem dX11_creak_20 : decode cX11_creak 20 = .ok (.istore_n 3, 1) := by decide +kernel
theorem dX11_creak_21 : decode cX11_creak 21 = .ok (.iload_n 3, 1) := by decide +kernel
theorem dX11_creak_22 : decode cX11_creak 22 = .ok (.aload_n 0, 1) := by decide +kernel
theorem dX11_creak_23 : decode cX11_creak 23 = .ok (.getfield 7, 3) := by decide +kernel
theorem dX11_creak_26 : decode cX11_creak 26 = .ok (.iconst 5, 1) := by decide +kernel
theorem dX11_creak_27 : decode cX11_creak 27 = .ok (.iaload, 1) := by decide +kernel
theorem dX11_creak_28 : decode cX11_creak 28 = .ok (.if_icmp .ge 79, 3) := by decide +kernel
theorem dX11_creak_31 : decode cX11_creak 31 = .ok (.aload_n 0, 1) := by decide +kernel
theorem dX11_creak_32 : decode cX11_creak 32 = .ok (.iload_n 1, 1) := by decide +kernel
theorem dX11_creak_33 : decode cX11_creak 33 = .ok (.iload_n 3, 1) := by decide +kernel
theorem dX11_creak_34 : decode cX11_creak 34 = .ok (.invokevirtual 86, 3) := by decide +kernel
theorem dX11_creak_37 : decode cX11_creak 37 = .ok (.aload_n 0, 1) := by decide +kernel
theorem dX11_creak_38 : decode cX11_creak 38 = .ok (.iload_n 3, 1) := by decide +kernel
theorem dX11_creak_39 : decode cX11_creak 39 = .ok (.iconst 1, 1) := by decide +kernel
theorem dX11_creak_40 : decode cX11_creak 40 = .ok (.invokevirtual 80, 3) := by decide +kernel
theorem dX11_creak_43 : decode cX11_creak 43 = .ok (.if_icmp .lt 58, 3) := by decide +kernel
theorem dX11_creak_46 : decode cX11_creak 46 = .ok (.iload_n 2, 1) := by decide +kernel
theorem dX11_creak_47 : decode cX11_creak 47 = .ok (.iconst 1, 1) := by decide +kernel
theorem dX11_creak_48 : decode cX11_creak 48 = .ok (.iload_n 3, 1) := by decide +kernel
theorem dX11_creak_49 : decode cX11_creak 49 = .ok (.ishl, 1) := by decide +kernel
theorem dX11_creak_50 : decode cX11_creak 50 = .ok (.ior, 1) := by decide +kernel
theorem dX11_creak_51 : decode cX11_creak 51 = .ok (.istore_n 2, 1) := by decide +kernel
theorem dX11_creak_52 : decode cX11_creak 52 = .ok (.aload_n 0, 1) := by decide +kernel
theorem dX11_creak_53 : decode cX11_creak 53 = .ok (.getfield 7, 3) := by decide +kernel
theorem dX11_creak_56 : decode cX11_creak 56 = .ok (.bipush 118, 2) := by decide +kernel
theorem dX11_creak_58 : decode cX11_creak 58 = .ok (.iconst 4, 1) := by decide +kernel
theorem dX11_creak_59 : decode cX11_creak 59 = .ok (.iload_n 3, 1) := by decide +kernel
theorem dX11_creak_60 : decode cX11_creak 60 = .ok (.imul, 1) := by decide +kernel
theorem dX11_creak_61 : decode cX11_creak 61 = .ok (.iadd, 1) := by decide +kernel
theorem dX11_creak_62 : decode cX11_creak 62 = .ok (.iconst 3, 1) := by decide +kernel
theorem dX11_creak_63 : decode cX11_creak 63 = .ok (.iadd, 1) := by decide +kernel
theorem dX11_creak_64 : decode cX11_creak 64 = .ok (.dup2, 1) := by decide +kernel
theorem dX11_creak_65 : decode cX11_creak 65 = .ok (.iaload, 1) := by decide +kernel
theorem dX11_creak_66 : decode cX11_creak 66 = .ok (.aload_n 0, 1) := by decide +kernel
theorem dX11_creak_67 : decode cX11_creak 67 = .ok (.iload_n 3, 1) := by decide +kernel
theorem dX11_creak_68 : decode cX11_creak 68 = .ok (.iconst 2, 1) := by decide +kernel
theorem dX11_creak_69 : decode cX11_creak 69 = .ok (.invokevirtual 80, 3) := by decide +kernel
theorem dX11_creak_72 : decode cX11_creak 72 = .ok (.ifCond .ne 7, 3) := by decide +kernel
theorem dX11_creak_75 : decode cX11_creak 75 = .ok (.iconst 1, 1) := by decide +kernel
theorem dX11_creak_76 : decode cX11_creak 76 = .ok (.goto 4, 3) := by decide +kernel
theorem dX11_creak_79 : decode cX11_creak 79 = .ok (.iconst 0, 1) := by decide +kernel
theorem dX11_creak_80 : decode cX11_creak 80 = .ok (.iadd, 1) := by decide +kernel
theorem dX11_creak_81 : decode cX11_creak 81 = .ok (.iastore, 1) := by decide +kernel
theorem dX11_creak_82 : decode cX11_creak 82 = .ok (.aload_n 0, 1) := by decide +kernel
theorem dX11_creak_83 : decode cX11_creak 83 = .ok (.getfield 7, 3) := by decide +kernel
theorem dX11_creak_86 : decode cX11_creak 86 = .ok (.bipush 118, 2) := by decide +kernel
theorem dX11_creak_88 : decode cX11_creak 88 = .ok (.iconst 4, 1) := by decide +kernel
theorem dX11_creak_89 : decode cX11_creak 89 = .ok (.iload_n 3, 1) := by decide +kernel
theorem dX11_creak_90 : decode cX11_creak 90 = .ok (.imul, 1) := by decide +kernel
theorem dX11_creak_91 : decode cX11_creak 91 = .ok (.iadd, 1) := by decide +kernel
theorem dX11_creak_92 : decode cX11_creak 92 = .ok (.iconst 2, 1) := by decide +kernel
theorem dX11_creak_93 : decode cX11_creak 93 = .ok (.iadd, 1) := by decide +kernel
theorem dX11_creak_94 : decode cX11_creak 94 = .ok (.aload_n 0, 1) := by decide +kernel
theorem dX11_creak_95 : decode cX11_creak 95 = .ok (.getfield 7, 3) := by decide +kernel
theorem dX11_creak_98 : decode cX11_creak 98 = .ok (.iconst 1, 1) := by decide +kernel
theorem dX11_creak_99 : decode cX11_creak 99 = .ok (.iaload, 1) := by decide +kernel
theorem dX11_creak_100 : decode cX11_creak 100 = .ok (.iastore, 1) := by decide +kernel
theorem dX11_creak_101 : decode cX11_creak 101 = .ok (.iinc 3 1, 3) := by decide +kernel
theorem dX11_creak_104 : decode cX11_creak 104 = .ok (.goto (-83), 3) := by decide +kernel
theorem dX11_creak_107 : decode cX11_creak 107 = .ok (.iload_n 2, 1) := by decide +kernel
theorem dX11_creak_108 : decode cX11_creak 108 = .ok (.ireturn, 1) := by decide +kernel
theorem dX11_minutes_0 : decode cX11_minutes 0 = .ok (.iconst 0, 1) := by decide +kernel
theorem dX11_minutes_1 : decode cX11_minutes 1 = .ok (.istore_n 2, 1) := by decide +kernel
theorem dX11_minutes_2 : decode cX11_minutes 2 = .ok (.iconst 0, 1) := by decide +kernel
theorem dX11_minutes_3 : decode cX11_minutes 3 = .ok (.istore_n 3, 1) := by decide +kernel
theorem dX11_minutes_4 : decode cX11_minutes 4 = .ok (.iload_n 3, 1) := by decide +kernel
theorem dX11_minutes_5 : decode cX11_minutes 5 = .ok (.iload_n 1, 1) := by decide +kernel
theorem dX11_minutes_6 : decode cX11_minutes 6 = .ok (.if_icmp .ge 120, 3) := by decide +kernel
theorem dX11_minutes_9 : decode cX11_minutes 9 = .ok (.aload_n 0, 1) := by decide +kernel
theorem dX11_minutes_10 : decode cX11_minutes 10 = .ok (.getfield 7, 3) := by decide +kernel
theorem dX11_minutes_13 : decode cX11_minutes 13 = .ok (.iconst 2, 1) := by decide +kernel
theorem dX11_minutes_14 : decode cX11_minutes 14 = .ok (.dup2, 1) := by decide +kernel
theorem dX11_minutes_15 : decode cX11_minutes 15 = .ok (.iaload, 1) := by decide +kernel
theorem dX11_minutes_16 : decode cX11_minutes 16 = .ok (.iconst 1, 1) := by decide +kernel
theorem dX11_minutes_17 : decode cX11_minutes 17 = .ok (.iadd, 1) := by decide +kernel
theorem dX11_minutes_18 : decode cX11_minutes 18 = .ok (.iastore, 1) := by decide +kernel
theorem dX11_minutes_19 : decode cX11_minutes 19 = .ok (.iconst 0, 1) := by decide +kernel
theorem dX11_minutes_20 : decode cX11_minutes 20 = .ok (.istore 4, 2) := by decide +kernel
theorem dX11_minutes_22 : decode cX11_minutes 22 = .ok (.iload 4, 2) := by decide +kernel
theorem dX11_minutes_24 : decode cX11_minutes 24 = .ok (.aload_n 0, 1) := by decide +kernel
theorem dX11_minutes_25 : decode cX11_minutes 25 = .ok (.getfield 7, 3) := by decide +kernel
theorem dX11_minutes_28 : decode cX11_minutes 28 = .ok (.iconst 5, 1) := by decide +kernel
theorem dX11_minutes_29 : decode cX11_minutes 29 = .ok (.iaload, 1) := by decide +kernel
theorem dX11_minutes_30 : decode cX11_minutes 30 = .ok (.if_icmp .ge 41, 3) := by decide +kernel
theorem dX11_minutes_33 : decode cX11_minutes 33 = .ok (.aload_n 0, 1) := by decide +kernel
theorem dX11_minutes_34 : decode cX11_minutes 34 = .ok (.getfield 7, 3) := by decide +kernel
theorem dX11_minutes_37 : decode cX11_minutes 37 = .ok (.bipush 118, 2) := by decide +kernel
theorem dX11_minutes_39 : decode cX11_minutes 39 = .ok (.iconst 4, 1) := by decide +kernel
theorem dX11_minutes_40 : decode cX11_minutes 40 = .ok (.iload 4, 2) := by decide +kernel
theorem dX11_minutes_42 : decode cX11_minutes 42 = .ok (.imul, 1) := by decide +kernel
theorem dX11_minutes_43 : decode cX11_minutes 43 = .ok (.iadd, 1) := by decide +kernel
theorem dX11_minutes_44 : decode cX11_minutes 44 = .ok (.iconst 2, 1) := by decide +kernel
theorem dX11_minutes_45 : decode cX11_minutes 45 = .ok (.iadd, 1) := by decide +kernel
theorem dX11_minutes_46 : decode cX11_minutes 46 = .ok (.dup2, 1) := by decide +kernel
theorem dX11_minutes_47 : decode cX11_minutes 47 = .ok (.iaload, 1) := by decide +kernel
theorem dX11_minutes_48 : decode cX11_minutes 48 = .ok (.aload_n 0, 1) := by decide +kernel
theorem dX11_minutes_49 : decode cX11_minutes 49 = .ok (.iload 4, 2) := by decide +kernel
theorem dX11_minutes_51 : decode cX11_minutes 51 = .ok (.iconst 2, 1) := by decide +kernel
theorem dX11_minutes_52 : decode cX11_minutes 52 = .ok (.invokevirtual 80, 3) := by decide +kernel
theorem dX11_minutes_55 : decode cX11_minutes 55 = .ok (.ifCond .le 7, 3) := by decide +kernel
theorem dX11_minutes_58 : decode cX11_minutes 58 = .ok (.iconst 1, 1) := by decide +kernel
theorem dX11_minutes_59 : decode cX11_minutes 59 = .ok (.goto 4, 3) := by decide +kernel
theorem dX11_minutes_62 : decode cX11_minutes 62 = .ok (.iconst 0, 1) := by decide +kernel
theorem dX11_minutes_63 : decode cX11_minutes 63 = .ok (.isub, 1) := by decide +kernel
theorem dX11_minutes_64 : decode cX11_minutes 64 = .ok (.iastore, 1) := by decide +kernel
theorem dX11_minutes_65 : decode cX11_minutes 65 = .ok (.iinc 4 1, 3) := by decide +kernel
theorem dX11_minutes_68 : decode cX11_minutes 68 = .ok (.goto (-46), 3) := by decide +kernel
theorem dX11_minutes_71 : decode cX11_minutes 71 = .ok (.aload_n 0, 1) := by decide +kernel
theorem dX11_minutes_72 : decode cX11_minutes 72 = .ok (.getfield 7, 3) := by decide +kernel
theorem dX11_minutes_75 : decode cX11_minutes 75 = .ok (.iconst 2, 1) := by decide +kernel
theorem dX11_minutes_76 : decode cX11_minutes 76 = .ok (.iaload, 1) := by decide +kernel
theorem dX11_minutes_77 : decode cX11_minutes 77 = .ok (.aload_n 0, 1) := by decide +kernel
theorem dX11_minutes_78 : decode cX11_minutes 78 = .ok (.getfield 7, 3) := by decide +kernel
theorem dX11_minutes_81 : decode cX11_minutes 81 = .ok (.iconst 0, 1) := by decide +kernel
theorem dX11_minutes_82 : decode cX11_minutes 82 = .ok (.iaload, 1) := by decide +kernel
theorem dX11_minutes_83 : decode cX11_minutes 83 = .ok (.irem, 1) := by decide +kernel
theorem dX11_minutes_84 : decode cX11_minutes 84 = .ok (.ifCond .ne 36, 3) := by decide +kernel
theorem dX11_minutes_87 : decode cX11_minutes 87 = .ok (.iinc 2 1, 3) := by decide +kernel
theorem dX11_minutes_90 : decode cX11_minutes 90 = .ok (.iconst 0, 1) := by decide +kernel
theorem dX11_minutes_91 : decode cX11_minutes 91 = .ok (.istore 4, 2) := by decide +kernel
theorem dX11_minutes_93 : decode cX11_minutes 93 = .ok (.iload 4, 2) := by decide +kernel
theorem dX11_minutes_95 : decode cX11_minutes 95 = .ok (.iconst 4, 1) := by decide +kernel
theorem dX11_minutes_96 : decode cX11_minutes 96 = .ok (.if_icmp .ge 24, 3) := by decide +kernel
theorem dX11_minutes_99 : decode cX11_minutes 99 = .ok (.aload_n 0, 1) := by decide +kernel
theorem dX11_minutes_100 : decode cX11_minutes 100 = .ok (.getfield 7, 3) := by decide +kernel
theorem dX11_minutes_103 : decode cX11_minutes 103 = .ok (.bipush 106, 2) := by decide +kernel
theorem dX11_minutes_105 : decode cX11_minutes 105 = .ok (.iconst 3, 1) := by decide +kernel
theorem dX11_minutes_106 : decode cX11_minutes 106 = .ok (.iload 4, 2) := by decide +kernel
theorem dX11_minutes_108 : decode cX11_minutes 108 = .ok (.imul, 1) := by decide +kernel
theorem dX11_minutes_109 : decode cX11_minutes 109 = .ok (.iadd, 1) := by decide +kernel
theorem dX11_minutes_110 : decode cX11_minutes 110 = .ok (.iconst 1, 1) := by decide +kernel
theorem dX11_minutes_111 : decode cX11_minutes 111 = .ok (.iadd, 1) := by decide +kernel
theorem dX11_minutes_112 : decode cX11_minutes 112 = .ok (.iconst 0, 1) := by decide +kernel
theorem dX11_minutes_113 : decode cX11_minutes 113 = .ok (.iastore, 1) := by decide +kernel
theorem dX11_minutes_114 : decode cX11_minutes 114 = .ok (.iinc 4 1, 3) := by decide +kernel
theorem dX11_minutes_117 : decode cX11_minutes 117 = .ok (.goto (-24), 3) := by decide +kernel
theorem dX11_minutes_120 : decode cX11_minutes 120 = .ok (.iinc 3 1, 3) := by decide +kernel
theorem dX11_minutes_123 : decode cX11_minutes 123 = .ok (.goto (-119), 3) := by decide +kernel
theorem dX11_minutes_126 : decode cX11_minutes 126 = .ok (.aload_n 0, 1) := by decide +kernel
theorem dX11_minutes_127 : decode cX11_minutes 127 = .ok (.getfield 7, 3) := by decide +kernel
theorem dX11_minutes_130 : decode cX11_minutes 130 = .ok (.iconst 3, 1) := by decide +kernel
theorem dX11_minutes_131 : decode cX11_minutes 131 = .ok (.dup2, 1) := by decide +kernel
theorem dX11_minutes_132 : decode cX11_minutes 132 = .ok (.iaload, 1) := by decide +kernel
theorem dX11_minutes_133 : decode cX11_minutes 133 = .ok (.iload_n 2, 1) := by decide +kernel
theorem dX11_minutes_134 : decode cX11_minutes 134 = .ok (.iadd, 1) := by decide +kernel
theorem dX11_minutes_135 : decode cX11_minutes 135 = .ok (.iastore, 1) := by decide +kernel
theorem dX11_minutes_136 : decode cX11_minutes 136 = .ok (.iload_n 2, 1) := by decide +kernel
theorem dX11_minutes_137 : decode cX11_minutes 137 = .ok (.ireturn, 1) := by decide +kernel
theorem dX11_pass_0 : decode cX11_pass 0 = .ok (.iload_n 1, 1) := by decide +kernel
theorem dX11_pass_1 : decode cX11_pass 1 = .ok (.iconst 1, 1) := by decide +kernel
theorem dX11_pass_2 : decode cX11_pass 2 = .ok (.sipush 200, 3) := by decide +kernel
theorem dX11_pass_5 : decode cX11_pass 5 = .ok (.invokestatic 36, 3) := by decide +kernel
theorem dX11_pass_8 : decode cX11_pass 8 = .ok (.ifCond .ne 6, 3) := by decide +kernel
theorem dX11_pass_11 : decode cX11_pass 11 = .ok (.bipush (-2), 2) := by decide +kernel
theorem dX11_pass_13 : decode cX11_pass 13 = .ok (.ireturn, 1) := by decide +kernel
theorem dX11_pass_14 : decode cX11_pass 14 = .ok (.aload_n 0, 1) := by decide +kernel
theorem dX11_pass_15 : decode cX11_pass 15 = .ok (.getfield 7, 3) := by decide +kernel
theorem dX11_pass_18 : decode cX11_pass 18 = .ok (.iconst 2, 1) := by decide +kernel
theorem dX11_pass_19 : decode cX11_pass 19 = .ok (.iaload, 1) := by decide +kernel
theorem dX11_pass_20 : decode cX11_pass 20 = .ok (.iload_n 1, 1) := by decide +kernel
theorem dX11_pass_21 : decode cX11_pass 21 = .ok (.iadd, 1) := by decide +kernel
theorem dX11_pass_22 : decode cX11_pass 22 = .ok (.ldc 99, 2) := by decide +kernel
theorem dX11_pass_24 : decode cX11_pass 24 = .ok (.if_icmp .le 6, 3) := by decide +kernel
theorem dX11_pass_27 : decode cX11_pass 27 = .ok (.bipush (-4), 2) := by decide +kernel
theorem dX11_pass_29 : decode cX11_pass 29 = .ok (.ireturn, 1) := by decide +kernel
theorem dX11_pass_30 : decode cX11_pass 30 = .ok (.aload_n 0, 1) := by decide +kernel
theorem dX11_pass_31 : decode cX11_pass 31 = .ok (.invokevirtual 48, 3) := by decide +kernel
theorem dX11_pass_34 : decode cX11_pass 34 = .ok (.aload_n 0, 1) := by decide +kernel
theorem dX11_pass_35 : decode cX11_pass 35 = .ok (.iload_n 1, 1) := by decide +kernel
theorem dX11_pass_36 : decode cX11_pass 36 = .ok (.invokevirtual 100, 3) := by decide +kernel
theorem dX11_pass_39 : decode cX11_pass 39 = .ok (.ireturn, 1) := by decide +kernel
theorem dX11_put_0 : decode cX11_put 0 = .ok (.iload_n 1, 1) := by decide +kernel
theorem dX11_put_1 : decode cX11_put 1 = .ok (.invokestatic 104, 3) := by decide +kernel
theorem dX11_put_4 : decode cX11_put 4 = .ok (.ifCond .eq 10, 3) := by decide +kernel
theorem dX11_put_7 : decode cX11_put 7 = .ok (.iload_n 2, 1) := by decide +kernel
theorem dX11_put_8 : decode cX11_put 8 = .ok (.invokestatic 51, 3) := by decide +kernel
theorem dX11_put_11 : decode cX11_put 11 = .ok (.ifCond .ne 5, 3) := by decide +kernel
theorem dX11_put_14 : decode cX11_put 14 = .ok (.iconst (-1), 1) := by decide +kernel
theorem dX11_put_15 : decode cX11_put 15 = .ok (.ireturn, 1) := by decide +kernel
theorem dX11_put_16 : decode cX11_put 16 = .ok (.aload_n 0, 1) := by decide +kernel
theorem dX11_put_17 : decode cX11_put 17 = .ok (.invokevirtual 48, 3) := by decide +kernel
theorem dX11_put_20 : decode cX11_put 20 = .ok (.aload_n 0, 1) := by decide +kernel
theorem dX11_put_21 : decode cX11_put 21 = .ok (.iload_n 1, 1) := by decide +kernel
theorem dX11_put_22 : decode cX11_put 22 = .ok (.invokevirtual 107, 3) := by decide +kernel
theorem dX11_put_25 : decode cX11_put 25 = .ok (.istore_n 3, 1) := by decide +kernel
theorem dX11_put_26 : decode cX11_put 26 = .ok (.aload_n 0, 1) := by decide +kernel
theorem dX11_put_27 : decode cX11_put 27 = .ok (.getfield 7, 3) := by decide +kernel
theorem dX11_put_30 : decode cX11_put 30 = .ok (.bipush 106, 2) := by decide +kernel
theorem dX11_put_32 : decode cX11_put 32 = .ok (.iconst 3, 1) := by decide +kernel
theorem dX11_put_33 : decode cX11_put 33 = .ok (.iload_n 1, 1) := by decide +kernel
theorem dX11_put_34 : decode cX11_put 34 = .ok (.imul, 1) := by decide +kernel
theorem dX11_put_35 : decode cX11_put 35 = .ok (.iadd, 1) := by decide +kernel
theorem dX11_put_36 : decode cX11_put 36 = .ok (.iload_n 2, 1) := by decide +kernel
theorem dX11_put_37 : decode cX11_put 37 = .ok (.iastore, 1) := by decide +kernel
theorem dX11_put_38 : decode cX11_put 38 = .ok (.iload_n 3, 1) := by decide +kernel
theorem dX11_put_39 : decode cX11_put 39 = .ok (.ireturn, 1) := by decide +kernel
theorem dX11_glides_0 : decode cX11_glides 0 = .ok (.aload_n 0, 1) := by decide +kernel
theorem dX11_glides_1 : decode cX11_glides 1 = .ok (.iload_n 2, 1) := by decide +kernel
theorem dX11_glides_2 : decode cX11_glides 2 = .ok (.aload_n 0, 1) := by decide +kernel
theorem dX11_glides_3 : decode cX11_glides 3 = .ok (.iload_n 1, 1) := by decide +kernel
theorem dX11_glides_4 : decode cX11_glides 4 = .ok (.invokevirtual 107, 3) := by decide +kernel
theorem dX11_glides_7 : decode cX11_glides 7 = .ok (.invokevirtual 110, 3) := by decide +kernel
theorem dX11_glides_10 : decode cX11_glides 10 = .ok (.istore_n 3, 1) := by decide +kernel
theorem dX11_glides_11 : decode cX11_glides 11 = .ok (.aload_n 0, 1) := by decide +kernel
theorem dX11_glides_12 : decode cX11_glides 12 = .ok (.iload_n 2, 1) := by decide +kernel
theorem dX11_glides_13 : decode cX11_glides 13 = .ok (.invokevirtual 113, 3) := by decide +kernel
theorem dX11_glides_16 : decode cX11_glides 16 = .ok (.istore 4, 2) := by decide +kernel
theorem dX11_glides_18 : decode cX11_glides 18 = .ok (.aload_n 0, 1) := by decide +kernel
theorem dX11_glides_19 : decode cX11_glides 19 = .ok (.aload_n 0, 1) := by decide +kernel
theorem dX11_glides_20 : decode cX11_glides 20 = .ok (.iload_n 2, 1) := by decide +kernel
theorem dX11_glides_21 : decode cX11_glides 21 = .ok (.iconst 3, 1) := by decide +kernel
theorem dX11_glides_22 : decode cX11_glides 22 = .ok (.invokevirtual 65, 3) := by decide +kernel
theorem dX11_glides_25 : decode cX11_glides 25 = .ok (.invokevirtual 100, 3) := by decide +kernel
theorem dX11_glides_28 : decode cX11_glides 28 = .ok (.pop, 1) := by decide +kernel
theorem dX11_glides_29 : decode cX11_glides 29 = .ok (.aload_n 0, 1) := by decide +kernel
theorem dX11_glides_30 : decode cX11_glides 30 = .ok (.getfield 7, 3) := by decide +kernel
theorem dX11_glides_33 : decode cX11_glides 33 = .ok (.bipush 106, 2) := by decide +kernel
theorem dX11_glides_35 : decode cX11_glides 35 = .ok (.iconst 3, 1) := by decide +kernel
theorem dX11_glides_36 : decode cX11_glides 36 = .ok (.iload_n 1, 1) := by decide +kernel
theorem dX11_glides_37 : decode cX11_glides 37 = .ok (.imul, 1) := by decide +kernel
theorem dX11_glides_38 : decode cX11_glides 38 = .ok (.iadd, 1) := by decide +kernel
theorem dX11_glides_39 : decode cX11_glides 39 = .ok (.iload_n 3, 1) := by decide +kernel
theorem dX11_glides_40 : decode cX11_glides 40 = .ok (.iastore, 1) := by decide +kernel
theorem dX11_glides_41 : decode cX11_glides 41 = .ok (.aload_n 0, 1) := by decide +kernel
theorem dX11_glides_42 : decode cX11_glides 42 = .ok (.getfield 7, 3) := by decide +kernel
theorem dX11_glides_45 : decode cX11_glides 45 = .ok (.bipush 106, 2) := by decide +kernel
theorem dX11_glides_47 : decode cX11_glides 47 = .ok (.iconst 3, 1) := by decide +kernel
theorem dX11_glides_48 : decode cX11_glides 48 = .ok (.iload_n 1, 1) := by decide +kernel
theorem dX11_glides_49 : decode cX11_glides 49 = .ok (.imul, 1) := by decide +kernel
theorem dX11_glides_50 : decode cX11_glides 50 = .ok (.iadd, 1) := by decide +kernel
theorem dX11_glides_51 : decode cX11_glides 51 = .ok (.iconst 1, 1) := by decide +kernel
theorem dX11_glides_52 : decode cX11_glides 52 = .ok (.iadd, 1) := by decide +kernel
theorem dX11_glides_53 : decode cX11_glides 53 = .ok (.dup2, 1) := by decide +kernel
theorem dX11_glides_54 : decode cX11_glides 54 = .ok (.iaload, 1) := by decide +kernel
theorem dX11_glides_55 : decode cX11_glides 55 = .ok (.iconst 1, 1) := by decide +kernel
theorem dX11_glides_56 : decode cX11_glides 56 = .ok (.iload_n 2, 1) := by decide +kernel
theorem dX11_glides_57 : decode cX11_glides 57 = .ok (.ishl, 1) := by decide +kernel
theorem dX11_glides_58 : decode cX11_glides 58 = .ok (.ior, 1) := by decide +kernel
theorem dX11_glides_59 : decode cX11_glides 59 = .ok (.iastore, 1) := by decide +kernel
theorem dX11_glides_60 : decode cX11_glides 60 = .ok (.aload_n 0, 1) := by decide +kernel
theorem dX11_glides_61 : decode cX11_glides 61 = .ok (.getfield 7, 3) := by decide +kernel
theorem dX11_glides_64 : decode cX11_glides 64 = .ok (.bipush 106, 2) := by decide +kernel
theorem dX11_glides_66 : decode cX11_glides 66 = .ok (.iconst 3, 1) := by decide +kernel
theorem dX11_glides_67 : decode cX11_glides 67 = .ok (.iload_n 1, 1) := by decide +kernel
theorem dX11_glides_68 : decode cX11_glides 68 = .ok (.imul, 1) := by decide +kernel
theorem dX11_glides_69 : decode cX11_glides 69 = .ok (.iadd, 1) := by decide +kernel
theorem dX11_glides_70 : decode cX11_glides 70 = .ok (.iconst 2, 1) := by decide +kernel
theorem dX11_glides_71 : decode cX11_glides 71 = .ok (.iadd, 1) := by decide +kernel
theorem dX11_glides_72 : decode cX11_glides 72 = .ok (.dup2, 1) := by decide +kernel
theorem dX11_glides_73 : decode cX11_glides 73 = .ok (.iaload, 1) := by decide +kernel
theorem dX11_glides_74 : decode cX11_glides 74 = .ok (.iconst 1, 1) := by decide +kernel
theorem dX11_glides_75 : decode cX11_glides 75 = .ok (.iadd, 1) := by decide +kernel
theorem dX11_glides_76 : decode cX11_glides 76 = .ok (.iastore, 1) := by decide +kernel
theorem dX11_glides_77 : decode cX11_glides 77 = .ok (.iload 4, 2) := by decide +kernel
theorem dX11_glides_79 : decode cX11_glides 79 = .ok (.ireturn, 1) := by decide +kernel
theorem dX11_glide_0 : decode cX11_glide 0 = .ok (.iload_n 1, 1) := by decide +kernel
theorem dX11_glide_1 : decode cX11_glide 1 = .ok (.invokestatic 104, 3) := by decide +kernel
theorem dX11_glide_4 : decode cX11_glide 4 = .ok (.ifCond .eq 11, 3) := by decide +kernel
theorem dX11_glide_7 : decode cX11_glide 7 = .ok (.aload_n 0, 1) := by decide +kernel
theorem dX11_glide_8 : decode cX11_glide 8 = .ok (.iload_n 2, 1) := by decide +kernel
theorem dX11_glide_9 : decode cX11_glide 9 = .ok (.invokevirtual 62, 3) := by decide +kernel
theorem dX11_glide_12 : decode cX11_glide 12 = .ok (.ifCond .ne 5, 3) := by decide +kernel
theorem dX11_glide_15 : decode cX11_glide 15 = .ok (.iconst (-1), 1) := by decide +kernel
theorem dX11_glide_16 : decode cX11_glide 16 = .ok (.ireturn, 1) := by decide +kernel
theorem dX11_glide_17 : decode cX11_glide 17 = .ok (.aload_n 0, 1) := by decide +kernel
theorem dX11_glide_18 : decode cX11_glide 18 = .ok (.iload_n 2, 1) := by decide +kernel
theorem dX11_glide_19 : decode cX11_glide 19 = .ok (.aload_n 0, 1) := by decide +kernel
theorem dX11_glide_20 : decode cX11_glide 20 = .ok (.iload_n 1, 1) := by decide +kernel
theorem dX11_glide_21 : decode cX11_glide 21 = .ok (.invokevirtual 107, 3) := by decide +kernel
theorem dX11_glide_24 : decode cX11_glide 24 = .ok (.invokevirtual 116, 3) := by decide +kernel
theorem dX11_glide_27 : decode cX11_glide 27 = .ok (.ifCond .eq 12, 3) := by decide +kernel
theorem dX11_glide_30 : decode cX11_glide 30 = .ok (.aload_n 0, 1) := by decide +kernel
theorem dX11_glide_31 : decode cX11_glide 31 = .ok (.iload_n 1, 1) := by decide +kernel
theorem dX11_glide_32 : decode cX11_glide 32 = .ok (.iload_n 2, 1) := by decide +kernel
theorem dX11_glide_33 : decode cX11_glide 33 = .ok (.invokevirtual 96, 3) := by decide +kernel
theorem dX11_glide_36 : decode cX11_glide 36 = .ok (.ifCond .ne 6, 3) := by decide +kernel
theorem dX11_glide_39 : decode cX11_glide 39 = .ok (.bipush (-5), 2) := by decide +kernel
theorem dX11_glide_41 : decode cX11_glide 41 = .ok (.ireturn, 1) := by decide +kernel
theorem dX11_glide_42 : decode cX11_glide 42 = .ok (.aload_n 0, 1) := by decide +kernel
theorem dX11_glide_43 : decode cX11_glide 43 = .ok (.invokevirtual 48, 3) := by decide +kernel
theorem dX11_glide_46 : decode cX11_glide 46 = .ok (.aload_n 0, 1) := by decide +kernel
theorem dX11_glide_47 : decode cX11_glide 47 = .ok (.iload_n 1, 1) := by decide +kernel
theorem dX11_glide_48 : decode cX11_glide 48 = .ok (.iload_n 2, 1) := by decide +kernel
theorem dX11_glide_49 : decode cX11_glide 49 = .ok (.invokevirtual 119, 3) := by decide +kernel
theorem dX11_glide_52 : decode cX11_glide 52 = .ok (.ireturn, 1) := by decide +kernel
theorem dX11_findWay_0 : decode cX11_findWay 0 = .ok (.aload_n 0, 1) := by decide +kernel
theorem dX11_findWay_1 : decode cX11_findWay 1 = .ok (.iload_n 1, 1) := by decide +kernel
theorem dX11_findWay_2 : decode cX11_findWay 2 = .ok (.invokevirtual 122, 3) := by decide +kernel
theorem dX11_findWay_5 : decode cX11_findWay 5 = .ok (.istore_n 3, 1) := by decide +kernel
theorem dX11_findWay_6 : decode cX11_findWay 6 = .ok (.aload_n 0, 1) := by decide +kernel
theorem dX11_findWay_7 : decode cX11_findWay 7 = .ok (.iload_n 2, 1) := by decide +kernel
theorem dX11_findWay_8 : decode cX11_findWay 8 = .ok (.iload_n 3, 1) := by decide +kernel
theorem dX11_findWay_9 : decode cX11_findWay 9 = .ok (.iconst 1, 1) := by decide +kernel
theorem dX11_findWay_10 : decode cX11_findWay 10 = .ok (.invokevirtual 73, 3) := by decide +kernel
theorem dX11_findWay_13 : decode cX11_findWay 13 = .ok (.aload_n 0, 1) := by decide +kernel
theorem dX11_findWay_14 : decode cX11_findWay 14 = .ok (.iload_n 1, 1) := by decide +kernel
theorem dX11_findWay_15 : decode cX11_findWay 15 = .ok (.invokevirtual 107, 3) := by decide +kernel
theorem dX11_findWay_18 : decode cX11_findWay 18 = .ok (.istore 4, 2) := by decide +kernel
theorem dX11_findWay_20 : decode cX11_findWay 20 = .ok (.aload_n 0, 1) := by decide +kernel
theorem dX11_findWay_21 : decode cX11_findWay 21 = .ok (.aload_n 0, 1) := by decide +kernel
theorem dX11_findWay_22 : decode cX11_findWay 22 = .ok (.getfield 27, 3) := by decide +kernel
theorem dX11_findWay_25 : decode cX11_findWay 25 = .ok (.iload 4, 2) := by decide +kernel
theorem dX11_findWay_27 : decode cX11_findWay 27 = .ok (.iaload, 1) := by decide +kernel
theorem dX11_findWay_28 : decode cX11_findWay 28 = .ok (.ldc 68, 2) := by decide +kernel
theorem dX11_findWay_30 : decode cX11_findWay 30 = .ok (.if_icmp .lt 8, 3) := by decide +kernel
theorem dX11_findWay_33 : decode cX11_findWay 33 = .ok (.bipush (-6), 2) := by decide +kernel
theorem dX11_findWay_35 : decode cX11_findWay 35 = .ok (.goto 4, 3) := by decide +kernel
theorem dX11_findWay_38 : decode cX11_findWay 38 = .ok (.iconst 0, 1) := by decide +kernel
theorem dX11_findWay_39 : decode cX11_findWay 39 = .ok (.putfield 125, 3) := by decide +kernel
theorem dX11_findWay_42 : decode cX11_findWay 42 = .ok (.aload_n 0, 1) := by decide +kernel
theorem dX11_findWay_43 : decode cX11_findWay 43 = .ok (.iconst 0, 1) := by decide +kernel
theorem dX11_findWay_44 : decode cX11_findWay 44 = .ok (.putfield 128, 3) := by decide +kernel
theorem dX11_findWay_47 : decode cX11_findWay 47 = .ok (.aload_n 0, 1) := by decide +kernel
theorem dX11_findWay_48 : decode cX11_findWay 48 = .ok (.getfield 125, 3) := by decide +kernel
theorem dX11_findWay_51 : decode cX11_findWay 51 = .ok (.bipush (-6), 2) := by decide +kernel
theorem dX11_findWay_53 : decode cX11_findWay 53 = .ok (.if_icmp .eq 162, 3) := by decide +kernel
theorem dX11_findWay_56 : decode cX11_findWay 56 = .ok (.iload 4, 2) := by decide +kernel
theorem dX11_findWay_58 : decode cX11_findWay 58 = .ok (.iload_n 2, 1) := by decide +kernel
theorem dX11_findWay_59 : decode cX11_findWay 59 = .ok (.if_icmp .eq 156, 3) := by decide +kernel
theorem dX11_findWay_62 : decode cX11_findWay 62 = .ok (.bipush (-6), 2) := by decide +kernel
theorem dX11_findWay_64 : decode cX11_findWay 64 = .ok (.istore 5, 2) := by decide +kernel
theorem dX11_findWay_66 : decode cX11_findWay 66 = .ok (.aload_n 0, 1) := by decide +kernel
theorem dX11_findWay_67 : decode cX11_findWay 67 = .ok (.getfield 7, 3) := by decide +kernel
theorem dX11_findWay_70 : decode cX11_findWay 70 = .ok (.iconst 4, 1) := by decide +kernel
theorem dX11_findWay_71 : decode cX11_findWay 71 = .ok (.iaload, 1) := by decide +kernel
theorem dX11_findWay_72 : decode cX11_findWay 72 = .ok (.iconst 1, 1) := by decide +kernel
theorem dX11_findWay_73 : decode cX11_findWay 73 = .ok (.isub, 1) := by decide +kernel
theorem dX11_findWay_74 : decode cX11_findWay 74 = .ok (.istore 6, 2) := by decide +kernel
theorem dX11_findWay_76 : decode cX11_findWay 76 = .ok (.iload 6, 2) := by decide +kernel
theorem dX11_findWay_78 : decode cX11_findWay 78 = .ok (.ifCond .lt 87, 3) := by decide +kernel
theorem dX11_findWay_81 : decode cX11_findWay 81 = .ok (.iload_n 3, 1) := by decide +kernel
theorem dX11_findWay_82 : decode cX11_findWay 82 = .ok (.iload 6, 2) := by decide +kernel
theorem dX11_findWay_84 : decode cX11_findWay 84 = .ok (.ishr, 1) := by decide +kernel
theorem dX11_findWay_85 : decode cX11_findWay 85 = .ok (.iconst 1, 1) := by decide +kernel
theorem dX11_findWay_86 : decode cX11_findWay 86 = .ok (.iand, 1) := by decide +kernel
theorem dX11_findWay_87 : decode cX11_findWay 87 = .ok (.iconst 1, 1) := by decide +kernel
theorem dX11_findWay_88 : decode cX11_findWay 88 = .ok (.if_icmp .ne 54, 3) := by decide +kernel
theorem dX11_findWay_91 : decode cX11_findWay 91 = .ok (.aload_n 0, 1) := by decide +kernel
theorem dX11_findWay_92 : decode cX11_findWay 92 = .ok (.iload 6, 2) := by decide +kernel
theorem dX11_findWay_94 : decode cX11_findWay 94 = .ok (.iload 4, 2) := by decide +kernel
theorem dX11_findWay_96 : decode cX11_findWay 96 = .ok (.invokevirtual 116, 3) := by decide +kernel
theorem dX11_findWay_99 : decode cX11_findWay 99 = .ok (.ifCond .eq 43, 3) := by decide +kernel
theorem dX11_findWay_102 : decode cX11_findWay 102 = .ok (.aload_n 0, 1) := by decide +kernel
theorem dX11_findWay_103 : decode cX11_findWay 103 = .ok (.getfield 27, 3) := by decide +kernel
theorem dX11_findWay_106 : decode cX11_findWay 106 = .ok (.aload_n 0, 1) := by decide +kernel
theorem dX11_findWay_107 : decode cX11_findWay 107 = .ok (.iload 6, 2) := by decide +kernel
theorem dX11_findWay_109 : decode cX11_findWay 109 = .ok (.iload 4, 2) := by decide +kernel
theorem dX11_findWay_111 : decode cX11_findWay 111 = .ok (.invokevirtual 110, 3) := by decide +kernel
theorem dX11_findWay_114 : decode cX11_findWay 114 = .ok (.iaload, 1) := by decide +kernel
theorem dX11_findWay_115 : decode cX11_findWay 115 = .ok (.bipush 100, 2) := by decide +kernel
theorem dX11_findWay_117 : decode cX11_findWay 117 = .ok (.aload_n 0, 1) := by decide +kernel
theorem dX11_findWay_118 : decode cX11_findWay 118 = .ok (.iload 6, 2) := by decide +kernel
theorem dX11_findWay_120 : decode cX11_findWay 120 = .ok (.iconst 3, 1) := by decide +kernel
theorem dX11_findWay_121 : decode cX11_findWay 121 = .ok (.invokevirtual 65, 3) := by decide +kernel
theorem dX11_findWay_124 : decode cX11_findWay 124 = .ok (.imul, 1) := by decide +kernel
theorem dX11_findWay_125 : decode cX11_findWay 125 = .ok (.iadd, 1) := by decide +kernel
theorem dX11_findWay_126 : decode cX11_findWay 126 = .ok (.iconst 1, 1) := by decide +kernel
theorem dX11_findWay_127 : decode cX11_findWay 127 = .ok (.iadd, 1) := by decide +kernel
theorem dX11_findWay_128 : decode cX11_findWay 128 = .ok (.aload_n 0, 1) := by decide +kernel
theorem dX11_findWay_129 : decode cX11_findWay 129 = .ok (.getfield 27, 3) := by decide +kernel
theorem dX11_findWay_132 : decode cX11_findWay 132 = .ok (.iload 4, 2) := by decide +kernel
theorem dX11_findWay_134 : decode cX11_findWay 134 = .ok (.iaload, 1) := by decide +kernel
theorem dX11_findWay_135 : decode cX11_findWay 135 = .ok (.if_icmp .ne 7, 3) := by decide +kernel
theorem dX11_findWay_138 : decode cX11_findWay 138 = .ok (.iconst 1, 1) := by decide +kernel
theorem dX11_findWay_139 : decode cX11_findWay 139 = .ok (.goto 4, 3) := by decide +kernel
theorem dX11_findWay_142 : decode cX11_findWay 142 = .ok (.iconst 0, 1) := by decide +kernel
theorem dX11_findWay_143 : decode cX11_findWay 143 = .ok (.istore 7, 2) := by decide +kernel
theorem dX11_findWay_145 : decode cX11_findWay 145 = .ok (.iload 7, 2) := by decide +kernel
theorem dX11_findWay_147 : decode cX11_findWay 147 = .ok (.ifCond .eq 8, 3) := by decide +kernel
theorem dX11_findWay_150 : decode cX11_findWay 150 = .ok (.iload 6, 2) := by decide +kernel
theorem dX11_findWay_152 : decode cX11_findWay 152 = .ok (.goto 5, 3) := by decide +kernel
theorem dX11_findWay_155 : decode cX11_findWay 155 = .ok (.iload 5, 2) := by decide +kernel
theorem dX11_findWay_157 : decode cX11_findWay 157 = .ok (.istore 5, 2) := by decide +kernel
theorem dX11_findWay_159 : decode cX11_findWay 159 = .ok (.iinc 6 (-1), 3) := by decide +kernel
theorem dX11_findWay_162 : decode cX11_findWay 162 = .ok (.goto (-86), 3) := by decide +kernel
theorem dX11_findWay_165 : decode cX11_findWay 165 = .ok (.aload_n 0, 1) := by decide +kernel
theorem dX11_findWay_166 : decode cX11_findWay 166 = .ok (.getfield 30, 3) := by decide +kernel
theorem dX11_findWay_169 : decode cX11_findWay 169 = .ok (.aload_n 0, 1) := by decide +kernel
theorem dX11_findWay_170 : decode cX11_findWay 170 = .ok (.getfield 125, 3) := by decide +kernel
theorem dX11_findWay_173 : decode cX11_findWay 173 = .ok (.iload 5, 2) := by decide +kernel
theorem dX11_findWay_175 : decode cX11_findWay 175 = .ok (.iastore, 1) := by decide +kernel
theorem dX11_findWay_176 : decode cX11_findWay 176 = .ok (.aload_n 0, 1) := by decide +kernel
theorem dX11_findWay_177 : decode cX11_findWay 177 = .ok (.dup, 1) := by decide +kernel
theorem dX11_findWay_178 : decode cX11_findWay 178 = .ok (.getfield 125, 3) := by decide +kernel
theorem dX11_findWay_181 : decode cX11_findWay 181 = .ok (.iconst 1, 1) := by decide +kernel
theorem dX11_findWay_182 : decode cX11_findWay 182 = .ok (.iadd, 1) := by decide +kernel
theorem dX11_findWay_183 : decode cX11_findWay 183 = .ok (.putfield 125, 3) := by decide +kernel
theorem dX11_findWay_186 : decode cX11_findWay 186 = .ok (.aload_n 0, 1) := by decide +kernel
theorem dX11_findWay_187 : decode cX11_findWay 187 = .ok (.dup, 1) := by decide +kernel
theorem dX11_findWay_188 : decode cX11_findWay 188 = .ok (.getfield 128, 3) := by decide +kernel
theorem dX11_findWay_191 : decode cX11_findWay 191 = .ok (.aload_n 0, 1) := by decide +kernel
theorem dX11_findWay_192 : decode cX11_findWay 192 = .ok (.iload 5, 2) := by decide +kernel
theorem dX11_findWay_194 : decode cX11_findWay 194 = .ok (.iconst 3, 1) := by decide +kernel
theorem dX11_findWay_195 : decode cX11_findWay 195 = .ok (.invokevirtual 65, 3) := by decide +kernel
theorem dX11_findWay_198 : decode cX11_findWay 198 = .ok (.iadd, 1) := by decide +kernel
theorem dX11_findWay_199 : decode cX11_findWay 199 = .ok (.putfield 128, 3) := by decide +kernel
theorem dX11_findWay_202 : decode cX11_findWay 202 = .ok (.aload_n 0, 1) := by decide +kernel
theorem dX11_findWay_203 : decode cX11_findWay 203 = .ok (.iload 5, 2) := by decide +kernel
theorem dX11_findWay_205 : decode cX11_findWay 205 = .ok (.iload 4, 2) := by decide +kernel
theorem dX11_findWay_207 : decode cX11_findWay 207 = .ok (.invokevirtual 110, 3) := by decide +kernel
theorem dX11_findWay_210 : decode cX11_findWay 210 = .ok (.istore 4, 2) := by decide +kernel
theorem dX11_findWay_212 : decode cX11_findWay 212 = .ok (.goto (-165), 3) := by decide +kernel
theorem dX11_findWay_215 : decode cX11_findWay 215 = .ok (.return_, 1) := by decide +kernel
theorem dX11_soonest_0 : decode cX11_soonest 0 = .ok (.iload_n 1, 1) := by decide +kernel
theorem dX11_soonest_1 : decode cX11_soonest 1 = .ok (.invokestatic 104, 3) := by decide +kernel
theorem dX11_soonest_4 : decode cX11_soonest 4 = .ok (.ifCond .eq 10, 3) := by decide +kernel
theorem dX11_soonest_7 : decode cX11_soonest 7 = .ok (.iload_n 2, 1) := by decide +kernel
theorem dX11_soonest_8 : decode cX11_soonest 8 = .ok (.invokestatic 51, 3) := by decide +kernel
theorem dX11_soonest_11 : decode cX11_soonest 11 = .ok (.ifCond .ne 5, 3) := by decide +kernel
theorem dX11_soonest_14 : decode cX11_soonest 14 = .ok (.iconst (-1), 1) := by decide +kernel
theorem dX11_soonest_15 : decode cX11_soonest 15 = .ok (.ireturn, 1) := by decide +kernel
theorem dX11_soonest_16 : decode cX11_soonest 16 = .ok (.iload_n 3, 1) := by decide +kernel
theorem dX11_soonest_17 : decode cX11_soonest 17 = .ok (.ifCond .ge 6, 3) := by decide +kernel
theorem dX11_soonest_20 : decode cX11_soonest 20 = .ok (.bipush (-2), 2) := by decide +kernel
theorem dX11_soonest_22 : decode cX11_soonest 22 = .ok (.ireturn, 1) := by decide +kernel
theorem dX11_soonest_23 : decode cX11_soonest 23 = .ok (.aload_n 0, 1) := by decide +kernel
theorem dX11_soonest_24 : decode cX11_soonest 24 = .ok (.iload_n 1, 1) := by decide +kernel
theorem dX11_soonest_25 : decode cX11_soonest 25 = .ok (.iload_n 2, 1) := by decide +kernel
theorem dX11_soonest_26 : decode cX11_soonest 26 = .ok (.invokevirtual 131, 3) := by decide +kernel
theorem dX11_soonest_29 : decode cX11_soonest 29 = .ok (.aload_n 0, 1) := by decide +kernel
theorem dX11_soonest_30 : decode cX11_soonest 30 = .ok (.getfield 125, 3) := by decide +kernel
theorem dX11_soonest_33 : decode cX11_soonest 33 = .ok (.bipush (-6), 2) := by decide +kernel
theorem dX11_soonest_35 : decode cX11_soonest 35 = .ok (.if_icmp .ne 6, 3) := by decide +kernel
theorem dX11_soonest_38 : decode cX11_soonest 38 = .ok (.bipush (-6), 2) := by decide +kernel
theorem dX11_soonest_40 : decode cX11_soonest 40 = .ok (.ireturn, 1) := by decide +kernel
theorem dX11_soonest_41 : decode cX11_soonest 41 = .ok (.iload_n 3, 1) := by decide +kernel
theorem dX11_soonest_42 : decode cX11_soonest 42 = .ok (.ifCond .ne 10, 3) := by decide +kernel
theorem dX11_soonest_45 : decode cX11_soonest 45 = .ok (.aload_n 0, 1) := by decide +kernel
theorem dX11_soonest_46 : decode cX11_soonest 46 = .ok (.getfield 128, 3) := by decide +kernel
theorem dX11_soonest_49 : decode cX11_soonest 49 = .ok (.goto 38, 3) := by decide +kernel
theorem dX11_soonest_52 : decode cX11_soonest 52 = .ok (.iload_n 3, 1) := by decide +kernel
theorem dX11_soonest_53 : decode cX11_soonest 53 = .ok (.iconst 1, 1) := by decide +kernel
theorem dX11_soonest_54 : decode cX11_soonest 54 = .ok (.if_icmp .ne 10, 3) := by decide +kernel
theorem dX11_soonest_57 : decode cX11_soonest 57 = .ok (.aload_n 0, 1) := by decide +kernel
theorem dX11_soonest_58 : decode cX11_soonest 58 = .ok (.getfield 125, 3) := by decide +kernel
theorem dX11_soonest_61 : decode cX11_soonest 61 = .ok (.goto 26, 3) := by decide +kernel
theorem dX11_soonest_64 : decode cX11_soonest 64 = .ok (.iload_n 3, 1) := by decide +kernel
theorem dX11_soonest_65 : decode cX11_soonest 65 = .ok (.iconst 2, 1) := by decide +kernel
theorem dX11_soonest_66 : decode cX11_soonest 66 = .ok (.isub, 1) := by decide +kernel
theorem dX11_soonest_67 : decode cX11_soonest 67 = .ok (.aload_n 0, 1) := by decide +kernel
theorem dX11_soonest_68 : decode cX11_soonest 68 = .ok (.getfield 125, 3) := by decide +kernel
theorem dX11_soonest_71 : decode cX11_soonest 71 = .ok (.if_icmp .ge 14, 3) := by decide +kernel
theorem dX11_soonest_74 : decode cX11_soonest 74 = .ok (.aload_n 0, 1) := by decide +kernel
theorem dX11_soonest_75 : decode cX11_soonest 75 = .ok (.getfield 30, 3) := by decide +kernel
theorem dX11_soonest_78 : decode cX11_soonest 78 = .ok (.iload_n 3, 1) := by decide +kernel
theorem dX11_soonest_79 : decode cX11_soonest 79 = .ok (.iconst 2, 1) := by decide +kernel
theorem dX11_soonest_80 : decode cX11_soonest 80 = .ok (.isub, 1) := by decide +kernel
theorem dX11_soonest_81 : decode cX11_soonest 81 = .ok (.iaload, 1) := by decide +kernel
theorem dX11_soonest_82 : decode cX11_soonest 82 = .ok (.goto 5, 3) := by decide +kernel
theorem dX11_soonest_85 : decode cX11_soonest 85 = .ok (.bipush (-6), 2) := by decide +kernel
theorem dX11_soonest_87 : decode cX11_soonest 87 = .ok (.ireturn, 1) := by decide +kernel
theorem dX11_go_0 : decode cX11_go 0 = .ok (.iload_n 1, 1) := by decide +kernel
theorem dX11_go_1 : decode cX11_go 1 = .ok (.invokestatic 104, 3) := by decide +kernel
theorem dX11_go_4 : decode cX11_go 4 = .ok (.ifCond .eq 10, 3) := by decide +kernel
theorem dX11_go_7 : decode cX11_go 7 = .ok (.iload_n 2, 1) := by decide +kernel
theorem dX11_go_8 : decode cX11_go 8 = .ok (.invokestatic 51, 3) := by decide +kernel
theorem dX11_go_11 : decode cX11_go 11 = .ok (.ifCond .ne 5, 3) := by decide +kernel
theorem dX11_go_14 : decode cX11_go 14 = .ok (.iconst (-1), 1) := by decide +kernel
theorem dX11_go_15 : decode cX11_go 15 = .ok (.ireturn, 1) := by decide +kernel
theorem dX11_go_16 : decode cX11_go 16 = .ok (.aload_n 0, 1) := by decide +kernel
theorem dX11_go_17 : decode cX11_go 17 = .ok (.iload_n 1, 1) := by decide +kernel
theorem dX11_go_18 : decode cX11_go 18 = .ok (.iload_n 2, 1) := by decide +kernel
theorem dX11_go_19 : decode cX11_go 19 = .ok (.invokevirtual 131, 3) := by decide +kernel
theorem dX11_go_22 : decode cX11_go 22 = .ok (.aload_n 0, 1) := by decide +kernel
theorem dX11_go_23 : decode cX11_go 23 = .ok (.getfield 125, 3) := by decide +kernel
theorem dX11_go_26 : decode cX11_go 26 = .ok (.bipush (-6), 2) := by decide +kernel
theorem dX11_go_28 : decode cX11_go 28 = .ok (.if_icmp .ne 6, 3) := by decide +kernel
theorem dX11_go_31 : decode cX11_go 31 = .ok (.bipush (-5), 2) := by decide +kernel
theorem dX11_go_33 : decode cX11_go 33 = .ok (.ireturn, 1) := by decide +kernel
theorem dX11_go_34 : decode cX11_go 34 = .ok (.aload_n 0, 1) := by decide +kernel
theorem dX11_go_35 : decode cX11_go 35 = .ok (.invokevirtual 48, 3) := by decide +kernel
theorem dX11_go_38 : decode cX11_go 38 = .ok (.iconst 1, 1) := by decide +kernel
theorem dX11_go_39 : decode cX11_go 39 = .ok (.istore_n 3, 1) := by decide +kernel
theorem dX11_go_40 : decode cX11_go 40 = .ok (.iconst 0, 1) := by decide +kernel
theorem dX11_go_41 : decode cX11_go 41 = .ok (.istore 4, 2) := by decide +kernel
theorem dX11_go_43 : decode cX11_go 43 = .ok (.iload 4, 2) := by decide +kernel
theorem dX11_go_45 : decode cX11_go 45 = .ok (.aload_n 0, 1) := by decide +kernel
theorem dX11_go_46 : decode cX11_go 46 = .ok (.getfield 125, 3) := by decide +kernel
theorem dX11_go_49 : decode cX11_go 49 = .ok (.if_icmp .ge 43, 3) := by decide +kernel
theorem dX11_go_52 : decode cX11_go 52 = .ok (.iload_n 3, 1) := by decide +kernel
theorem dX11_go_53 : decode cX11_go 53 = .ok (.ifCond .eq 39, 3) := by decide +kernel
theorem dX11_go_56 : decode cX11_go 56 = .ok (.aload_n 0, 1) := by decide +kernel
theorem dX11_go_57 : decode cX11_go 57 = .ok (.iload_n 1, 1) := by decide +kernel
theorem dX11_go_58 : decode cX11_go 58 = .ok (.aload_n 0, 1) := by decide +kernel
theorem dX11_go_59 : decode cX11_go 59 = .ok (.getfield 30, 3) := by decide +kernel
theorem dX11_go_62 : decode cX11_go 62 = .ok (.iload 4, 2) := by decide +kernel
theorem dX11_go_64 : decode cX11_go 64 = .ok (.iaload, 1) := by decide +kernel
theorem dX11_go_65 : decode cX11_go 65 = .ok (.invokevirtual 96, 3) := by decide +kernel
theorem dX11_go_68 : decode cX11_go 68 = .ok (.istore_n 3, 1) := by decide +kernel
theorem dX11_go_69 : decode cX11_go 69 = .ok (.iload_n 3, 1) := by decide +kernel
theorem dX11_go_70 : decode cX11_go 70 = .ok (.ifCond .eq 16, 3) := by decide +kernel
theorem dX11_go_73 : decode cX11_go 73 = .ok (.aload_n 0, 1) := by decide +kernel
theorem dX11_go_74 : decode cX11_go 74 = .ok (.iload_n 1, 1) := by decide +kernel
theorem dX11_go_75 : decode cX11_go 75 = .ok (.aload_n 0, 1) := by decide +kernel
theorem dX11_go_76 : decode cX11_go 76 = .ok (.getfield 30, 3) := by decide +kernel
theorem dX11_go_79 : decode cX11_go 79 = .ok (.iload 4, 2) := by decide +kernel
theorem dX11_go_81 : decode cX11_go 81 = .ok (.iaload, 1) := by decide +kernel
theorem dX11_go_82 : decode cX11_go 82 = .ok (.invokevirtual 119, 3) := by decide +kernel
theorem dX11_go_85 : decode cX11_go 85 = .ok (.pop, 1) := by decide +kernel
theorem dX11_go_86 : decode cX11_go 86 = .ok (.iinc 4 1, 3) := by decide +kernel
theorem dX11_go_89 : decode cX11_go 89 = .ok (.goto (-46), 3) := by decide +kernel
theorem dX11_go_92 : decode cX11_go 92 = .ok (.aload_n 0, 1) := by decide +kernel
theorem dX11_go_93 : decode cX11_go 93 = .ok (.iload_n 1, 1) := by decide +kernel
theorem dX11_go_94 : decode cX11_go 94 = .ok (.invokevirtual 107, 3) := by decide +kernel
theorem dX11_go_97 : decode cX11_go 97 = .ok (.ireturn, 1) := by decide +kernel
theorem dX11_reached_0 : decode cX11_reached 0 = .ok (.aload_n 0, 1) := by decide +kernel
theorem dX11_reached_1 : decode cX11_reached 1 = .ok (.iload_n 1, 1) := by decide +kernel
theorem dX11_reached_2 : decode cX11_reached 2 = .ok (.iload_n 2, 1) := by decide +kernel
theorem dX11_reached_3 : decode cX11_reached 3 = .ok (.iconst 0, 1) := by decide +kernel
theorem dX11_reached_4 : decode cX11_reached 4 = .ok (.invokevirtual 73, 3) := by decide +kernel
theorem dX11_reached_7 : decode cX11_reached 7 = .ok (.iconst 0, 1) := by decide +kernel
theorem dX11_reached_8 : decode cX11_reached 8 = .ok (.istore_n 3, 1) := by decide +kernel
theorem dX11_reached_9 : decode cX11_reached 9 = .ok (.iconst 0, 1) := by decide +kernel
theorem dX11_reached_10 : decode cX11_reached 10 = .ok (.istore 4, 2) := by decide +kernel
theorem dX11_reached_12 : decode cX11_reached 12 = .ok (.iload 4, 2) := by decide +kernel
theorem dX11_reached_14 : decode cX11_reached 14 = .ok (.bipush 10, 2) := by decide +kernel
theorem dX11_reached_16 : decode cX11_reached 16 = .ok (.if_icmp .ge 32, 3) := by decide +kernel
theorem dX11_reached_19 : decode cX11_reached 19 = .ok (.iload_n 3, 1) := by decide +kernel
theorem dX11_reached_20 : decode cX11_reached 20 = .ok (.aload_n 0, 1) := by decide +kernel
theorem dX11_reached_21 : decode cX11_reached 21 = .ok (.getfield 27, 3) := by decide +kernel
theorem dX11_reached_24 : decode cX11_reached 24 = .ok (.iload 4, 2) := by decide +kernel
theorem dX11_reached_26 : decode cX11_reached 26 = .ok (.iaload, 1) := by decide +kernel
theorem dX11_reached_27 : decode cX11_reached 27 = .ok (.ldc 68, 2) := by decide +kernel
theorem dX11_reached_29 : decode cX11_reached 29 = .ok (.if_icmp .ge 10, 3) := by decide +kernel
theorem dX11_reached_32 : decode cX11_reached 32 = .ok (.iconst 1, 1) := by decide +kernel
theorem dX11_reached_33 : decode cX11_reached 33 = .ok (.iload 4, 2) := by decide +kernel
theorem dX11_reached_35 : decode cX11_reached 35 = .ok (.ishl, 1) := by decide +kernel
theorem dX11_reached_36 : decode cX11_reached 36 = .ok (.goto 4, 3) := by decide +kernel
theorem dX11_reached_39 : decode cX11_reached 39 = .ok (.iconst 0, 1) := by decide +kernel
theorem dX11_reached_40 : decode cX11_reached 40 = .ok (.ior, 1) := by decide +kernel
theorem dX11_reached_41 : decode cX11_reached 41 = .ok (.istore_n 3, 1) := by decide +kernel
theorem dX11_reached_42 : decode cX11_reached 42 = .ok (.iinc 4 1, 3) := by decide +kernel
theorem dX11_reached_45 : decode cX11_reached 45 = .ok (.goto (-33), 3) := by decide +kernel
theorem dX11_reached_48 : decode cX11_reached 48 = .ok (.iload_n 3, 1) := by decide +kernel
theorem dX11_reached_49 : decode cX11_reached 49 = .ok (.ireturn, 1) := by decide +kernel
theorem dX11_quietest_0 : decode cX11_quietest 0 = .ok (.iload_n 1, 1) := by decide +kernel
theorem dX11_quietest_1 : decode cX11_quietest 1 = .ok (.invokestatic 104, 3) := by decide +kernel
theorem dX11_quietest_4 : decode cX11_quietest 4 = .ok (.ifCond .eq 10, 3) := by decide +kernel
theorem dX11_quietest_7 : decode cX11_quietest 7 = .ok (.iload_n 2, 1) := by decide +kernel
theorem dX11_quietest_8 : decode cX11_quietest 8 = .ok (.invokestatic 51, 3) := by decide +kernel
theorem dX11_quietest_11 : decode cX11_quietest 11 = .ok (.ifCond .ne 5, 3) := by decide +kernel
theorem dX11_quietest_14 : decode cX11_quietest 14 = .ok (.iconst (-1), 1) := by decide +kernel
theorem dX11_quietest_15 : decode cX11_quietest 15 = .ok (.ireturn, 1) := by decide +kernel
theorem dX11_quietest_16 : decode cX11_quietest 16 = .ok (.aload_n 0, 1) := by decide +kernel
theorem dX11_quietest_17 : decode cX11_quietest 17 = .ok (.iload_n 1, 1) := by decide +kernel
theorem dX11_quietest_18 : decode cX11_quietest 18 = .ok (.invokevirtual 107, 3) := by decide +kernel
theorem dX11_quietest_21 : decode cX11_quietest 21 = .ok (.iload_n 2, 1) := by decide +kernel
theorem dX11_quietest_22 : decode cX11_quietest 22 = .ok (.if_icmp .ne 5, 3) := by decide +kernel
theorem dX11_quietest_25 : decode cX11_quietest 25 = .ok (.iconst 0, 1) := by decide +kernel
theorem dX11_quietest_26 : decode cX11_quietest 26 = .ok (.ireturn, 1) := by decide +kernel
theorem dX11_quietest_27 : decode cX11_quietest 27 = .ok (.aload_n 0, 1) := by decide +kernel
theorem dX11_quietest_28 : decode cX11_quietest 28 = .ok (.iload_n 1, 1) := by decide +kernel
theorem dX11_quietest_29 : decode cX11_quietest 29 = .ok (.invokevirtual 122, 3) := by decide +kernel
theorem dX11_quietest_32 : decode cX11_quietest 32 = .ok (.istore_n 3, 1) := by decide +kernel
theorem dX11_quietest_33 : decode cX11_quietest 33 = .ok (.iconst 0, 1) := by decide +kernel
theorem dX11_quietest_34 : decode cX11_quietest 34 = .ok (.istore 4, 2) := by decide +kernel
theorem dX11_quietest_36 : decode cX11_quietest 36 = .ok (.iconst 1, 1) := by decide +kernel
theorem dX11_quietest_37 : decode cX11_quietest 37 = .ok (.istore 5, 2) := by decide +kernel
theorem dX11_quietest_39 : decode cX11_quietest 39 = .ok (.iload 5, 2) := by decide +kernel
theorem dX11_quietest_41 : decode cX11_quietest 41 = .ok (.bipush 9, 2) := by decide +kernel
theorem dX11_quietest_43 : decode cX11_quietest 43 = .ok (.if_icmp .gt 86, 3) := by decide +kernel
theorem dX11_quietest_46 : decode cX11_quietest 46 = .ok (.iconst 0, 1) := by decide +kernel
theorem dX11_quietest_47 : decode cX11_quietest 47 = .ok (.istore 6, 2) := by decide +kernel
theorem dX11_quietest_49 : decode cX11_quietest 49 = .ok (.iload 6, 2) := by decide +kernel
theorem dX11_quietest_51 : decode cX11_quietest 51 = .ok (.aload_n 0, 1) := by decide +kernel
theorem dX11_quietest_52 : decode cX11_quietest 52 = .ok (.getfield 7, 3) := by decide +kernel
theorem dX11_quietest_55 : decode cX11_quietest 55 = .ok (.iconst 4, 1) := by decide +kernel
theorem dX11_quietest_56 : decode cX11_quietest 56 = .ok (.iaload, 1) := by decide +kernel
theorem dX11_quietest_57 : decode cX11_quietest 57 = .ok (.if_icmp .ge 44, 3) := by decide +kernel
theorem dX11_quietest_60 : decode cX11_quietest 60 = .ok (.iload 4, 2) := by decide +kernel
theorem dX11_quietest_62 : decode cX11_quietest 62 = .ok (.iload_n 3, 1) := by decide +kernel
theorem dX11_quietest_63 : decode cX11_quietest 63 = .ok (.iload 6, 2) := by decide +kernel
theorem dX11_quietest_65 : decode cX11_quietest 65 = .ok (.ishr, 1) := by decide +kernel
theorem dX11_quietest_66 : decode cX11_quietest 66 = .ok (.iconst 1, 1) := by decide +kernel
theorem dX11_quietest_67 : decode cX11_quietest 67 = .ok (.iand, 1) := by decide +kernel
theorem dX11_quietest_68 : decode cX11_quietest 68 = .ok (.iconst 1, 1) := by decide +kernel
theorem dX11_quietest_69 : decode cX11_quietest 69 = .ok (.if_icmp .ne 22, 3) := by decide +kernel
theorem dX11_quietest_72 : decode cX11_quietest 72 = .ok (.aload_n 0, 1) := by decide +kernel
theorem dX11_quietest_73 : decode cX11_quietest 73 = .ok (.iload 6, 2) := by decide +kernel
theorem dX11_quietest_75 : decode cX11_quietest 75 = .ok (.iconst 2, 1) := by decide +kernel
theorem dX11_quietest_76 : decode cX11_quietest 76 = .ok (.invokevirtual 65, 3) := by decide +kernel
theorem dX11_quietest_79 : decode cX11_quietest 79 = .ok (.iload 5, 2) := by decide +kernel
theorem dX11_quietest_81 : decode cX11_quietest 81 = .ok (.if_icmp .ne 10, 3) := by decide +kernel
theorem dX11_quietest_84 : decode cX11_quietest 84 = .ok (.iconst 1, 1) := by decide +kernel
theorem dX11_quietest_85 : decode cX11_quietest 85 = .ok (.iload 6, 2) := by decide +kernel
theorem dX11_quietest_87 : decode cX11_quietest 87 = .ok (.ishl, 1) := by decide +kernel
theorem dX11_quietest_88 : decode cX11_quietest 88 = .ok (.goto 4, 3) := by decide +kernel
theorem dX11_quietest_91 : decode cX11_quietest 91 = .ok (.iconst 0, 1) := by decide +kernel
theorem dX11_quietest_92 : decode cX11_quietest 92 = .ok (.ior, 1) := by decide +kernel
theorem dX11_quietest_93 : decode cX11_quietest 93 = .ok (.istore 4, 2) := by decide +kernel
theorem dX11_quietest_95 : decode cX11_quietest 95 = .ok (.iinc 6 1, 3) := by decide +kernel
theorem dX11_quietest_98 : decode cX11_quietest 98 = .ok (.goto (-49), 3) := by decide +kernel
theorem dX11_quietest_101 : decode cX11_quietest 101 = .ok (.aload_n 0, 1) := by decide +kernel
theorem dX11_quietest_102 : decode cX11_quietest 102 = .ok (.aload_n 0, 1) := by decide +kernel
theorem dX11_quietest_103 : decode cX11_quietest 103 = .ok (.iload_n 1, 1) := by decide +kernel
theorem dX11_quietest_104 : decode cX11_quietest 104 = .ok (.invokevirtual 107, 3) := by decide +kernel
theorem dX11_quietest_107 : decode cX11_quietest 107 = .ok (.iload 4, 2) := by decide +kernel
theorem dX11_quietest_109 : decode cX11_quietest 109 = .ok (.invokevirtual 135, 3) := by decide +kernel
theorem dX11_quietest_112 : decode cX11_quietest 112 = .ok (.iload_n 2, 1) := by decide +kernel
theorem dX11_quietest_113 : decode cX11_quietest 113 = .ok (.ishr, 1) := by decide +kernel
theorem dX11_quietest_114 : decode cX11_quietest 114 = .ok (.iconst 1, 1) := by decide +kernel
theorem dX11_quietest_115 : decode cX11_quietest 115 = .ok (.iand, 1) := by decide +kernel
theorem dX11_quietest_116 : decode cX11_quietest 116 = .ok (.iconst 1, 1) := by decide +kernel
theorem dX11_quietest_117 : decode cX11_quietest 117 = .ok (.if_icmp .ne 6, 3) := by decide +kernel
theorem dX11_quietest_120 : decode cX11_quietest 120 = .ok (.iload 5, 2) := by decide +kernel
theorem dX11_quietest_122 : decode cX11_quietest 122 = .ok (.ireturn, 1) := by decide +kernel
theorem dX11_quietest_123 : decode cX11_quietest 123 = .ok (.iinc 5 1, 3) := by decide +kernel
theorem dX11_quietest_126 : decode cX11_quietest 126 = .ok (.goto (-87), 3) := by decide +kernel
theorem dX11_quietest_129 : decode cX11_quietest 129 = .ok (.bipush (-6), 2) := by decide +kernel
theorem dX11_quietest_131 : decode cX11_quietest 131 = .ok (.ireturn, 1) := by decide +kernel
theorem dX11_boardsAt_0 : decode cX11_boardsAt 0 = .ok (.iconst 0, 1) := by decide +kernel
theorem dX11_boardsAt_1 : decode cX11_boardsAt 1 = .ok (.istore_n 3, 1) := by decide +kernel
theorem dX11_boardsAt_2 : decode cX11_boardsAt 2 = .ok (.iconst 0, 1) := by decide +kernel
theorem dX11_boardsAt_3 : decode cX11_boardsAt 3 = .ok (.istore 4, 2) := by decide +kernel
theorem dX11_boardsAt_5 : decode cX11_boardsAt 5 = .ok (.iload 4, 2) := by decide +kernel
theorem dX11_boardsAt_7 : decode cX11_boardsAt 7 = .ok (.aload_n 0, 1) := by decide +kernel
theorem dX11_boardsAt_8 : decode cX11_boardsAt 8 = .ok (.getfield 7, 3) := by decide +kernel
theorem dX11_boardsAt_11 : decode cX11_boardsAt 11 = .ok (.iconst 4, 1) := by decide +kernel
theorem dX11_boardsAt_12 : decode cX11_boardsAt 12 = .ok (.iaload, 1) := by decide +kernel
theorem dX11_boardsAt_13 : decode cX11_boardsAt 13 = .ok (.if_icmp .ge 37, 3) := by decide +kernel
theorem dX11_boardsAt_16 : decode cX11_boardsAt 16 = .ok (.iload_n 3, 1) := by decide +kernel
theorem dX11_boardsAt_17 : decode cX11_boardsAt 17 = .ok (.iload_n 2, 1) := by decide +kernel
theorem dX11_boardsAt_18 : decode cX11_boardsAt 18 = .ok (.iload 4, 2) := by decide +kernel
theorem dX11_boardsAt_20 : decode cX11_boardsAt 20 = .ok (.ishr, 1) := by decide +kernel
theorem dX11_boardsAt_21 : decode cX11_boardsAt 21 = .ok (.iconst 1, 1) := by decide +kernel
theorem dX11_boardsAt_22 : decode cX11_boardsAt 22 = .ok (.iand, 1) := by decide +kernel
theorem dX11_boardsAt_23 : decode cX11_boardsAt 23 = .ok (.iconst 1, 1) := by decide +kernel
theorem dX11_boardsAt_24 : decode cX11_boardsAt 24 = .ok (.if_icmp .ne 17, 3) := by decide +kernel
theorem dX11_boardsAt_27 : decode cX11_boardsAt 27 = .ok (.aload_n 0, 1) := by decide +kernel
theorem dX11_boardsAt_28 : decode cX11_boardsAt 28 = .ok (.iload 4, 2) := by decide +kernel
theorem dX11_boardsAt_30 : decode cX11_boardsAt 30 = .ok (.iload_n 1, 1) := by decide +kernel
theorem dX11_boardsAt_31 : decode cX11_boardsAt 31 = .ok (.invokevirtual 116, 3) := by decide +kernel
theorem dX11_boardsAt_34 : decode cX11_boardsAt 34 = .ok (.ifCond .eq 7, 3) := by decide +kernel
theorem dX11_boardsAt_37 : decode cX11_boardsAt 37 = .ok (.iconst 1, 1) := by decide +kernel
theorem dX11_boardsAt_38 : decode cX11_boardsAt 38 = .ok (.goto 4, 3) := by decide +kernel
theorem dX11_boardsAt_41 : decode cX11_boardsAt 41 = .ok (.iconst 0, 1) := by decide +kernel
theorem dX11_boardsAt_42 : decode cX11_boardsAt 42 = .ok (.iadd, 1) := by decide +kernel
theorem dX11_boardsAt_43 : decode cX11_boardsAt 43 = .ok (.istore_n 3, 1) := by decide +kernel
theorem dX11_boardsAt_44 : decode cX11_boardsAt 44 = .ok (.iinc 4 1, 3) := by decide +kernel
theorem dX11_boardsAt_47 : decode cX11_boardsAt 47 = .ok (.goto (-42), 3) := by decide +kernel
theorem dX11_boardsAt_50 : decode cX11_boardsAt 50 = .ok (.iload_n 3, 1) := by decide +kernel
theorem dX11_boardsAt_51 : decode cX11_boardsAt 51 = .ok (.ireturn, 1) := by decide +kernel
theorem dX11_whyNot_0 : decode cX11_whyNot 0 = .ok (.iload_n 2, 1) := by decide +kernel
theorem dX11_whyNot_1 : decode cX11_whyNot 1 = .ok (.ifCond .ne 5, 3) := by decide +kernel
theorem dX11_whyNot_4 : decode cX11_whyNot 4 = .ok (.iconst 1, 1) := by decide +kernel
theorem dX11_whyNot_5 : decode cX11_whyNot 5 = .ok (.ireturn, 1) := by decide +kernel
theorem dX11_whyNot_6 : decode cX11_whyNot 6 = .ok (.aload_n 0, 1) := by decide +kernel
theorem dX11_whyNot_7 : decode cX11_whyNot 7 = .ok (.iload_n 1, 1) := by decide +kernel
theorem dX11_whyNot_8 : decode cX11_whyNot 8 = .ok (.iload_n 2, 1) := by decide +kernel
theorem dX11_whyNot_9 : decode cX11_whyNot 9 = .ok (.invokevirtual 138, 3) := by decide +kernel
theorem dX11_whyNot_12 : decode cX11_whyNot 12 = .ok (.ifCond .ne 5, 3) := by decide +kernel
theorem dX11_whyNot_15 : decode cX11_whyNot 15 = .ok (.iconst 2, 1) := by decide +kernel
theorem dX11_whyNot_16 : decode cX11_whyNot 16 = .ok (.ireturn, 1) := by decide +kernel
theorem dX11_whyNot_17 : decode cX11_whyNot 17 = .ok (.aload_n 0, 1) := by decide +kernel
theorem dX11_whyNot_18 : decode cX11_whyNot 18 = .ok (.iload_n 1, 1) := by decide +kernel
theorem dX11_whyNot_19 : decode cX11_whyNot 19 = .ok (.iload_n 2, 1) := by decide +kernel
theorem dX11_whyNot_20 : decode cX11_whyNot 20 = .ok (.invokevirtual 135, 3) := by decide +kernel
theorem dX11_whyNot_23 : decode cX11_whyNot 23 = .ok (.istore_n 3, 1) := by decide +kernel
theorem dX11_whyNot_24 : decode cX11_whyNot 24 = .ok (.iconst 0, 1) := by decide +kernel
theorem dX11_whyNot_25 : decode cX11_whyNot 25 = .ok (.istore 4, 2) := by decide +kernel
theorem dX11_whyNot_27 : decode cX11_whyNot 27 = .ok (.iconst 0, 1) := by decide +kernel
theorem dX11_whyNot_28 : decode cX11_whyNot 28 = .ok (.istore 5, 2) := by decide +kernel
theorem dX11_whyNot_30 : decode cX11_whyNot 30 = .ok (.iload 5, 2) := by decide +kernel
theorem dX11_whyNot_32 : decode cX11_whyNot 32 = .ok (.bipush 10, 2) := by decide +kernel
theorem dX11_whyNot_34 : decode cX11_whyNot 34 = .ok (.if_icmp .ge 43, 3) := by decide +kernel
theorem dX11_whyNot_37 : decode cX11_whyNot 37 = .ok (.aload_n 0, 1) := by decide +kernel
theorem dX11_whyNot_38 : decode cX11_whyNot 38 = .ok (.iload 5, 2) := by decide +kernel
theorem dX11_whyNot_40 : decode cX11_whyNot 40 = .ok (.iload_n 2, 1) := by decide +kernel
theorem dX11_whyNot_41 : decode cX11_whyNot 41 = .ok (.invokevirtual 138, 3) := by decide +kernel
theorem dX11_whyNot_44 : decode cX11_whyNot 44 = .ok (.istore 6, 2) := by decide +kernel
theorem dX11_whyNot_46 : decode cX11_whyNot 46 = .ok (.iload 6, 2) := by decide +kernel
theorem dX11_whyNot_48 : decode cX11_whyNot 48 = .ok (.ifCond .le 14, 3) := by decide +kernel
theorem dX11_whyNot_51 : decode cX11_whyNot 51 = .ok (.iload_n 3, 1) := by decide +kernel
theorem dX11_whyNot_52 : decode cX11_whyNot 52 = .ok (.iload 5, 2) := by decide +kernel
theorem dX11_whyNot_54 : decode cX11_whyNot 54 = .ok (.ishr, 1) := by decide +kernel
theorem dX11_whyNot_55 : decode cX11_whyNot 55 = .ok (.iconst 1, 1) := by decide +kernel
theorem dX11_whyNot_56 : decode cX11_whyNot 56 = .ok (.iand, 1) := by decide +kernel
theorem dX11_whyNot_57 : decode cX11_whyNot 57 = .ok (.ifCond .ne 5, 3) := by decide +kernel
theorem dX11_whyNot_60 : decode cX11_whyNot 60 = .ok (.iconst 3, 1) := by decide +kernel
theorem dX11_whyNot_61 : decode cX11_whyNot 61 = .ok (.ireturn, 1) := by decide +kernel
theorem dX11_whyNot_62 : decode cX11_whyNot 62 = .ok (.iload 4, 2) := by decide +kernel
theorem dX11_whyNot_64 : decode cX11_whyNot 64 = .ok (.iload 6, 2) := by decide +kernel
theorem dX11_whyNot_66 : decode cX11_whyNot 66 = .ok (.iconst 2, 1) := by decide +kernel
theorem dX11_whyNot_67 : decode cX11_whyNot 67 = .ok (.irem, 1) := by decide +kernel
theorem dX11_whyNot_68 : decode cX11_whyNot 68 = .ok (.iadd, 1) := by decide +kernel
theorem dX11_whyNot_69 : decode cX11_whyNot 69 = .ok (.istore 4, 2) := by decide +kernel
theorem dX11_whyNot_71 : decode cX11_whyNot 71 = .ok (.iinc 5 1, 3) := by decide +kernel
theorem dX11_whyNot_74 : decode cX11_whyNot 74 = .ok (.goto (-44), 3) := by decide +kernel
theorem dX11_whyNot_77 : decode cX11_whyNot 77 = .ok (.iload 4, 2) := by decide +kernel
theorem dX11_whyNot_79 : decode cX11_whyNot 79 = .ok (.iconst 2, 1) := by decide +kernel
theorem dX11_whyNot_80 : decode cX11_whyNot 80 = .ok (.if_icmp .le 7, 3) := by decide +kernel
theorem dX11_whyNot_83 : decode cX11_whyNot 83 = .ok (.iconst 4, 1) := by decide +kernel
theorem dX11_whyNot_84 : decode cX11_whyNot 84 = .ok (.goto 25, 3) := by decide +kernel
theorem dX11_whyNot_87 : decode cX11_whyNot 87 = .ok (.iload 4, 2) := by decide +kernel
theorem dX11_whyNot_89 : decode cX11_whyNot 89 = .ok (.iconst 2, 1) := by decide +kernel
theorem dX11_whyNot_90 : decode cX11_whyNot 90 = .ok (.if_icmp .ne 18, 3) := by decide +kernel
theorem dX11_whyNot_93 : decode cX11_whyNot 93 = .ok (.aload_n 0, 1) := by decide +kernel
theorem dX11_whyNot_94 : decode cX11_whyNot 94 = .ok (.iload_n 1, 1) := by decide +kernel
theorem dX11_whyNot_95 : decode cX11_whyNot 95 = .ok (.iload_n 2, 1) := by decide +kernel
theorem dX11_whyNot_96 : decode cX11_whyNot 96 = .ok (.invokevirtual 138, 3) := by decide +kernel
theorem dX11_whyNot_99 : decode cX11_whyNot 99 = .ok (.iconst 2, 1) := by decide +kernel
theorem dX11_whyNot_100 : decode cX11_whyNot 100 = .ok (.irem, 1) := by decide +kernel
theorem dX11_whyNot_101 : decode cX11_whyNot 101 = .ok (.ifCond .ne 7, 3) := by decide +kernel
theorem dX11_whyNot_104 : decode cX11_whyNot 104 = .ok (.iconst 5, 1) := by decide +kernel
theorem dX11_whyNot_105 : decode cX11_whyNot 105 = .ok (.goto 4, 3) := by decide +kernel
theorem dX11_whyNot_108 : decode cX11_whyNot 108 = .ok (.iconst 0, 1) := by decide +kernel
theorem dX11_whyNot_109 : decode cX11_whyNot 109 = .ok (.ireturn, 1) := by decide +kernel
theorem dX11_left_0 : decode cX11_left 0 = .ok (.aload_n 0, 1) := by decide +kernel
theorem dX11_left_1 : decode cX11_left 1 = .ok (.invokevirtual 69, 3) := by decide +kernel
theorem dX11_left_4 : decode cX11_left 4 = .ok (.aload_n 0, 1) := by decide +kernel
theorem dX11_left_5 : decode cX11_left 5 = .ok (.iload_n 1, 1) := by decide +kernel
theorem dX11_left_6 : decode cX11_left 6 = .ok (.iconst 1, 1) := by decide +kernel
theorem dX11_left_7 : decode cX11_left 7 = .ok (.invokevirtual 40, 3) := by decide +kernel
theorem dX11_left_10 : decode cX11_left 10 = .ok (.iconst (-1), 1) := by decide +kernel
theorem dX11_left_11 : decode cX11_left 11 = .ok (.ixor, 1) := by decide +kernel
theorem dX11_left_12 : decode cX11_left 12 = .ok (.iand, 1) := by decide +kernel
theorem dX11_left_13 : decode cX11_left 13 = .ok (.ireturn, 1) := by decide +kernel
theorem dX11_reason_0 : decode cX11_reason 0 = .ok (.iload_n 1, 1) := by decide +kernel
theorem dX11_reason_1 : decode cX11_reason 1 = .ok (.invokestatic 104, 3) := by decide +kernel
theorem dX11_reason_4 : decode cX11_reason 4 = .ok (.ifCond .eq 20, 3) := by decide +kernel
theorem dX11_reason_7 : decode cX11_reason 7 = .ok (.aload_n 0, 1) := by decide +kernel
theorem dX11_reason_8 : decode cX11_reason 8 = .ok (.aload_n 0, 1) := by decide +kernel
theorem dX11_reason_9 : decode cX11_reason 9 = .ok (.iload_n 1, 1) := by decide +kernel
theorem dX11_reason_10 : decode cX11_reason 10 = .ok (.invokevirtual 107, 3) := by decide +kernel
theorem dX11_reason_13 : decode cX11_reason 13 = .ok (.aload_n 0, 1) := by decide +kernel
theorem dX11_reason_14 : decode cX11_reason 14 = .ok (.iload_n 1, 1) := by decide +kernel
theorem dX11_reason_15 : decode cX11_reason 15 = .ok (.invokevirtual 141, 3) := by decide +kernel
theorem dX11_reason_18 : decode cX11_reason 18 = .ok (.invokevirtual 144, 3) := by decide +kernel
theorem dX11_reason_21 : decode cX11_reason 21 = .ok (.goto 4, 3) := by decide +kernel
theorem dX11_reason_24 : decode cX11_reason 24 = .ok (.iconst (-1), 1) := by decide +kernel
theorem dX11_reason_25 : decode cX11_reason 25 = .ok (.ireturn, 1) := by decide +kernel
theorem dX11_trail_0 : decode cX11_trail 0 = .ok (.iload_n 1, 1) := by decide +kernel
theorem dX11_trail_1 : decode cX11_trail 1 = .ok (.invokestatic 104, 3) := by decide +kernel
theorem dX11_trail_4 : decode cX11_trail 4 = .ok (.ifCond .eq 7, 3) := by decide +kernel
theorem dX11_trail_7 : decode cX11_trail 7 = .ok (.iload_n 2, 1) := by decide +kernel
theorem dX11_trail_8 : decode cX11_trail 8 = .ok (.ifCond .ge 5, 3) := by decide +kernel
theorem dX11_trail_11 : decode cX11_trail 11 = .ok (.iconst (-1), 1) := by decide +kernel
theorem dX11_trail_12 : decode cX11_trail 12 = .ok (.ireturn, 1) := by decide +kernel
theorem dX11_trail_13 : decode cX11_trail 13 = .ok (.aload_n 0, 1) := by decide +kernel
theorem dX11_trail_14 : decode cX11_trail 14 = .ok (.iload_n 1, 1) := by decide +kernel
theorem dX11_trail_15 : decode cX11_trail 15 = .ok (.invokevirtual 141, 3) := by decide +kernel
theorem dX11_trail_18 : decode cX11_trail 18 = .ok (.istore_n 3, 1) := by decide +kernel
theorem dX11_trail_19 : decode cX11_trail 19 = .ok (.aload_n 0, 1) := by decide +kernel
theorem dX11_trail_20 : decode cX11_trail 20 = .ok (.iload_n 1, 1) := by decide +kernel
theorem dX11_trail_21 : decode cX11_trail 21 = .ok (.invokevirtual 107, 3) := by decide +kernel
theorem dX11_trail_24 : decode cX11_trail 24 = .ok (.istore 4, 2) := by decide +kernel
theorem dX11_trail_26 : decode cX11_trail 26 = .ok (.aload_n 0, 1) := by decide +kernel
theorem dX11_trail_27 : decode cX11_trail 27 = .ok (.iload 4, 2) := by decide +kernel
theorem dX11_trail_29 : decode cX11_trail 29 = .ok (.iload_n 3, 1) := by decide +kernel
theorem dX11_trail_30 : decode cX11_trail 30 = .ok (.invokevirtual 144, 3) := by decide +kernel
theorem dX11_trail_33 : decode cX11_trail 33 = .ok (.ifCond .eq 6, 3) := by decide +kernel
theorem dX11_trail_36 : decode cX11_trail 36 = .ok (.bipush (-5), 2) := by decide +kernel
theorem dX11_trail_38 : decode cX11_trail 38 = .ok (.ireturn, 1) := by decide +kernel
theorem dX11_trail_39 : decode cX11_trail 39 = .ok (.bipush (-6), 2) := by decide +kernel
theorem dX11_trail_41 : decode cX11_trail 41 = .ok (.istore 5, 2) := by decide +kernel
theorem dX11_trail_43 : decode cX11_trail 43 = .ok (.iconst 0, 1) := by decide +kernel
theorem dX11_trail_44 : decode cX11_trail 44 = .ok (.istore 6, 2) := by decide +kernel
theorem dX11_trail_46 : decode cX11_trail 46 = .ok (.iload 6, 2) := by decide +kernel
theorem dX11_trail_48 : decode cX11_trail 48 = .ok (.iload_n 2, 1) := by decide +kernel
theorem dX11_trail_49 : decode cX11_trail 49 = .ok (.if_icmp .gt 138, 3) := by decide +kernel
theorem dX11_trail_52 : decode cX11_trail 52 = .ok (.iload_n 3, 1) := by decide +kernel
theorem dX11_trail_53 : decode cX11_trail 53 = .ok (.ifCond .eq 134, 3) := by decide +kernel
theorem dX11_trail_56 : decode cX11_trail 56 = .ok (.bipush (-6), 2) := by decide +kernel
theorem dX11_trail_58 : decode cX11_trail 58 = .ok (.istore 5, 2) := by decide +kernel
theorem dX11_trail_60 : decode cX11_trail 60 = .ok (.aload_n 0, 1) := by decide +kernel
theorem dX11_trail_61 : decode cX11_trail 61 = .ok (.getfield 7, 3) := by decide +kernel
theorem dX11_trail_64 : decode cX11_trail 64 = .ok (.iconst 4, 1) := by decide +kernel
theorem dX11_trail_65 : decode cX11_trail 65 = .ok (.iaload, 1) := by decide +kernel
theorem dX11_trail_66 : decode cX11_trail 66 = .ok (.iconst 1, 1) := by decide +kernel
theorem dX11_trail_67 : decode cX11_trail 67 = .ok (.isub, 1) := by decide +kernel
theorem dX11_trail_68 : decode cX11_trail 68 = .ok (.istore 7, 2) := by decide +kernel
theorem dX11_trail_70 : decode cX11_trail 70 = .ok (.iload 7, 2) := by decide +kernel
theorem dX11_trail_72 : decode cX11_trail 72 = .ok (.ifCond .lt 75, 3) := by decide +kernel
theorem dX11_trail_75 : decode cX11_trail 75 = .ok (.iload_n 3, 1) := by decide +kernel
theorem dX11_trail_76 : decode cX11_trail 76 = .ok (.iload 7, 2) := by decide +kernel
theorem dX11_trail_78 : decode cX11_trail 78 = .ok (.ishr, 1) := by decide +kernel
theorem dX11_trail_79 : decode cX11_trail 79 = .ok (.iconst 1, 1) := by decide +kernel
theorem dX11_trail_80 : decode cX11_trail 80 = .ok (.iand, 1) := by decide +kernel
theorem dX11_trail_81 : decode cX11_trail 81 = .ok (.iconst 1, 1) := by decide +kernel
theorem dX11_trail_82 : decode cX11_trail 82 = .ok (.if_icmp .ne 18, 3) := by decide +kernel
theorem dX11_trail_85 : decode cX11_trail 85 = .ok (.aload_n 0, 1) := by decide +kernel
theorem dX11_trail_86 : decode cX11_trail 86 = .ok (.iload 7, 2) := by decide +kernel
theorem dX11_trail_88 : decode cX11_trail 88 = .ok (.iload 4, 2) := by decide +kernel
theorem dX11_trail_90 : decode cX11_trail 90 = .ok (.invokevirtual 116, 3) := by decide +kernel
theorem dX11_trail_93 : decode cX11_trail 93 = .ok (.ifCond .eq 7, 3) := by decide +kernel
theorem dX11_trail_96 : decode cX11_trail 96 = .ok (.iconst 1, 1) := by decide +kernel
theorem dX11_trail_97 : decode cX11_trail 97 = .ok (.goto 4, 3) := by decide +kernel
theorem dX11_trail_100 : decode cX11_trail 100 = .ok (.iconst 0, 1) := by decide +kernel
theorem dX11_trail_101 : decode cX11_trail 101 = .ok (.istore 8, 2) := by decide +kernel
theorem dX11_trail_103 : decode cX11_trail 103 = .ok (.iload 8, 2) := by decide +kernel
theorem dX11_trail_105 : decode cX11_trail 105 = .ok (.ifCond .eq 32, 3) := by decide +kernel
theorem dX11_trail_108 : decode cX11_trail 108 = .ok (.aload_n 0, 1) := by decide +kernel
theorem dX11_trail_109 : decode cX11_trail 109 = .ok (.aload_n 0, 1) := by decide +kernel
theorem dX11_trail_110 : decode cX11_trail 110 = .ok (.iload 7, 2) := by decide +kernel
theorem dX11_trail_112 : decode cX11_trail 112 = .ok (.iload 4, 2) := by decide +kernel
theorem dX11_trail_114 : decode cX11_trail 114 = .ok (.invokevirtual 110, 3) := by decide +kernel
theorem dX11_trail_117 : decode cX11_trail 117 = .ok (.iload_n 3, 1) := by decide +kernel
theorem dX11_trail_118 : decode cX11_trail 118 = .ok (.iconst 1, 1) := by decide +kernel
theorem dX11_trail_119 : decode cX11_trail 119 = .ok (.iload 7, 2) := by decide +kernel
theorem dX11_trail_121 : decode cX11_trail 121 = .ok (.ishl, 1) := by decide +kernel
theorem dX11_trail_122 : decode cX11_trail 122 = .ok (.iconst (-1), 1) := by decide +kernel
theorem dX11_trail_123 : decode cX11_trail 123 = .ok (.ixor, 1) := by decide +kernel
theorem dX11_trail_124 : decode cX11_trail 124 = .ok (.iand, 1) := by decide +kernel
theorem dX11_trail_125 : decode cX11_trail 125 = .ok (.invokevirtual 144, 3) := by decide +kernel
theorem dX11_trail_128 : decode cX11_trail 128 = .ok (.iconst 2, 1) := by decide +kernel
theorem dX11_trail_129 : decode cX11_trail 129 = .ok (.if_icmp .ge 8, 3) := by decide +kernel
theorem dX11_trail_132 : decode cX11_trail 132 = .ok (.iload 7, 2) := by decide +kernel
theorem dX11_trail_134 : decode cX11_trail 134 = .ok (.goto 5, 3) := by decide +kernel
theorem dX11_trail_137 : decode cX11_trail 137 = .ok (.iload 5, 2) := by decide +kernel
theorem dX11_trail_139 : decode cX11_trail 139 = .ok (.istore 5, 2) := by decide +kernel
theorem dX11_trail_141 : decode cX11_trail 141 = .ok (.iinc 7 (-1), 3) := by decide +kernel
theorem dX11_trail_144 : decode cX11_trail 144 = .ok (.goto (-74), 3) := by decide +kernel
theorem dX11_trail_147 : decode cX11_trail 147 = .ok (.iload_n 3, 1) := by decide +kernel
theorem dX11_trail_148 : decode cX11_trail 148 = .ok (.iconst 1, 1) := by decide +kernel
theorem dX11_trail_149 : decode cX11_trail 149 = .ok (.iload 5, 2) := by decide +kernel
theorem dX11_trail_151 : decode cX11_trail 151 = .ok (.ishl, 1) := by decide +kernel
theorem dX11_trail_152 : decode cX11_trail 152 = .ok (.iconst (-1), 1) := by decide +kernel
theorem dX11_trail_153 : decode cX11_trail 153 = .ok (.ixor, 1) := by decide +kernel
theorem dX11_trail_154 : decode cX11_trail 154 = .ok (.iand, 1) := by decide +kernel
theorem dX11_trail_155 : decode cX11_trail 155 = .ok (.istore_n 3, 1) := by decide +kernel
theorem dX11_trail_156 : decode cX11_trail 156 = .ok (.aload_n 0, 1) := by decide +kernel
theorem dX11_trail_157 : decode cX11_trail 157 = .ok (.iload 5, 2) := by decide +kernel
theorem dX11_trail_159 : decode cX11_trail 159 = .ok (.iload 4, 2) := by decide +kernel
theorem dX11_trail_161 : decode cX11_trail 161 = .ok (.invokevirtual 110, 3) := by decide +kernel
theorem dX11_trail_164 : decode cX11_trail 164 = .ok (.istore 4, 2) := by decide +kernel
theorem dX11_trail_166 : decode cX11_trail 166 = .ok (.iload 6, 2) := by decide +kernel
theorem dX11_trail_168 : decode cX11_trail 168 = .ok (.iload_n 2, 1) := by decide +kernel
theorem dX11_trail_169 : decode cX11_trail 169 = .ok (.if_icmp .ne 8, 3) := by decide +kernel
theorem dX11_trail_172 : decode cX11_trail 172 = .ok (.iload 5, 2) := by decide +kernel
theorem dX11_trail_174 : decode cX11_trail 174 = .ok (.goto 5, 3) := by decide +kernel
theorem dX11_trail_177 : decode cX11_trail 177 = .ok (.bipush (-6), 2) := by decide +kernel
theorem dX11_trail_179 : decode cX11_trail 179 = .ok (.istore 5, 2) := by decide +kernel
theorem dX11_trail_181 : decode cX11_trail 181 = .ok (.iinc 6 1, 3) := by decide +kernel
theorem dX11_trail_184 : decode cX11_trail 184 = .ok (.goto (-138), 3) := by decide +kernel
theorem dX11_trail_187 : decode cX11_trail 187 = .ok (.iload 5, 2) := by decide +kernel
theorem dX11_trail_189 : decode cX11_trail 189 = .ok (.ireturn, 1) := by decide +kernel
theorem dX11_pairs_0 : decode cX11_pairs 0 = .ok (.iconst 0, 1) := by decide +kernel
theorem dX11_pairs_1 : decode cX11_pairs 1 = .ok (.istore_n 2, 1) := by decide +kernel
theorem dX11_pairs_2 : decode cX11_pairs 2 = .ok (.iconst 0, 1) := by decide +kernel
theorem dX11_pairs_3 : decode cX11_pairs 3 = .ok (.istore_n 3, 1) := by decide +kernel
theorem dX11_pairs_4 : decode cX11_pairs 4 = .ok (.iload_n 3, 1) := by decide +kernel
theorem dX11_pairs_5 : decode cX11_pairs 5 = .ok (.bipush 10, 2) := by decide +kernel
theorem dX11_pairs_7 : decode cX11_pairs 7 = .ok (.if_icmp .ge 45, 3) := by decide +kernel
theorem dX11_pairs_10 : decode cX11_pairs 10 = .ok (.aload_n 0, 1) := by decide +kernel
theorem dX11_pairs_11 : decode cX11_pairs 11 = .ok (.iload_n 3, 1) := by decide +kernel
theorem dX11_pairs_12 : decode cX11_pairs 12 = .ok (.iload_n 1, 1) := by decide +kernel
theorem dX11_pairs_13 : decode cX11_pairs 13 = .ok (.invokevirtual 135, 3) := by decide +kernel
theorem dX11_pairs_16 : decode cX11_pairs 16 = .ok (.istore 4, 2) := by decide +kernel
theorem dX11_pairs_18 : decode cX11_pairs 18 = .ok (.iload_n 3, 1) := by decide +kernel
theorem dX11_pairs_19 : decode cX11_pairs 19 = .ok (.iconst 1, 1) := by decide +kernel
theorem dX11_pairs_20 : decode cX11_pairs 20 = .ok (.iadd, 1) := by decide +kernel
theorem dX11_pairs_21 : decode cX11_pairs 21 = .ok (.istore 5, 2) := by decide +kernel
theorem dX11_pairs_23 : decode cX11_pairs 23 = .ok (.iload 5, 2) := by decide +kernel
theorem dX11_pairs_25 : decode cX11_pairs 25 = .ok (.bipush 10, 2) := by decide +kernel
theorem dX11_pairs_27 : decode cX11_pairs 27 = .ok (.if_icmp .ge 19, 3) := by decide +kernel
theorem dX11_pairs_30 : decode cX11_pairs 30 = .ok (.iload_n 2, 1) := by decide +kernel
theorem dX11_pairs_31 : decode cX11_pairs 31 = .ok (.iload 4, 2) := by decide +kernel
theorem dX11_pairs_33 : decode cX11_pairs 33 = .ok (.iload 5, 2) := by decide +kernel
theorem dX11_pairs_35 : decode cX11_pairs 35 = .ok (.ishr, 1) := by decide +kernel
theorem dX11_pairs_36 : decode cX11_pairs 36 = .ok (.iconst 1, 1) := by decide +kernel
theorem dX11_pairs_37 : decode cX11_pairs 37 = .ok (.iand, 1) := by decide +kernel
theorem dX11_pairs_38 : decode cX11_pairs 38 = .ok (.iadd, 1) := by decide +kernel
theorem dX11_pairs_39 : decode cX11_pairs 39 = .ok (.istore_n 2, 1) := by decide +kernel
theorem dX11_pairs_40 : decode cX11_pairs 40 = .ok (.iinc 5 1, 3) := by decide +kernel
theorem dX11_pairs_43 : decode cX11_pairs 43 = .ok (.goto (-20), 3) := by decide +kernel
theorem dX11_pairs_46 : decode cX11_pairs 46 = .ok (.iinc 3 1, 3) := by decide +kernel
theorem dX11_pairs_49 : decode cX11_pairs 49 = .ok (.goto (-45), 3) := by decide +kernel
theorem dX11_pairs_52 : decode cX11_pairs 52 = .ok (.iload_n 2, 1) := by decide +kernel
theorem dX11_pairs_53 : decode cX11_pairs 53 = .ok (.ireturn, 1) := by decide +kernel
theorem dX11_worstGap_0 : decode cX11_worstGap 0 = .ok (.iload_n 1, 1) := by decide +kernel
theorem dX11_worstGap_1 : decode cX11_worstGap 1 = .ok (.iconst 0, 1) := by decide +kernel
theorem dX11_worstGap_2 : decode cX11_worstGap 2 = .ok (.iconst 1, 1) := by decide +kernel
theorem dX11_worstGap_3 : decode cX11_worstGap 3 = .ok (.invokestatic 36, 3) := by decide +kernel
theorem dX11_worstGap_6 : decode cX11_worstGap 6 = .ok (.ifCond .ne 6, 3) := by decide +kernel
theorem dX11_worstGap_9 : decode cX11_worstGap 9 = .ok (.bipush (-2), 2) := by decide +kernel
theorem dX11_worstGap_11 : decode cX11_worstGap 11 = .ok (.ireturn, 1) := by decide +kernel
theorem dX11_worstGap_12 : decode cX11_worstGap 12 = .ok (.aload_n 0, 1) := by decide +kernel
theorem dX11_worstGap_13 : decode cX11_worstGap 13 = .ok (.aload_n 0, 1) := by decide +kernel
theorem dX11_worstGap_14 : decode cX11_worstGap 14 = .ok (.invokevirtual 69, 3) := by decide +kernel
theorem dX11_worstGap_17 : decode cX11_worstGap 17 = .ok (.invokevirtual 147, 3) := by decide +kernel
theorem dX11_worstGap_20 : decode cX11_worstGap 20 = .ok (.istore_n 2, 1) := by decide +kernel
theorem dX11_worstGap_21 : decode cX11_worstGap 21 = .ok (.bipush (-6), 2) := by decide +kernel
theorem dX11_worstGap_23 : decode cX11_worstGap 23 = .ok (.istore_n 3, 1) := by decide +kernel
theorem dX11_worstGap_24 : decode cX11_worstGap 24 = .ok (.iconst 0, 1) := by decide +kernel
theorem dX11_worstGap_25 : decode cX11_worstGap 25 = .ok (.istore 4, 2) := by decide +kernel
theorem dX11_worstGap_27 : decode cX11_worstGap 27 = .ok (.iconst 0, 1) := by decide +kernel
theorem dX11_worstGap_28 : decode cX11_worstGap 28 = .ok (.istore 5, 2) := by decide +kernel
theorem dX11_worstGap_30 : decode cX11_worstGap 30 = .ok (.iload 5, 2) := by decide +kernel
theorem dX11_worstGap_32 : decode cX11_worstGap 32 = .ok (.aload_n 0, 1) := by decide +kernel
theorem dX11_worstGap_33 : decode cX11_worstGap 33 = .ok (.getfield 7, 3) := by decide +kernel
theorem dX11_worstGap_36 : decode cX11_worstGap 36 = .ok (.iconst 4, 1) := by decide +kernel
theorem dX11_worstGap_37 : decode cX11_worstGap 37 = .ok (.iaload, 1) := by decide +kernel
theorem dX11_worstGap_38 : decode cX11_worstGap 38 = .ok (.if_icmp .ge 58, 3) := by decide +kernel
theorem dX11_worstGap_41 : decode cX11_worstGap 41 = .ok (.iload_n 2, 1) := by decide +kernel
theorem dX11_worstGap_42 : decode cX11_worstGap 42 = .ok (.aload_n 0, 1) := by decide +kernel
theorem dX11_worstGap_43 : decode cX11_worstGap 43 = .ok (.aload_n 0, 1) := by decide +kernel
theorem dX11_worstGap_44 : decode cX11_worstGap 44 = .ok (.invokevirtual 69, 3) := by decide +kernel
theorem dX11_worstGap_47 : decode cX11_worstGap 47 = .ok (.iconst 1, 1) := by decide +kernel
theorem dX11_worstGap_48 : decode cX11_worstGap 48 = .ok (.iload 5, 2) := by decide +kernel
theorem dX11_worstGap_50 : decode cX11_worstGap 50 = .ok (.ishl, 1) := by decide +kernel
theorem dX11_worstGap_51 : decode cX11_worstGap 51 = .ok (.iconst (-1), 1) := by decide +kernel
theorem dX11_worstGap_52 : decode cX11_worstGap 52 = .ok (.ixor, 1) := by decide +kernel
theorem dX11_worstGap_53 : decode cX11_worstGap 53 = .ok (.iand, 1) := by decide +kernel
theorem dX11_worstGap_54 : decode cX11_worstGap 54 = .ok (.invokevirtual 147, 3) := by decide +kernel
theorem dX11_worstGap_57 : decode cX11_worstGap 57 = .ok (.isub, 1) := by decide +kernel
theorem dX11_worstGap_58 : decode cX11_worstGap 58 = .ok (.istore 6, 2) := by decide +kernel
theorem dX11_worstGap_60 : decode cX11_worstGap 60 = .ok (.iload 6, 2) := by decide +kernel
theorem dX11_worstGap_62 : decode cX11_worstGap 62 = .ok (.iload 4, 2) := by decide +kernel
theorem dX11_worstGap_64 : decode cX11_worstGap 64 = .ok (.if_icmp .le 8, 3) := by decide +kernel
theorem dX11_worstGap_67 : decode cX11_worstGap 67 = .ok (.iload 5, 2) := by decide +kernel
theorem dX11_worstGap_69 : decode cX11_worstGap 69 = .ok (.goto 4, 3) := by decide +kernel
theorem dX11_worstGap_72 : decode cX11_worstGap 72 = .ok (.iload_n 3, 1) := by decide +kernel
theorem dX11_worstGap_73 : decode cX11_worstGap 73 = .ok (.istore_n 3, 1) := by decide +kernel
theorem dX11_worstGap_74 : decode cX11_worstGap 74 = .ok (.iload 6, 2) := by decide +kernel
theorem dX11_worstGap_76 : decode cX11_worstGap 76 = .ok (.iload 4, 2) := by decide +kernel
theorem dX11_worstGap_78 : decode cX11_worstGap 78 = .ok (.if_icmp .le 8, 3) := by decide +kernel
theorem dX11_worstGap_81 : decode cX11_worstGap 81 = .ok (.iload 6, 2) := by decide +kernel
theorem dX11_worstGap_83 : decode cX11_worstGap 83 = .ok (.goto 5, 3) := by decide +kernel
theorem dX11_worstGap_86 : decode cX11_worstGap 86 = .ok (.iload 4, 2) := by decide +kernel
theorem dX11_worstGap_88 : decode cX11_worstGap 88 = .ok (.istore 4, 2) := by decide +kernel
theorem dX11_worstGap_90 : decode cX11_worstGap 90 = .ok (.iinc 5 1, 3) := by decide +kernel
theorem dX11_worstGap_93 : decode cX11_worstGap 93 = .ok (.goto (-63), 3) := by decide +kernel
theorem dX11_worstGap_96 : decode cX11_worstGap 96 = .ok (.iload_n 3, 1) := by decide +kernel
theorem dX11_worstGap_97 : decode cX11_worstGap 97 = .ok (.bipush (-6), 2) := by decide +kernel
theorem dX11_worstGap_99 : decode cX11_worstGap 99 = .ok (.if_icmp .ne 8, 3) := by decide +kernel
theorem dX11_worstGap_102 : decode cX11_worstGap 102 = .ok (.bipush (-6), 2) := by decide +kernel
theorem dX11_worstGap_104 : decode cX11_worstGap 104 = .ok (.goto 13, 3) := by decide +kernel
theorem dX11_worstGap_107 : decode cX11_worstGap 107 = .ok (.iload_n 1, 1) := by decide +kernel
theorem dX11_worstGap_108 : decode cX11_worstGap 108 = .ok (.ifCond .ne 7, 3) := by decide +kernel
theorem dX11_worstGap_111 : decode cX11_worstGap 111 = .ok (.iload_n 3, 1) := by decide +kernel
theorem dX11_worstGap_112 : decode cX11_worstGap 112 = .ok (.goto 5, 3) := by decide +kernel
theorem dX11_worstGap_115 : decode cX11_worstGap 115 = .ok (.iload 4, 2) := by decide +kernel
theorem dX11_worstGap_117 : decode cX11_worstGap 117 = .ok (.ireturn, 1) := by decide +kernel
theorem dX11_crossers_0 : decode cX11_crossers 0 = .ok (.iconst 0, 1) := by decide +kernel
theorem dX11_crossers_1 : decode cX11_crossers 1 = .ok (.istore_n 3, 1) := by decide +kernel
theorem dX11_crossers_2 : decode cX11_crossers 2 = .ok (.iconst 0, 1) := by decide +kernel
theorem dX11_crossers_3 : decode cX11_crossers 3 = .ok (.istore 4, 2) := by decide +kernel
theorem dX11_crossers_5 : decode cX11_crossers 5 = .ok (.iload 4, 2) := by decide +kernel
theorem dX11_crossers_7 : decode cX11_crossers 7 = .ok (.iconst 4, 1) := by decide +kernel
theorem dX11_crossers_8 : decode cX11_crossers 8 = .ok (.if_icmp .ge 47, 3) := by decide +kernel
theorem dX11_crossers_11 : decode cX11_crossers 11 = .ok (.iload_n 3, 1) := by decide +kernel
theorem dX11_crossers_12 : decode cX11_crossers 12 = .ok (.iload_n 2, 1) := by decide +kernel
theorem dX11_crossers_13 : decode cX11_crossers 13 = .ok (.ifCond .eq 16, 3) := by decide +kernel
theorem dX11_crossers_16 : decode cX11_crossers 16 = .ok (.aload_n 0, 1) := by decide +kernel
theorem dX11_crossers_17 : decode cX11_crossers 17 = .ok (.iload 4, 2) := by decide +kernel
theorem dX11_crossers_19 : decode cX11_crossers 19 = .ok (.iload_n 1, 1) := by decide +kernel
theorem dX11_crossers_20 : decode cX11_crossers 20 = .ok (.invokevirtual 96, 3) := by decide +kernel
theorem dX11_crossers_23 : decode cX11_crossers 23 = .ok (.ifCond .eq 23, 3) := by decide +kernel
theorem dX11_crossers_26 : decode cX11_crossers 26 = .ok (.goto 13, 3) := by decide +kernel
theorem dX11_crossers_29 : decode cX11_crossers 29 = .ok (.aload_n 0, 1) := by decide +kernel
theorem dX11_crossers_30 : decode cX11_crossers 30 = .ok (.iload 4, 2) := by decide +kernel
theorem dX11_crossers_32 : decode cX11_crossers 32 = .ok (.iload_n 1, 1) := by decide +kernel
theorem dX11_crossers_33 : decode cX11_crossers 33 = .ok (.invokevirtual 92, 3) := by decide +kernel
theorem dX11_crossers_36 : decode cX11_crossers 36 = .ok (.ifCond .eq 10, 3) := by decide +kernel
theorem dX11_crossers_39 : decode cX11_crossers 39 = .ok (.iconst 1, 1) := by decide +kernel
theorem dX11_crossers_40 : decode cX11_crossers 40 = .ok (.iload 4, 2) := by decide +kernel
theorem dX11_crossers_42 : decode cX11_crossers 42 = .ok (.ishl, 1) := by decide +kernel
theorem dX11_crossers_43 : decode cX11_crossers 43 = .ok (.goto 4, 3) := by decide +kernel
theorem dX11_crossers_46 : decode cX11_crossers 46 = .ok (.iconst 0, 1) := by decide +kernel
theorem dX11_crossers_47 : decode cX11_crossers 47 = .ok (.ior, 1) := by decide +kernel
theorem dX11_crossers_48 : decode cX11_crossers 48 = .ok (.istore_n 3, 1) := by decide +kernel
theorem dX11_crossers_49 : decode cX11_crossers 49 = .ok (.iinc 4 1, 3) := by decide +kernel
theorem dX11_crossers_52 : decode cX11_crossers 52 = .ok (.goto (-47), 3) := by decide +kernel
theorem dX11_crossers_55 : decode cX11_crossers 55 = .ok (.iload_n 3, 1) := by decide +kernel
theorem dX11_crossers_56 : decode cX11_crossers 56 = .ok (.ireturn, 1) := by decide +kernel
theorem dX11_board_0 : decode cX11_board 0 = .ok (.aload_n 0, 1) := by decide +kernel
theorem dX11_board_1 : decode cX11_board 1 = .ok (.iload_n 1, 1) := by decide +kernel
theorem dX11_board_2 : decode cX11_board 2 = .ok (.invokevirtual 62, 3) := by decide +kernel
theorem dX11_board_5 : decode cX11_board 5 = .ok (.ifCond .ne 5, 3) := by decide +kernel
theorem dX11_board_8 : decode cX11_board 8 = .ok (.iconst (-1), 1) := by decide +kernel
theorem dX11_board_9 : decode cX11_board 9 = .ok (.ireturn, 1) := by decide +kernel
theorem dX11_board_10 : decode cX11_board 10 = .ok (.iload_n 2, 1) := by decide +kernel
theorem dX11_board_11 : decode cX11_board 11 = .ok (.tableswitch 71 0 6 #[41, 41, 41, 41, 48, 48, 64], 41) := by decide +kernel
theorem dX11_board_52 : decode cX11_board 52 = .ok (.aload_n 0, 1) := by decide +kernel
theorem dX11_board_53 : decode cX11_board 53 = .ok (.iload_n 1, 1) := by decide +kernel
theorem dX11_board_54 : decode cX11_board 54 = .ok (.iload_n 2, 1) := by decide +kernel
theorem dX11_board_55 : decode cX11_board 55 = .ok (.invokevirtual 65, 3) := by decide +kernel
theorem dX11_board_58 : decode cX11_board 58 = .ok (.ireturn, 1) := by decide +kernel
theorem dX11_board_59 : decode cX11_board 59 = .ok (.aload_n 0, 1) := by decide +kernel
theorem dX11_board_60 : decode cX11_board 60 = .ok (.iload_n 1, 1) := by decide +kernel
theorem dX11_board_61 : decode cX11_board 61 = .ok (.iload_n 2, 1) := by decide +kernel
theorem dX11_board_62 : decode cX11_board 62 = .ok (.iconst 5, 1) := by decide +kernel
theorem dX11_board_63 : decode cX11_board 63 = .ok (.if_icmp .ne 7, 3) := by decide +kernel
theorem dX11_board_66 : decode cX11_board 66 = .ok (.iconst 1, 1) := by decide +kernel
theorem dX11_board_67 : decode cX11_board 67 = .ok (.goto 4, 3) := by decide +kernel
theorem dX11_board_70 : decode cX11_board 70 = .ok (.iconst 0, 1) := by decide +kernel
theorem dX11_board_71 : decode cX11_board 71 = .ok (.invokevirtual 150, 3) := by decide +kernel
theorem dX11_board_74 : decode cX11_board 74 = .ok (.ireturn, 1) := by decide +kernel
theorem dX11_board_75 : decode cX11_board 75 = .ok (.aload_n 0, 1) := by decide +kernel
theorem dX11_board_76 : decode cX11_board 76 = .ok (.iload_n 1, 1) := by decide +kernel
theorem dX11_board_77 : decode cX11_board 77 = .ok (.iconst 4, 1) := by decide +kernel
theorem dX11_board_78 : decode cX11_board 78 = .ok (.invokevirtual 65, 3) := by decide +kernel
theorem dX11_board_81 : decode cX11_board 81 = .ok (.ireturn, 1) := by decide +kernel
theorem dX11_board_82 : decode cX11_board 82 = .ok (.bipush (-2), 2) := by decide +kernel
theorem dX11_board_84 : decode cX11_board 84 = .ok (.ireturn, 1) := by decide +kernel
theorem dX11_ghost_0 : decode cX11_ghost 0 = .ok (.iload_n 1, 1) := by decide +kernel
theorem dX11_ghost_1 : decode cX11_ghost 1 = .ok (.invokestatic 104, 3) := by decide +kernel
theorem dX11_ghost_4 : decode cX11_ghost 4 = .ok (.ifCond .ne 5, 3) := by decide +kernel
theorem dX11_ghost_7 : decode cX11_ghost 7 = .ok (.iconst (-1), 1) := by decide +kernel
theorem dX11_ghost_8 : decode cX11_ghost 8 = .ok (.ireturn, 1) := by decide +kernel
theorem dX11_ghost_9 : decode cX11_ghost 9 = .ok (.iload_n 2, 1) := by decide +kernel
theorem dX11_ghost_10 : decode cX11_ghost 10 = .ok (.tableswitch 122 0 4 #[34, 34, 41, 100, 115], 34) := by decide +kernel
theorem dX11_ghost_44 : decode cX11_ghost 44 = .ok (.aload_n 0, 1) := by decide +kernel
theorem dX11_ghost_45 : decode cX11_ghost 45 = .ok (.iload_n 1, 1) := by decide +kernel
theorem dX11_ghost_46 : decode cX11_ghost 46 = .ok (.iload_n 2, 1) := by decide +kernel
theorem dX11_ghost_47 : decode cX11_ghost 47 = .ok (.invokevirtual 40, 3) := by decide +kernel
theorem dX11_ghost_50 : decode cX11_ghost 50 = .ok (.ireturn, 1) := by decide +kernel
theorem dX11_ghost_51 : decode cX11_ghost 51 = .ok (.iconst 0, 1) := by decide +kernel
theorem dX11_ghost_52 : decode cX11_ghost 52 = .ok (.istore_n 3, 1) := by decide +kernel
theorem dX11_ghost_53 : decode cX11_ghost 53 = .ok (.iconst 0, 1) := by decide +kernel
theorem dX11_ghost_54 : decode cX11_ghost 54 = .ok (.istore 4, 2) := by decide +kernel
theorem dX11_ghost_56 : decode cX11_ghost 56 = .ok (.iload 4, 2) := by decide +kernel
theorem dX11_ghost_58 : decode cX11_ghost 58 = .ok (.aload_n 0, 1) := by decide +kernel
theorem dX11_ghost_59 : decode cX11_ghost 59 = .ok (.getfield 7, 3) := by decide +kernel
theorem dX11_ghost_62 : decode cX11_ghost 62 = .ok (.iconst 4, 1) := by decide +kernel
theorem dX11_ghost_63 : decode cX11_ghost 63 = .ok (.iaload, 1) := by decide +kernel
theorem dX11_ghost_64 : decode cX11_ghost 64 = .ok (.if_icmp .ge 44, 3) := by decide +kernel
theorem dX11_ghost_67 : decode cX11_ghost 67 = .ok (.iload_n 3, 1) := by decide +kernel
theorem dX11_ghost_68 : decode cX11_ghost 68 = .ok (.aload_n 0, 1) := by decide +kernel
theorem dX11_ghost_69 : decode cX11_ghost 69 = .ok (.iload 4, 2) := by decide +kernel
theorem dX11_ghost_71 : decode cX11_ghost 71 = .ok (.aload_n 0, 1) := by decide +kernel
theorem dX11_ghost_72 : decode cX11_ghost 72 = .ok (.iload_n 1, 1) := by decide +kernel
theorem dX11_ghost_73 : decode cX11_ghost 73 = .ok (.invokevirtual 107, 3) := by decide +kernel
theorem dX11_ghost_76 : decode cX11_ghost 76 = .ok (.invokevirtual 116, 3) := by decide +kernel
theorem dX11_ghost_79 : decode cX11_ghost 79 = .ok (.ifCond .eq 20, 3) := by decide +kernel
theorem dX11_ghost_82 : decode cX11_ghost 82 = .ok (.aload_n 0, 1) := by decide +kernel
theorem dX11_ghost_83 : decode cX11_ghost 83 = .ok (.iload_n 1, 1) := by decide +kernel
theorem dX11_ghost_84 : decode cX11_ghost 84 = .ok (.iload 4, 2) := by decide +kernel
theorem dX11_ghost_86 : decode cX11_ghost 86 = .ok (.invokevirtual 96, 3) := by decide +kernel
theorem dX11_ghost_89 : decode cX11_ghost 89 = .ok (.ifCond .eq 10, 3) := by decide +kernel
theorem dX11_ghost_92 : decode cX11_ghost 92 = .ok (.iconst 1, 1) := by decide +kernel
theorem dX11_ghost_93 : decode cX11_ghost 93 = .ok (.iload 4, 2) := by decide +kernel
theorem dX11_ghost_95 : decode cX11_ghost 95 = .ok (.ishl, 1) := by decide +kernel
theorem dX11_ghost_96 : decode cX11_ghost 96 = .ok (.goto 4, 3) := by decide +kernel
theorem dX11_ghost_99 : decode cX11_ghost 99 = .ok (.iconst 0, 1) := by decide +kernel
theorem dX11_ghost_100 : decode cX11_ghost 100 = .ok (.ior, 1) := by decide +kernel
theorem dX11_ghost_101 : decode cX11_ghost 101 = .ok (.istore_n 3, 1) := by decide +kernel
theorem dX11_ghost_102 : decode cX11_ghost 102 = .ok (.iinc 4 1, 3) := by decide +kernel
theorem dX11_ghost_105 : decode cX11_ghost 105 = .ok (.goto (-49), 3) := by decide +kernel
theorem dX11_ghost_108 : decode cX11_ghost 108 = .ok (.iload_n 3, 1) := by decide +kernel
theorem dX11_ghost_109 : decode cX11_ghost 109 = .ok (.ireturn, 1) := by decide +kernel
theorem dX11_ghost_110 : decode cX11_ghost 110 = .ok (.aload_n 0, 1) := by decide +kernel
theorem dX11_ghost_111 : decode cX11_ghost 111 = .ok (.aload_n 0, 1) := by decide +kernel
theorem dX11_ghost_112 : decode cX11_ghost 112 = .ok (.iload_n 1, 1) := by decide +kernel
theorem dX11_ghost_113 : decode cX11_ghost 113 = .ok (.invokevirtual 107, 3) := by decide +kernel
theorem dX11_ghost_116 : decode cX11_ghost 116 = .ok (.aload_n 0, 1) := by decide +kernel
theorem dX11_ghost_117 : decode cX11_ghost 117 = .ok (.iload_n 1, 1) := by decide +kernel
theorem dX11_ghost_118 : decode cX11_ghost 118 = .ok (.invokevirtual 122, 3) := by decide +kernel
theorem dX11_ghost_121 : decode cX11_ghost 121 = .ok (.invokevirtual 135, 3) := by decide +kernel
theorem dX11_ghost_124 : decode cX11_ghost 124 = .ok (.ireturn, 1) := by decide +kernel
theorem dX11_ghost_125 : decode cX11_ghost 125 = .ok (.aload_n 0, 1) := by decide +kernel
theorem dX11_ghost_126 : decode cX11_ghost 126 = .ok (.iload_n 1, 1) := by decide +kernel
theorem dX11_ghost_127 : decode cX11_ghost 127 = .ok (.iconst 2, 1) := by decide +kernel
theorem dX11_ghost_128 : decode cX11_ghost 128 = .ok (.invokevirtual 40, 3) := by decide +kernel
theorem dX11_ghost_131 : decode cX11_ghost 131 = .ok (.ireturn, 1) := by decide +kernel
theorem dX11_ghost_132 : decode cX11_ghost 132 = .ok (.bipush (-2), 2) := by decide +kernel
theorem dX11_ghost_134 : decode cX11_ghost 134 = .ok (.ireturn, 1) := by decide +kernel
theorem dX11_sleeperOf_0 : decode cX11_sleeperOf 0 = .ok (.aload_n 0, 1) := by decide +kernel
theorem dX11_sleeperOf_1 : decode cX11_sleeperOf 1 = .ok (.iload_n 1, 1) := by decide +kernel
theorem dX11_sleeperOf_2 : decode cX11_sleeperOf 2 = .ok (.invokevirtual 83, 3) := by decide +kernel
theorem dX11_sleeperOf_5 : decode cX11_sleeperOf 5 = .ok (.ifCond .ne 5, 3) := by decide +kernel
theorem dX11_sleeperOf_8 : decode cX11_sleeperOf 8 = .ok (.iconst (-1), 1) := by decide +kernel
theorem dX11_sleeperOf_9 : decode cX11_sleeperOf 9 = .ok (.ireturn, 1) := by decide +kernel
theorem dX11_sleeperOf_10 : decode cX11_sleeperOf 10 = .ok (.iload_n 2, 1) := by decide +kernel
theorem dX11_sleeperOf_11 : decode cX11_sleeperOf 11 = .ok (.iconst 0, 1) := by decide +kernel
theorem dX11_sleeperOf_12 : decode cX11_sleeperOf 12 = .ok (.iconst 3, 1) := by decide +kernel
theorem dX11_sleeperOf_13 : decode cX11_sleeperOf 13 = .ok (.invokestatic 36, 3) := by decide +kernel
theorem dX11_sleeperOf_16 : decode cX11_sleeperOf 16 = .ok (.ifCond .eq 10, 3) := by decide +kernel
theorem dX11_sleeperOf_19 : decode cX11_sleeperOf 19 = .ok (.aload_n 0, 1) := by decide +kernel
theorem dX11_sleeperOf_20 : decode cX11_sleeperOf 20 = .ok (.iload_n 1, 1) := by decide +kernel
theorem dX11_sleeperOf_21 : decode cX11_sleeperOf 21 = .ok (.iload_n 2, 1) := by decide +kernel
theorem dX11_sleeperOf_22 : decode cX11_sleeperOf 22 = .ok (.invokevirtual 80, 3) := by decide +kernel
theorem dX11_sleeperOf_25 : decode cX11_sleeperOf 25 = .ok (.ireturn, 1) := by decide +kernel
theorem dX11_sleeperOf_26 : decode cX11_sleeperOf 26 = .ok (.iload_n 2, 1) := by decide +kernel
theorem dX11_sleeperOf_27 : decode cX11_sleeperOf 27 = .ok (.iconst 4, 1) := by decide +kernel
theorem dX11_sleeperOf_28 : decode cX11_sleeperOf 28 = .ok (.if_icmp .eq 6, 3) := by decide +kernel
theorem dX11_sleeperOf_31 : decode cX11_sleeperOf 31 = .ok (.bipush (-2), 2) := by decide +kernel
theorem dX11_sleeperOf_33 : decode cX11_sleeperOf 33 = .ok (.ireturn, 1) := by decide +kernel
theorem dX11_sleeperOf_34 : decode cX11_sleeperOf 34 = .ok (.iconst 0, 1) := by decide +kernel
theorem dX11_sleeperOf_35 : decode cX11_sleeperOf 35 = .ok (.istore_n 3, 1) := by decide +kernel
theorem dX11_sleeperOf_36 : decode cX11_sleeperOf 36 = .ok (.iconst 0, 1) := by decide +kernel
theorem dX11_sleeperOf_37 : decode cX11_sleeperOf 37 = .ok (.istore 4, 2) := by decide +kernel
theorem dX11_sleeperOf_39 : decode cX11_sleeperOf 39 = .ok (.iload 4, 2) := by decide +kernel
theorem dX11_sleeperOf_41 : decode cX11_sleeperOf 41 = .ok (.aload_n 0, 1) := by decide +kernel
theorem dX11_sleeperOf_42 : decode cX11_sleeperOf 42 = .ok (.getfield 7, 3) := by decide +kernel
theorem dX11_sleeperOf_45 : decode cX11_sleeperOf 45 = .ok (.iconst 4, 1) := by decide +kernel
theorem dX11_sleeperOf_46 : decode cX11_sleeperOf 46 = .ok (.iaload, 1) := by decide +kernel
theorem dX11_sleeperOf_47 : decode cX11_sleeperOf 47 = .ok (.if_icmp .ge 36, 3) := by decide +kernel
theorem dX11_sleeperOf_50 : decode cX11_sleeperOf 50 = .ok (.iload_n 3, 1) := by decide +kernel
theorem dX11_sleeperOf_51 : decode cX11_sleeperOf 51 = .ok (.aload_n 0, 1) := by decide +kernel
theorem dX11_sleeperOf_52 : decode cX11_sleeperOf 52 = .ok (.iload 4, 2) := by decide +kernel
theorem dX11_sleeperOf_54 : decode cX11_sleeperOf 54 = .ok (.iload_n 1, 1) := by decide +kernel
theorem dX11_sleeperOf_55 : decode cX11_sleeperOf 55 = .ok (.invokevirtual 86, 3) := by decide +kernel
theorem dX11_sleeperOf_58 : decode cX11_sleeperOf 58 = .ok (.aload_n 0, 1) := by decide +kernel
theorem dX11_sleeperOf_59 : decode cX11_sleeperOf 59 = .ok (.iload_n 1, 1) := by decide +kernel
theorem dX11_sleeperOf_60 : decode cX11_sleeperOf 60 = .ok (.iconst 1, 1) := by decide +kernel
theorem dX11_sleeperOf_61 : decode cX11_sleeperOf 61 = .ok (.invokevirtual 80, 3) := by decide +kernel
theorem dX11_sleeperOf_64 : decode cX11_sleeperOf 64 = .ok (.if_icmp .lt 10, 3) := by decide +kernel
theorem dX11_sleeperOf_67 : decode cX11_sleeperOf 67 = .ok (.iconst 1, 1) := by decide +kernel
theorem dX11_sleeperOf_68 : decode cX11_sleeperOf 68 = .ok (.iload 4, 2) := by decide +kernel
theorem dX11_sleeperOf_70 : decode cX11_sleeperOf 70 = .ok (.ishl, 1) := by decide +kernel
theorem dX11_sleeperOf_71 : decode cX11_sleeperOf 71 = .ok (.goto 4, 3) := by decide +kernel
theorem dX11_sleeperOf_74 : decode cX11_sleeperOf 74 = .ok (.iconst 0, 1) := by decide +kernel
theorem dX11_sleeperOf_75 : decode cX11_sleeperOf 75 = .ok (.ior, 1) := by decide +kernel
theorem dX11_sleeperOf_76 : decode cX11_sleeperOf 76 = .ok (.istore_n 3, 1) := by decide +kernel
theorem dX11_sleeperOf_77 : decode cX11_sleeperOf 77 = .ok (.iinc 4 1, 3) := by decide +kernel
theorem dX11_sleeperOf_80 : decode cX11_sleeperOf 80 = .ok (.goto (-41), 3) := by decide +kernel
theorem dX11_sleeperOf_83 : decode cX11_sleeperOf 83 = .ok (.iload_n 3, 1) := by decide +kernel
theorem dX11_sleeperOf_84 : decode cX11_sleeperOf 84 = .ok (.ireturn, 1) := by decide +kernel
theorem dX11_awake_0 : decode cX11_awake 0 = .ok (.iconst 0, 1) := by decide +kernel
theorem dX11_awake_1 : decode cX11_awake 1 = .ok (.istore_n 1, 1) := by decide +kernel
theorem dX11_awake_2 : decode cX11_awake 2 = .ok (.iconst 0, 1) := by decide +kernel
theorem dX11_awake_3 : decode cX11_awake 3 = .ok (.istore_n 2, 1) := by decide +kernel
theorem dX11_awake_4 : decode cX11_awake 4 = .ok (.iload_n 2, 1) := by decide +kernel
theorem dX11_awake_5 : decode cX11_awake 5 = .ok (.aload_n 0, 1) := by decide +kernel
theorem dX11_awake_6 : decode cX11_awake 6 = .ok (.getfield 7, 3) := by decide +kernel
theorem dX11_awake_9 : decode cX11_awake 9 = .ok (.iconst 5, 1) := by decide +kernel
theorem dX11_awake_10 : decode cX11_awake 10 = .ok (.iaload, 1) := by decide +kernel
theorem dX11_awake_11 : decode cX11_awake 11 = .ok (.if_icmp .ge 28, 3) := by decide +kernel
theorem dX11_awake_14 : decode cX11_awake 14 = .ok (.iload_n 1, 1) := by decide +kernel
theorem dX11_awake_15 : decode cX11_awake 15 = .ok (.aload_n 0, 1) := by decide +kernel
theorem dX11_awake_16 : decode cX11_awake 16 = .ok (.iload_n 2, 1) := by decide +kernel
theorem dX11_awake_17 : decode cX11_awake 17 = .ok (.iconst 2, 1) := by decide +kernel
theorem dX11_awake_18 : decode cX11_awake 18 = .ok (.invokevirtual 80, 3) := by decide +kernel
theorem dX11_awake_21 : decode cX11_awake 21 = .ok (.ifCond .le 9, 3) := by decide +kernel
theorem dX11_awake_24 : decode cX11_awake 24 = .ok (.iconst 1, 1) := by decide +kernel
theorem dX11_awake_25 : decode cX11_awake 25 = .ok (.iload_n 2, 1) := by decide +kernel
theorem dX11_awake_26 : decode cX11_awake 26 = .ok (.ishl, 1) := by decide +kernel
theorem dX11_awake_27 : decode cX11_awake 27 = .ok (.goto 4, 3) := by decide +kernel
theorem dX11_awake_30 : decode cX11_awake 30 = .ok (.iconst 0, 1) := by decide +kernel
theorem dX11_awake_31 : decode cX11_awake 31 = .ok (.ior, 1) := by decide +kernel
theorem dX11_awake_32 : decode cX11_awake 32 = .ok (.istore_n 1, 1) := by decide +kernel
theorem dX11_awake_33 : decode cX11_awake 33 = .ok (.iinc 2 1, 3) := by decide +kernel
theorem dX11_awake_36 : decode cX11_awake 36 = .ok (.goto (-32), 3) := by decide +kernel
theorem dX11_awake_39 : decode cX11_awake 39 = .ok (.iload_n 1, 1) := by decide +kernel
theorem dX11_awake_40 : decode cX11_awake 40 = .ok (.ireturn, 1) := by decide +kernel
theorem dX11_count_0 : decode cX11_count 0 = .ok (.iload_n 1, 1) := by decide +kernel
theorem dX11_count_1 : decode cX11_count 1 = .ok (.tableswitch 128 0 10 #[59, 59, 59, 66, 73, 80, 85, 90, 97, 118, 123], 59) := by decide +kernel
theorem dX11_count_60 : decode cX11_count 60 = .ok (.aload_n 0, 1) := by decide +kernel
theorem dX11_count_61 : decode cX11_count 61 = .ok (.getfield 7, 3) := by decide +kernel
theorem dX11_count_64 : decode cX11_count 64 = .ok (.iload_n 1, 1) := by decide +kernel
theorem dX11_count_65 : decode cX11_count 65 = .ok (.iaload, 1) := by decide +kernel
theorem dX11_count_66 : decode cX11_count 66 = .ok (.ireturn, 1) := by decide +kernel
theorem dX11_count_67 : decode cX11_count 67 = .ok (.aload_n 0, 1) := by decide +kernel
theorem dX11_count_68 : decode cX11_count 68 = .ok (.getfield 7, 3) := by decide +kernel
theorem dX11_count_71 : decode cX11_count 71 = .ok (.iconst 4, 1) := by decide +kernel
theorem dX11_count_72 : decode cX11_count 72 = .ok (.iaload, 1) := by decide +kernel
theorem dX11_count_73 : decode cX11_count 73 = .ok (.ireturn, 1) := by decide +kernel
theorem dX11_count_74 : decode cX11_count 74 = .ok (.aload_n 0, 1) := by decide +kernel
theorem dX11_count_75 : decode cX11_count 75 = .ok (.getfield 7, 3) := by decide +kernel
theorem dX11_count_78 : decode cX11_count 78 = .ok (.iconst 5, 1) := by decide +kernel
theorem dX11_count_79 : decode cX11_count 79 = .ok (.iaload, 1) := by decide +kernel
theorem dX11_count_80 : decode cX11_count 80 = .ok (.ireturn, 1) := by decide +kernel
theorem dX11_count_81 : decode cX11_count 81 = .ok (.aload_n 0, 1) := by decide +kernel
theorem dX11_count_82 : decode cX11_count 82 = .ok (.invokevirtual 154, 3) := by decide +kernel
theorem dX11_count_85 : decode cX11_count 85 = .ok (.ireturn, 1) := by decide +kernel
theorem dX11_count_86 : decode cX11_count 86 = .ok (.aload_n 0, 1) := by decide +kernel
theorem dX11_count_87 : decode cX11_count 87 = .ok (.invokevirtual 89, 3) := by decide +kernel
theorem dX11_count_90 : decode cX11_count 90 = .ok (.ireturn, 1) := by decide +kernel
theorem dX11_count_91 : decode cX11_count 91 = .ok (.aload_n 0, 1) := by decide +kernel
theorem dX11_count_92 : decode cX11_count 92 = .ok (.getfield 7, 3) := by decide +kernel
theorem dX11_count_95 : decode cX11_count 95 = .ok (.iconst 3, 1) := by decide +kernel
theorem dX11_count_96 : decode cX11_count 96 = .ok (.iaload, 1) := by decide +kernel
theorem dX11_count_97 : decode cX11_count 97 = .ok (.ireturn, 1) := by decide +kernel
theorem dX11_count_98 : decode cX11_count 98 = .ok (.aload_n 0, 1) := by decide +kernel
theorem dX11_count_99 : decode cX11_count 99 = .ok (.getfield 7, 3) := by decide +kernel
theorem dX11_count_102 : decode cX11_count 102 = .ok (.iconst 0, 1) := by decide +kernel
theorem dX11_count_103 : decode cX11_count 103 = .ok (.iaload, 1) := by decide +kernel
theorem dX11_count_104 : decode cX11_count 104 = .ok (.aload_n 0, 1) := by decide +kernel
theorem dX11_count_105 : decode cX11_count 105 = .ok (.getfield 7, 3) := by decide +kernel
theorem dX11_count_108 : decode cX11_count 108 = .ok (.iconst 2, 1) := by decide +kernel
theorem dX11_count_109 : decode cX11_count 109 = .ok (.iaload, 1) := by decide +kernel
theorem dX11_count_110 : decode cX11_count 110 = .ok (.aload_n 0, 1) := by decide +kernel
theorem dX11_count_111 : decode cX11_count 111 = .ok (.getfield 7, 3) := by decide +kernel
theorem dX11_count_114 : decode cX11_count 114 = .ok (.iconst 0, 1) := by decide +kernel
theorem dX11_count_115 : decode cX11_count 115 = .ok (.iaload, 1) := by decide +kernel
theorem dX11_count_116 : decode cX11_count 116 = .ok (.irem, 1) := by decide +kernel
theorem dX11_count_117 : decode cX11_count 117 = .ok (.isub, 1) := by decide +kernel
theorem dX11_count_118 : decode cX11_count 118 = .ok (.ireturn, 1) := by decide +kernel
theorem dX11_count_119 : decode cX11_count 119 = .ok (.aload_n 0, 1) := by decide +kernel
theorem dX11_count_120 : decode cX11_count 120 = .ok (.getfield 157, 3) := by decide +kernel
theorem dX11_count_123 : decode cX11_count 123 = .ok (.ireturn, 1) := by decide +kernel
theorem dX11_count_124 : decode cX11_count 124 = .ok (.aload_n 0, 1) := by decide +kernel
theorem dX11_count_125 : decode cX11_count 125 = .ok (.getfield 44, 3) := by decide +kernel
theorem dX11_count_128 : decode cX11_count 128 = .ok (.ireturn, 1) := by decide +kernel
theorem dX11_count_129 : decode cX11_count 129 = .ok (.bipush (-2), 2) := by decide +kernel
theorem dX11_count_131 : decode cX11_count 131 = .ok (.ireturn, 1) := by decide +kernel
theorem dX11_letter_0 : decode cX11_letter 0 = .ok (.aload_n 0, 1) := by decide +kernel
theorem dX11_letter_1 : decode cX11_letter 1 = .ok (.getfield 160, 3) := by decide +kernel
theorem dX11_letter_4 : decode cX11_letter 4 = .ok (.aload_n 0, 1) := by decide +kernel
theorem dX11_letter_5 : decode cX11_letter 5 = .ok (.getfield 157, 3) := by decide +kernel
theorem dX11_letter_8 : decode cX11_letter 8 = .ok (.if_icmp .ge 15, 3) := by decide +kernel
theorem dX11_letter_11 : decode cX11_letter 11 = .ok (.aload_n 0, 1) := by decide +kernel
theorem dX11_letter_12 : decode cX11_letter 12 = .ok (.getfield 23, 3) := by decide +kernel
theorem dX11_letter_15 : decode cX11_letter 15 = .ok (.aload_n 0, 1) := by decide +kernel
theorem dX11_letter_16 : decode cX11_letter 16 = .ok (.getfield 160, 3) := by decide +kernel
theorem dX11_letter_19 : decode cX11_letter 19 = .ok (.caload, 1) := by decide +kernel
theorem dX11_letter_20 : decode cX11_letter 20 = .ok (.goto 5, 3) := by decide +kernel
theorem dX11_letter_23 : decode cX11_letter 23 = .ok (.bipush (-6), 2) := by decide +kernel
theorem dX11_letter_25 : decode cX11_letter 25 = .ok (.ireturn, 1) := by decide +kernel
theorem dX11_wants_0 : decode cX11_wants 0 = .ok (.aload_n 0, 1) := by decide +kernel
theorem dX11_wants_1 : decode cX11_wants 1 = .ok (.getfield 163, 3) := by decide +kernel
theorem dX11_wants_4 : decode cX11_wants 4 = .ok (.bipush (-6), 2) := by decide +kernel
theorem dX11_wants_6 : decode cX11_wants 6 = .ok (.if_icmp .ne 30, 3) := by decide +kernel
theorem dX11_wants_9 : decode cX11_wants 9 = .ok (.aload_n 0, 1) := by decide +kernel
theorem dX11_wants_10 : decode cX11_wants 10 = .ok (.iload_n 1, 1) := by decide +kernel
theorem dX11_wants_11 : decode cX11_wants 11 = .ok (.ifCond .eq 8, 3) := by decide +kernel
theorem dX11_wants_14 : decode cX11_wants 14 = .ok (.bipush (-6), 2) := by decide +kernel
theorem dX11_wants_16 : decode cX11_wants 16 = .ok (.goto 7, 3) := by decide +kernel
theorem dX11_wants_19 : decode cX11_wants 19 = .ok (.aload_n 0, 1) := by decide +kernel
theorem dX11_wants_20 : decode cX11_wants 20 = .ok (.getfield 160, 3) := by decide +kernel
theorem dX11_wants_23 : decode cX11_wants 23 = .ok (.putfield 163, 3) := by decide +kernel
theorem dX11_wants_26 : decode cX11_wants 26 = .ok (.aload_n 0, 1) := by decide +kernel
theorem dX11_wants_27 : decode cX11_wants 27 = .ok (.dup, 1) := by decide +kernel
theorem dX11_wants_28 : decode cX11_wants 28 = .ok (.getfield 160, 3) := by decide +kernel
theorem dX11_wants_31 : decode cX11_wants 31 = .ok (.iconst 1, 1) := by decide +kernel
theorem dX11_wants_32 : decode cX11_wants 32 = .ok (.iadd, 1) := by decide +kernel
theorem dX11_wants_33 : decode cX11_wants 33 = .ok (.putfield 160, 3) := by decide +kernel
theorem dX11_wants_36 : decode cX11_wants 36 = .ok (.return_, 1) := by decide +kernel
theorem dX11_roomRead_0 : decode cX11_roomRead 0 = .ok (.aload_n 0, 1) := by decide +kernel
theorem dX11_roomRead_1 : decode cX11_roomRead 1 = .ok (.invokevirtual 166, 3) := by decide +kernel
theorem dX11_roomRead_4 : decode cX11_roomRead 4 = .ok (.bipush 97, 2) := by decide +kernel
theorem dX11_roomRead_6 : decode cX11_roomRead 6 = .ok (.isub, 1) := by decide +kernel
theorem dX11_roomRead_7 : decode cX11_roomRead 7 = .ok (.istore_n 2, 1) := by decide +kernel
theorem dX11_roomRead_8 : decode cX11_roomRead 8 = .ok (.aload_n 0, 1) := by decide +kernel
theorem dX11_roomRead_9 : decode cX11_roomRead 9 = .ok (.iload_n 2, 1) := by decide +kernel
theorem dX11_roomRead_10 : decode cX11_roomRead 10 = .ok (.invokestatic 51, 3) := by decide +kernel
theorem dX11_roomRead_13 : decode cX11_roomRead 13 = .ok (.ifCond .eq 12, 3) := by decide +kernel
theorem dX11_roomRead_16 : decode cX11_roomRead 16 = .ok (.iload_n 2, 1) := by decide +kernel
theorem dX11_roomRead_17 : decode cX11_roomRead 17 = .ok (.iload_n 1, 1) := by decide +kernel
theorem dX11_roomRead_18 : decode cX11_roomRead 18 = .ok (.if_icmp .eq 7, 3) := by decide +kernel
theorem dX11_roomRead_21 : decode cX11_roomRead 21 = .ok (.iconst 1, 1) := by decide +kernel
theorem dX11_roomRead_22 : decode cX11_roomRead 22 = .ok (.goto 4, 3) := by decide +kernel
theorem dX11_roomRead_25 : decode cX11_roomRead 25 = .ok (.iconst 0, 1) := by decide +kernel
theorem dX11_roomRead_26 : decode cX11_roomRead 26 = .ok (.invokevirtual 169, 3) := by decide +kernel
theorem dX11_roomRead_29 : decode cX11_roomRead 29 = .ok (.iload_n 2, 1) := by decide +kernel
theorem dX11_roomRead_30 : decode cX11_roomRead 30 = .ok (.ireturn, 1) := by decide +kernel
theorem dX11_digit_0 : decode cX11_digit 0 = .ok (.aload_n 0, 1) := by decide +kernel
theorem dX11_digit_1 : decode cX11_digit 1 = .ok (.invokevirtual 166, 3) := by decide +kernel
theorem dX11_digit_4 : decode cX11_digit 4 = .ok (.bipush 48, 2) := by decide +kernel
theorem dX11_digit_6 : decode cX11_digit 6 = .ok (.isub, 1) := by decide +kernel
theorem dX11_digit_7 : decode cX11_digit 7 = .ok (.istore_n 1, 1) := by decide +kernel
theorem dX11_digit_8 : decode cX11_digit 8 = .ok (.aload_n 0, 1) := by decide +kernel
theorem dX11_digit_9 : decode cX11_digit 9 = .ok (.iload_n 1, 1) := by decide +kernel
theorem dX11_digit_10 : decode cX11_digit 10 = .ok (.iconst 1, 1) := by decide +kernel
theorem dX11_digit_11 : decode cX11_digit 11 = .ok (.bipush 9, 2) := by decide +kernel
theorem dX11_digit_13 : decode cX11_digit 13 = .ok (.invokestatic 36, 3) := by decide +kernel
theorem dX11_digit_16 : decode cX11_digit 16 = .ok (.invokevirtual 169, 3) := by decide +kernel
theorem dX11_digit_19 : decode cX11_digit 19 = .ok (.iload_n 1, 1) := by decide +kernel
theorem dX11_digit_20 : decode cX11_digit 20 = .ok (.ireturn, 1) := by decide +kernel
theorem dX11_readPad_0 : decode cX11_readPad 0 = .ok (.aload_n 0, 1) := by decide +kernel
theorem dX11_readPad_1 : decode cX11_readPad 1 = .ok (.iconst 0, 1) := by decide +kernel
theorem dX11_readPad_2 : decode cX11_readPad 2 = .ok (.putfield 173, 3) := by decide +kernel
theorem dX11_readPad_5 : decode cX11_readPad 5 = .ok (.aload_n 0, 1) := by decide +kernel
theorem dX11_readPad_6 : decode cX11_readPad 6 = .ok (.iconst 0, 1) := by decide +kernel
theorem dX11_readPad_7 : decode cX11_readPad 7 = .ok (.putfield 160, 3) := by decide +kernel
theorem dX11_readPad_10 : decode cX11_readPad 10 = .ok (.aload_n 0, 1) := by decide +kernel
theorem dX11_readPad_11 : decode cX11_readPad 11 = .ok (.bipush (-6), 2) := by decide +kernel
theorem dX11_readPad_13 : decode cX11_readPad 13 = .ok (.putfield 163, 3) := by decide +kernel
theorem dX11_readPad_16 : decode cX11_readPad 16 = .ok (.iconst 1, 1) := by decide +kernel
theorem dX11_readPad_17 : decode cX11_readPad 17 = .ok (.istore_n 1, 1) := by decide +kernel
theorem dX11_readPad_18 : decode cX11_readPad 18 = .ok (.iload_n 1, 1) := by decide +kernel
theorem dX11_readPad_19 : decode cX11_readPad 19 = .ok (.ifCond .eq 140, 3) := by decide +kernel
theorem dX11_readPad_22 : decode cX11_readPad 22 = .ok (.iconst 4, 1) := by decide +kernel
theorem dX11_readPad_23 : decode cX11_readPad 23 = .ok (.aload_n 0, 1) := by decide +kernel
theorem dX11_readPad_24 : decode cX11_readPad 24 = .ok (.getfield 173, 3) := by decide +kernel
theorem dX11_readPad_27 : decode cX11_readPad 27 = .ok (.imul, 1) := by decide +kernel
theorem dX11_readPad_28 : decode cX11_readPad 28 = .ok (.istore_n 2, 1) := by decide +kernel
theorem dX11_readPad_29 : decode cX11_readPad 29 = .ok (.aload_n 0, 1) := by decide +kernel
theorem dX11_readPad_30 : decode cX11_readPad 30 = .ok (.getfield 33, 3) := by decide +kernel
theorem dX11_readPad_33 : decode cX11_readPad 33 = .ok (.iload_n 2, 1) := by decide +kernel
theorem dX11_readPad_34 : decode cX11_readPad 34 = .ok (.aload_n 0, 1) := by decide +kernel
theorem dX11_readPad_35 : decode cX11_readPad 35 = .ok (.bipush (-6), 2) := by decide +kernel
theorem dX11_readPad_37 : decode cX11_readPad 37 = .ok (.invokevirtual 176, 3) := by decide +kernel
theorem dX11_readPad_40 : decode cX11_readPad 40 = .ok (.iastore, 1) := by decide +kernel
theorem dX11_readPad_41 : decode cX11_readPad 41 = .ok (.aload_n 0, 1) := by decide +kernel
theorem dX11_readPad_42 : decode cX11_readPad 42 = .ok (.getfield 33, 3) := by decide +kernel
theorem dX11_readPad_45 : decode cX11_readPad 45 = .ok (.iload_n 2, 1) := by decide +kernel
theorem dX11_readPad_46 : decode cX11_readPad 46 = .ok (.iconst 1, 1) := by decide +kernel
theorem dX11_readPad_47 : decode cX11_readPad 47 = .ok (.iadd, 1) := by decide +kernel
theorem dX11_readPad_48 : decode cX11_readPad 48 = .ok (.aload_n 0, 1) := by decide +kernel
theorem dX11_readPad_49 : decode cX11_readPad 49 = .ok (.aload_n 0, 1) := by decide +kernel
theorem dX11_readPad_50 : decode cX11_readPad 50 = .ok (.getfield 33, 3) := by decide +kernel
theorem dX11_readPad_53 : decode cX11_readPad 53 = .ok (.iload_n 2, 1) := by decide +kernel
theorem dX11_readPad_54 : decode cX11_readPad 54 = .ok (.iaload, 1) := by decide +kernel
theorem dX11_readPad_55 : decode cX11_readPad 55 = .ok (.invokevirtual 176, 3) := by decide +kernel
theorem dX11_readPad_58 : decode cX11_readPad 58 = .ok (.iastore, 1) := by decide +kernel
theorem dX11_readPad_59 : decode cX11_readPad 59 = .ok (.aload_n 0, 1) := by decide +kernel
theorem dX11_readPad_60 : decode cX11_readPad 60 = .ok (.getfield 33, 3) := by decide +kernel
theorem dX11_readPad_63 : decode cX11_readPad 63 = .ok (.iload_n 2, 1) := by decide +kernel
theorem dX11_readPad_64 : decode cX11_readPad 64 = .ok (.iconst 2, 1) := by decide +kernel
theorem dX11_readPad_65 : decode cX11_readPad 65 = .ok (.iadd, 1) := by decide +kernel
theorem dX11_readPad_66 : decode cX11_readPad 66 = .ok (.aload_n 0, 1) := by decide +kernel
theorem dX11_readPad_67 : decode cX11_readPad 67 = .ok (.invokevirtual 179, 3) := by decide +kernel
theorem dX11_readPad_70 : decode cX11_readPad 70 = .ok (.iastore, 1) := by decide +kernel
theorem dX11_readPad_71 : decode cX11_readPad 71 = .ok (.aload_n 0, 1) := by decide +kernel
theorem dX11_readPad_72 : decode cX11_readPad 72 = .ok (.getfield 33, 3) := by decide +kernel
theorem dX11_readPad_75 : decode cX11_readPad 75 = .ok (.iload_n 2, 1) := by decide +kernel
theorem dX11_readPad_76 : decode cX11_readPad 76 = .ok (.iconst 3, 1) := by decide +kernel
theorem dX11_readPad_77 : decode cX11_readPad 77 = .ok (.iadd, 1) := by decide +kernel
theorem dX11_readPad_78 : decode cX11_readPad 78 = .ok (.aload_n 0, 1) := by decide +kernel
theorem dX11_readPad_79 : decode cX11_readPad 79 = .ok (.invokevirtual 179, 3) := by decide +kernel
theorem dX11_readPad_82 : decode cX11_readPad 82 = .ok (.iastore, 1) := by decide +kernel
theorem dX11_readPad_83 : decode cX11_readPad 83 = .ok (.aload_n 0, 1) := by decide +kernel
theorem dX11_readPad_84 : decode cX11_readPad 84 = .ok (.dup, 1) := by decide +kernel
theorem dX11_readPad_85 : decode cX11_readPad 85 = .ok (.getfield 173, 3) := by decide +kernel
theorem dX11_readPad_88 : decode cX11_readPad 88 = .ok (.iconst 1, 1) := by decide +kernel
theorem dX11_readPad_89 : decode cX11_readPad 89 = .ok (.iadd, 1) := by decide +kernel
theorem dX11_readPad_90 : decode cX11_readPad 90 = .ok (.putfield 173, 3) := by decide +kernel
theorem dX11_readPad_93 : decode cX11_readPad 93 = .ok (.aload_n 0, 1) := by decide +kernel
theorem dX11_readPad_94 : decode cX11_readPad 94 = .ok (.getfield 163, 3) := by decide +kernel
theorem dX11_readPad_97 : decode cX11_readPad 97 = .ok (.bipush (-6), 2) := by decide +kernel
theorem dX11_readPad_99 : decode cX11_readPad 99 = .ok (.if_icmp .ne 18, 3) := by decide +kernel
theorem dX11_readPad_102 : decode cX11_readPad 102 = .ok (.aload_n 0, 1) := by decide +kernel
theorem dX11_readPad_103 : decode cX11_readPad 103 = .ok (.getfield 160, 3) := by decide +kernel
theorem dX11_readPad_106 : decode cX11_readPad 106 = .ok (.aload_n 0, 1) := by decide +kernel
theorem dX11_readPad_107 : decode cX11_readPad 107 = .ok (.getfield 157, 3) := by decide +kernel
theorem dX11_readPad_110 : decode cX11_readPad 110 = .ok (.if_icmp .ge 7, 3) := by decide +kernel
theorem dX11_readPad_113 : decode cX11_readPad 113 = .ok (.iconst 1, 1) := by decide +kernel
theorem dX11_readPad_114 : decode cX11_readPad 114 = .ok (.goto 4, 3) := by decide +kernel
theorem dX11_readPad_117 : decode cX11_readPad 117 = .ok (.iconst 0, 1) := by decide +kernel
theorem dX11_readPad_118 : decode cX11_readPad 118 = .ok (.istore_n 1, 1) := by decide +kernel
theorem dX11_readPad_119 : decode cX11_readPad 119 = .ok (.iload_n 1, 1) := by decide +kernel
theorem dX11_readPad_120 : decode cX11_readPad 120 = .ok (.ifCond .eq 36, 3) := by decide +kernel
theorem dX11_readPad_123 : decode cX11_readPad 123 = .ok (.aload_n 0, 1) := by decide +kernel
theorem dX11_readPad_124 : decode cX11_readPad 124 = .ok (.aload_n 0, 1) := by decide +kernel
theorem dX11_readPad_125 : decode cX11_readPad 125 = .ok (.invokevirtual 166, 3) := by decide +kernel
theorem dX11_readPad_128 : decode cX11_readPad 128 = .ok (.bipush 59, 2) := by decide +kernel
theorem dX11_readPad_130 : decode cX11_readPad 130 = .ok (.if_icmp .ne 7, 3) := by decide +kernel
theorem dX11_readPad_133 : decode cX11_readPad 133 = .ok (.iconst 1, 1) := by decide +kernel
theorem dX11_readPad_134 : decode cX11_readPad 134 = .ok (.goto 4, 3) := by decide +kernel
theorem dX11_readPad_137 : decode cX11_readPad 137 = .ok (.iconst 0, 1) := by decide +kernel
theorem dX11_readPad_138 : decode cX11_readPad 138 = .ok (.invokevirtual 169, 3) := by decide +kernel
theorem dX11_readPad_141 : decode cX11_readPad 141 = .ok (.aload_n 0, 1) := by decide +kernel
theorem dX11_readPad_142 : decode cX11_readPad 142 = .ok (.getfield 163, 3) := by decide +kernel
theorem dX11_readPad_145 : decode cX11_readPad 145 = .ok (.bipush (-6), 2) := by decide +kernel
theorem dX11_readPad_147 : decode cX11_readPad 147 = .ok (.if_icmp .ne 7, 3) := by decide +kernel
theorem dX11_readPad_150 : decode cX11_readPad 150 = .ok (.iconst 1, 1) := by decide +kernel
theorem dX11_readPad_151 : decode cX11_readPad 151 = .ok (.goto 4, 3) := by decide +kernel
theorem dX11_readPad_154 : decode cX11_readPad 154 = .ok (.iconst 0, 1) := by decide +kernel
theorem dX11_readPad_155 : decode cX11_readPad 155 = .ok (.istore_n 1, 1) := by decide +kernel
theorem dX11_readPad_156 : decode cX11_readPad 156 = .ok (.goto (-138), 3) := by decide +kernel
theorem dX11_readPad_159 : decode cX11_readPad 159 = .ok (.aload_n 0, 1) := by decide +kernel
theorem dX11_readPad_160 : decode cX11_readPad 160 = .ok (.getfield 163, 3) := by decide +kernel
theorem dX11_readPad_163 : decode cX11_readPad 163 = .ok (.ireturn, 1) := by decide +kernel
theorem dX11_fault_0 : decode cX11_fault 0 = .ok (.aload_n 0, 1) := by decide +kernel
theorem dX11_fault_1 : decode cX11_fault 1 = .ok (.invokevirtual 182, 3) := by decide +kernel
theorem dX11_fault_4 : decode cX11_fault 4 = .ok (.ireturn, 1) := by decide +kernel
theorem dX11_read_0 : decode cX11_read 0 = .ok (.aload_n 0, 1) := by decide +kernel
theorem dX11_read_1 : decode cX11_read 1 = .ok (.invokevirtual 182, 3) := by decide +kernel
theorem dX11_read_4 : decode cX11_read 4 = .ok (.bipush (-6), 2) := by decide +kernel
theorem dX11_read_6 : decode cX11_read 6 = .ok (.if_icmp .eq 6, 3) := by decide +kernel
theorem dX11_read_9 : decode cX11_read 9 = .ok (.bipush (-3), 2) := by decide +kernel
theorem dX11_read_11 : decode cX11_read 11 = .ok (.ireturn, 1) := by decide +kernel
theorem dX11_read_12 : decode cX11_read 12 = .ok (.aload_n 0, 1) := by decide +kernel
theorem dX11_read_13 : decode cX11_read 13 = .ok (.getfield 7, 3) := by decide +kernel
theorem dX11_read_16 : decode cX11_read 16 = .ok (.iconst 4, 1) := by decide +kernel
theorem dX11_read_17 : decode cX11_read 17 = .ok (.iaload, 1) := by decide +kernel
theorem dX11_read_18 : decode cX11_read 18 = .ok (.aload_n 0, 1) := by decide +kernel
theorem dX11_read_19 : decode cX11_read 19 = .ok (.getfield 173, 3) := by decide +kernel
theorem dX11_read_22 : decode cX11_read 22 = .ok (.iadd, 1) := by decide +kernel
theorem dX11_read_23 : decode cX11_read 23 = .ok (.bipush 20, 2) := by decide +kernel
theorem dX11_read_25 : decode cX11_read 25 = .ok (.if_icmp .le 6, 3) := by decide +kernel
theorem dX11_read_28 : decode cX11_read 28 = .ok (.bipush (-4), 2) := by decide +kernel
theorem dX11_read_30 : decode cX11_read 30 = .ok (.ireturn, 1) := by decide +kernel
theorem dX11_read_31 : decode cX11_read 31 = .ok (.aload_n 0, 1) := by decide +kernel
theorem dX11_read_32 : decode cX11_read 32 = .ok (.invokevirtual 48, 3) := by decide +kernel
theorem dX11_read_35 : decode cX11_read 35 = .ok (.iconst 0, 1) := by decide +kernel
theorem dX11_read_36 : decode cX11_read 36 = .ok (.istore_n 1, 1) := by decide +kernel
theorem dX11_read_37 : decode cX11_read 37 = .ok (.iload_n 1, 1) := by decide +kernel
theorem dX11_read_38 : decode cX11_read 38 = .ok (.iconst 4, 1) := by decide +kernel
theorem dX11_read_39 : decode cX11_read 39 = .ok (.aload_n 0, 1) := by decide +kernel
theorem dX11_read_40 : decode cX11_read 40 = .ok (.getfield 173, 3) := by decide +kernel
theorem dX11_read_43 : decode cX11_read 43 = .ok (.imul, 1) := by decide +kernel
theorem dX11_read_44 : decode cX11_read 44 = .ok (.if_icmp .ge 44, 3) := by decide +kernel
theorem dX11_read_47 : decode cX11_read 47 = .ok (.aload_n 0, 1) := by decide +kernel
theorem dX11_read_48 : decode cX11_read 48 = .ok (.aload_n 0, 1) := by decide +kernel
theorem dX11_read_49 : decode cX11_read 49 = .ok (.getfield 33, 3) := by decide +kernel
theorem dX11_read_52 : decode cX11_read 52 = .ok (.iload_n 1, 1) := by decide +kernel
theorem dX11_read_53 : decode cX11_read 53 = .ok (.iaload, 1) := by decide +kernel
theorem dX11_read_54 : decode cX11_read 54 = .ok (.aload_n 0, 1) := by decide +kernel
theorem dX11_read_55 : decode cX11_read 55 = .ok (.getfield 33, 3) := by decide +kernel
theorem dX11_read_58 : decode cX11_read 58 = .ok (.iload_n 1, 1) := by decide +kernel
theorem dX11_read_59 : decode cX11_read 59 = .ok (.iconst 1, 1) := by decide +kernel
theorem dX11_read_60 : decode cX11_read 60 = .ok (.iadd, 1) := by decide +kernel
theorem dX11_read_61 : decode cX11_read 61 = .ok (.iaload, 1) := by decide +kernel
theorem dX11_read_62 : decode cX11_read 62 = .ok (.aload_n 0, 1) := by decide +kernel
theorem dX11_read_63 : decode cX11_read 63 = .ok (.getfield 33, 3) := by decide +kernel
theorem dX11_read_66 : decode cX11_read 66 = .ok (.iload_n 1, 1) := by decide +kernel
theorem dX11_read_67 : decode cX11_read 67 = .ok (.iconst 2, 1) := by decide +kernel
theorem dX11_read_68 : decode cX11_read 68 = .ok (.iadd, 1) := by decide +kernel
theorem dX11_read_69 : decode cX11_read 69 = .ok (.iaload, 1) := by decide +kernel
theorem dX11_read_70 : decode cX11_read 70 = .ok (.aload_n 0, 1) := by decide +kernel
theorem dX11_read_71 : decode cX11_read 71 = .ok (.getfield 33, 3) := by decide +kernel
theorem dX11_read_74 : decode cX11_read 74 = .ok (.iload_n 1, 1) := by decide +kernel
theorem dX11_read_75 : decode cX11_read 75 = .ok (.iconst 3, 1) := by decide +kernel
theorem dX11_read_76 : decode cX11_read 76 = .ok (.iadd, 1) := by decide +kernel
theorem dX11_read_77 : decode cX11_read 77 = .ok (.iaload, 1) := by decide +kernel
theorem dX11_read_78 : decode cX11_read 78 = .ok (.invokevirtual 59, 3) := by decide +kernel
theorem dX11_read_81 : decode cX11_read 81 = .ok (.pop, 1) := by decide +kernel
theorem dX11_read_82 : decode cX11_read 82 = .ok (.iinc 1 4, 3) := by decide +kernel
theorem dX11_read_85 : decode cX11_read 85 = .ok (.goto (-48), 3) := by decide +kernel
theorem dX11_read_88 : decode cX11_read 88 = .ok (.aload_n 0, 1) := by decide +kernel
theorem dX11_read_89 : decode cX11_read 89 = .ok (.iconst 0, 1) := by decide +kernel
theorem dX11_read_90 : decode cX11_read 90 = .ok (.putfield 157, 3) := by decide +kernel
theorem dX11_read_93 : decode cX11_read 93 = .ok (.aload_n 0, 1) := by decide +kernel
theorem dX11_read_94 : decode cX11_read 94 = .ok (.getfield 7, 3) := by decide +kernel
theorem dX11_read_97 : decode cX11_read 97 = .ok (.iconst 4, 1) := by decide +kernel
theorem dX11_read_98 : decode cX11_read 98 = .ok (.iaload, 1) := by decide +kernel
theorem dX11_read_99 : decode cX11_read 99 = .ok (.ireturn, 1) := by decide +kernel
theorem dX11_write_0 : decode cX11_write 0 = .ok (.iconst 0, 1) := by decide +kernel
theorem dX11_write_1 : decode cX11_write 1 = .ok (.istore_n 3, 1) := by decide +kernel
theorem dX11_write_2 : decode cX11_write 2 = .ok (.lload_n 1, 1) := by decide +kernel
theorem dX11_write_3 : decode cX11_write 3 = .ok (.lstore 4, 2) := by decide +kernel
theorem dX11_write_5 : decode cX11_write 5 = .ok (.iconst 1, 1) := by decide +kernel
theorem dX11_write_6 : decode cX11_write 6 = .ok (.istore 6, 2) := by decide +kernel
theorem dX11_write_8 : decode cX11_write 8 = .ok (.lload 4, 2) := by decide +kernel
theorem dX11_write_10 : decode cX11_write 10 = .ok (.lconst 0, 1) := by decide +kernel
theorem dX11_write_11 : decode cX11_write 11 = .ok (.lcmp, 1) := by decide +kernel
theorem dX11_write_12 : decode cX11_write 12 = .ok (.ifCond .eq 37, 3) := by decide +kernel
theorem dX11_write_15 : decode cX11_write 15 = .ok (.iload 6, 2) := by decide +kernel
theorem dX11_write_17 : decode cX11_write 17 = .ok (.ifCond .eq 32, 3) := by decide +kernel
theorem dX11_write_20 : decode cX11_write 20 = .ok (.lload 4, 2) := by decide +kernel
theorem dX11_write_22 : decode cX11_write 22 = .ok (.ldc2_w 185, 3) := by decide +kernel
theorem dX11_write_25 : decode cX11_write 25 = .ok (.land, 1) := by decide +kernel
theorem dX11_write_26 : decode cX11_write 26 = .ok (.l2i, 1) := by decide +kernel
theorem dX11_write_27 : decode cX11_write 27 = .ok (.bipush 33, 2) := by decide +kernel
theorem dX11_write_29 : decode cX11_write 29 = .ok (.bipush 126, 2) := by decide +kernel
theorem dX11_write_31 : decode cX11_write 31 = .ok (.invokestatic 36, 3) := by decide +kernel
theorem dX11_write_34 : decode cX11_write 34 = .ok (.istore 6, 2) := by decide +kernel
theorem dX11_write_36 : decode cX11_write 36 = .ok (.lload 4, 2) := by decide +kernel
theorem dX11_write_38 : decode cX11_write 38 = .ok (.bipush 8, 2) := by decide +kernel
theorem dX11_write_40 : decode cX11_write 40 = .ok (.lushr, 1) := by decide +kernel
theorem dX11_write_41 : decode cX11_write 41 = .ok (.lstore 4, 2) := by decide +kernel
theorem dX11_write_43 : decode cX11_write 43 = .ok (.iinc 3 1, 3) := by decide +kernel
theorem dX11_write_46 : decode cX11_write 46 = .ok (.goto (-38), 3) := by decide +kernel
theorem dX11_write_49 : decode cX11_write 49 = .ok (.iload_n 3, 1) := by decide +kernel
theorem dX11_write_50 : decode cX11_write 50 = .ok (.ifCond .eq 8, 3) := by decide +kernel
theorem dX11_write_53 : decode cX11_write 53 = .ok (.iload 6, 2) := by decide +kernel
theorem dX11_write_55 : decode cX11_write 55 = .ok (.ifCond .ne 6, 3) := by decide +kernel
theorem dX11_write_58 : decode cX11_write 58 = .ok (.bipush (-2), 2) := by decide +kernel
theorem dX11_write_60 : decode cX11_write 60 = .ok (.ireturn, 1) := by decide +kernel
theorem dX11_write_61 : decode cX11_write 61 = .ok (.aload_n 0, 1) := by decide +kernel
theorem dX11_write_62 : decode cX11_write 62 = .ok (.getfield 157, 3) := by decide +kernel
theorem dX11_write_65 : decode cX11_write 65 = .ok (.iload_n 3, 1) := by decide +kernel
theorem dX11_write_66 : decode cX11_write 66 = .ok (.iadd, 1) := by decide +kernel
theorem dX11_write_67 : decode cX11_write 67 = .ok (.bipush 60, 2) := by decide +kernel
theorem dX11_write_69 : decode cX11_write 69 = .ok (.if_icmp .le 6, 3) := by decide +kernel
theorem dX11_write_72 : decode cX11_write 72 = .ok (.bipush (-4), 2) := by decide +kernel
theorem dX11_write_74 : decode cX11_write 74 = .ok (.ireturn, 1) := by decide +kernel
theorem dX11_write_75 : decode cX11_write 75 = .ok (.iload_n 3, 1) := by decide +kernel
theorem dX11_write_76 : decode cX11_write 76 = .ok (.iconst 1, 1) := by decide +kernel
theorem dX11_write_77 : decode cX11_write 77 = .ok (.isub, 1) := by decide +kernel
theorem dX11_write_78 : decode cX11_write 78 = .ok (.istore 7, 2) := by decide +kernel
theorem dX11_write_80 : decode cX11_write 80 = .ok (.iload 7, 2) := by decide +kernel
theorem dX11_write_82 : decode cX11_write 82 = .ok (.ifCond .lt 41, 3) := by decide +kernel
theorem dX11_write_85 : decode cX11_write 85 = .ok (.aload_n 0, 1) := by decide +kernel
theorem dX11_write_86 : decode cX11_write 86 = .ok (.getfield 23, 3) := by decide +kernel
theorem dX11_write_89 : decode cX11_write 89 = .ok (.aload_n 0, 1) := by decide +kernel
theorem dX11_write_90 : decode cX11_write 90 = .ok (.getfield 157, 3) := by decide +kernel
theorem dX11_write_93 : decode cX11_write 93 = .ok (.lload_n 1, 1) := by decide +kernel
theorem dX11_write_94 : decode cX11_write 94 = .ok (.bipush 8, 2) := by decide +kernel
theorem dX11_write_96 : decode cX11_write 96 = .ok (.iload 7, 2) := by decide +kernel
theorem dX11_write_98 : decode cX11_write 98 = .ok (.imul, 1) := by decide +kernel
theorem dX11_write_99 : decode cX11_write 99 = .ok (.lushr, 1) := by decide +kernel
theorem dX11_write_100 : decode cX11_write 100 = .ok (.ldc2_w 185, 3) := by decide +kernel
theorem dX11_write_103 : decode cX11_write 103 = .ok (.land, 1) := by decide +kernel
theorem dX11_write_104 : decode cX11_write 104 = .ok (.l2i, 1) := by decide +kernel
theorem dX11_write_105 : decode cX11_write 105 = .ok (.i2c, 1) := by decide +kernel
theorem dX11_write_106 : decode cX11_write 106 = .ok (.castore, 1) := by decide +kernel
theorem dX11_write_107 : decode cX11_write 107 = .ok (.aload_n 0, 1) := by decide +kernel
theorem dX11_write_108 : decode cX11_write 108 = .ok (.dup, 1) := by decide +kernel
theorem dX11_write_109 : decode cX11_write 109 = .ok (.getfield 157, 3) := by decide +kernel
theorem dX11_write_112 : decode cX11_write 112 = .ok (.iconst 1, 1) := by decide +kernel
theorem dX11_write_113 : decode cX11_write 113 = .ok (.iadd, 1) := by decide +kernel
theorem dX11_write_114 : decode cX11_write 114 = .ok (.putfield 157, 3) := by decide +kernel
theorem dX11_write_117 : decode cX11_write 117 = .ok (.iinc 7 (-1), 3) := by decide +kernel
theorem dX11_write_120 : decode cX11_write 120 = .ok (.goto (-40), 3) := by decide +kernel
theorem dX11_write_123 : decode cX11_write 123 = .ok (.aload_n 0, 1) := by decide +kernel
theorem dX11_write_124 : decode cX11_write 124 = .ok (.getfield 157, 3) := by decide +kernel
theorem dX11_write_127 : decode cX11_write 127 = .ok (.ireturn, 1) := by decide +kernel
theorem dX11_wipe_0 : decode cX11_wipe 0 = .ok (.aload_n 0, 1) := by decide +kernel
theorem dX11_wipe_1 : decode cX11_wipe 1 = .ok (.getfield 157, 3) := by decide +kernel
theorem dX11_wipe_4 : decode cX11_wipe 4 = .ok (.istore_n 1, 1) := by decide +kernel
theorem dX11_wipe_5 : decode cX11_wipe 5 = .ok (.aload_n 0, 1) := by decide +kernel
theorem dX11_wipe_6 : decode cX11_wipe 6 = .ok (.iconst 0, 1) := by decide +kernel
theorem dX11_wipe_7 : decode cX11_wipe 7 = .ok (.putfield 157, 3) := by decide +kernel
theorem dX11_wipe_10 : decode cX11_wipe 10 = .ok (.iload_n 1, 1) := by decide +kernel
theorem dX11_wipe_11 : decode cX11_wipe 11 = .ok (.ireturn, 1) := by decide +kernel
end
section
theorem dL_law_0 : decode cL_law 0 = .ok (.new 7, 3) := by decide +kernel
theorem dL_law_3 : decode cL_law 3 = .ok (.dup, 1) := by decide +kernel
theorem dL_law_4 : decode cL_law 4 = .ok (.invokespecial 9, 3) := by decide +kernel
theorem dL_law_7 : decode cL_law 7 = .ok (.astore_n 1, 1) := by decide +kernel
theorem dL_law_8 : decode cL_law 8 = .ok (.new 10, 3) := by decide +kernel
theorem dL_law_11 : decode cL_law 11 = .ok (.dup, 1) := by decide +kernel
theorem dL_law_12 : decode cL_law 12 = .ok (.invokespecial 12, 3) := by decide +kernel
theorem dL_law_15 : decode cL_law 15 = .ok (.astore_n 2, 1) := by decide +kernel
theorem dL_law_16 : decode cL_law 16 = .ok (.iconst 0, 1) := by decide +kernel
theorem dL_law_17 : decode cL_law 17 = .ok (.istore_n 3, 1) := by decide +kernel
theorem dL_law_18 : decode cL_law 18 = .ok (.iload_n 3, 1) := by decide +kernel
theorem dL_law_19 : decode cL_law 19 = .ok (.aload_n 0, 1) := by decide +kernel
theorem dL_law_20 : decode cL_law 20 = .ok (.arraylength, 1) := by decide +kernel
theorem dL_law_21 : decode cL_law 21 = .ok (.iconst 5, 1) := by decide +kernel
theorem dL_law_22 : decode cL_law 22 = .ok (.isub, 1) := by decide +kernel
theorem dL_law_23 : decode cL_law 23 = .ok (.if_icmp .gt 893, 3) := by decide +kernel
theorem dL_law_26 : decode cL_law 26 = .ok (.aload_n 0, 1) := by decide +kernel
theorem dL_law_27 : decode cL_law 27 = .ok (.iload_n 3, 1) := by decide +kernel
theorem dL_law_28 : decode cL_law 28 = .ok (.iaload, 1) := by decide +kernel
theorem dL_law_29 : decode cL_law 29 = .ok (.bipush 31, 2) := by decide +kernel
theorem dL_law_31 : decode cL_law 31 = .ok (.iand, 1) := by decide +kernel
theorem dL_law_32 : decode cL_law 32 = .ok (.tableswitch 878 0 25 #[120, 153, 206, 219, 242, 275, 308, 341, 374, 397, 430, 463, 496, 529, 562, 585, 628, 661, 684, 717, 740, 793, 806, 819, 832, 855], 120) := by decide +kernel
theorem dL_law_152 : decode cL_law 152 = .ok (.aload_n 1, 1) := by decide +kernel
theorem dL_law_153 : decode cL_law 153 = .ok (.aload_n 0, 1) := by decide +kernel
theorem dL_law_154 : decode cL_law 154 = .ok (.iload_n 3, 1) := by decide +kernel
theorem dL_law_155 : decode cL_law 155 = .ok (.iconst 1, 1) := by decide +kernel
theorem dL_law_156 : decode cL_law 156 = .ok (.iadd, 1) := by decide +kernel
theorem dL_law_157 : decode cL_law 157 = .ok (.iaload, 1) := by decide +kernel
theorem dL_law_158 : decode cL_law 158 = .ok (.aload_n 0, 1) := by decide +kernel
theorem dL_law_159 : decode cL_law 159 = .ok (.iload_n 3, 1) := by decide +kernel
theorem dL_law_160 : decode cL_law 160 = .ok (.iconst 2, 1) := by decide +kernel
theorem dL_law_161 : decode cL_law 161 = .ok (.iadd, 1) := by decide +kernel
theorem dL_law_162 : decode cL_law 162 = .ok (.iaload, 1) := by decide +kernel
theorem dL_law_163 : decode cL_law 163 = .ok (.invokevirtual 13, 3) := by decide +kernel
theorem dL_law_166 : decode cL_law 166 = .ok (.aload_n 2, 1) := by decide +kernel
theorem dL_law_167 : decode cL_law 167 = .ok (.aload_n 0, 1) := by decide +kernel
theorem dL_law_168 : decode cL_law 168 = .ok (.iload_n 3, 1) := by decide +kernel
theorem dL_law_169 : decode cL_law 169 = .ok (.iconst 1, 1) := by decide +kernel
theorem dL_law_170 : decode cL_law 170 = .ok (.iadd, 1) := by decide +kernel
theorem dL_law_171 : decode cL_law 171 = .ok (.iaload, 1) := by decide +kernel
theorem dL_law_172 : decode cL_law 172 = .ok (.aload_n 0, 1) := by decide +kernel
theorem dL_law_173 : decode cL_law 173 = .ok (.iload_n 3, 1) := by decide +kernel
theorem dL_law_174 : decode cL_law 174 = .ok (.iconst 2, 1) := by decide +kernel
theorem dL_law_175 : decode cL_law 175 = .ok (.iadd, 1) := by decide +kernel
theorem dL_law_176 : decode cL_law 176 = .ok (.iaload, 1) := by decide +kernel
theorem dL_law_177 : decode cL_law 177 = .ok (.invokevirtual 17, 3) := by decide +kernel
theorem dL_law_180 : decode cL_law 180 = .ok (.if_icmp .eq 730, 3) := by decide +kernel
theorem dL_law_183 : decode cL_law 183 = .ok (.iconst 0, 1) := by decide +kernel
theorem dL_law_184 : decode cL_law 184 = .ok (.ireturn, 1) := by decide +kernel
theorem dL_law_185 : decode cL_law 185 = .ok (.aload_n 1, 1) := by decide +kernel
theorem dL_law_186 : decode cL_law 186 = .ok (.aload_n 0, 1) := by decide +kernel
theorem dL_law_187 : decode cL_law 187 = .ok (.iload_n 3, 1) := by decide +kernel
theorem dL_law_188 : decode cL_law 188 = .ok (.iconst 1, 1) := by decide +kernel
theorem dL_law_189 : decode cL_law 189 = .ok (.iadd, 1) := by decide +kernel
theorem dL_law_190 : decode cL_law 190 = .ok (.iaload, 1) := by decide +kernel
theorem dL_law_191 : decode cL_law 191 = .ok (.aload_n 0, 1) := by decide +kernel
theorem dL_law_192 : decode cL_law 192 = .ok (.iload_n 3, 1) := by decide +kernel
theorem dL_law_193 : decode cL_law 193 = .ok (.iconst 2, 1) := by decide +kernel
theorem dL_law_194 : decode cL_law 194 = .ok (.iadd, 1) := by decide +kernel
theorem dL_law_195 : decode cL_law 195 = .ok (.iaload, 1) := by decide +kernel
theorem dL_law_196 : decode cL_law 196 = .ok (.aload_n 0, 1) := by decide +kernel
theorem dL_law_197 : decode cL_law 197 = .ok (.iload_n 3, 1) := by decide +kernel
theorem dL_law_198 : decode cL_law 198 = .ok (.iconst 3, 1) := by decide +kernel
theorem dL_law_199 : decode cL_law 199 = .ok (.iadd, 1) := by decide +kernel
theorem dL_law_200 : decode cL_law 200 = .ok (.iaload, 1) := by decide +kernel
theorem dL_law_201 : decode cL_law 201 = .ok (.aload_n 0, 1) := by decide +kernel
theorem dL_law_202 : decode cL_law 202 = .ok (.iload_n 3, 1) := by decide +kernel
theorem dL_law_203 : decode cL_law 203 = .ok (.iconst 4, 1) := by decide +kernel
theorem dL_law_204 : decode cL_law 204 = .ok (.iadd, 1) := by decide +kernel
theorem dL_law_205 : decode cL_law 205 = .ok (.iaload, 1) := by decide +kernel
theorem dL_law_206 : decode cL_law 206 = .ok (.invokevirtual 18, 3) := by decide +kernel
theorem dL_law_209 : decode cL_law 209 = .ok (.aload_n 2, 1) := by decide +kernel
theorem dL_law_210 : decode cL_law 210 = .ok (.aload_n 0, 1) := by decide +kernel
theorem dL_law_211 : decode cL_law 211 = .ok (.iload_n 3, 1) := by decide +kernel
theorem dL_law_212 : decode cL_law 212 = .ok (.iconst 1, 1) := by decide +kernel
theorem dL_law_213 : decode cL_law 213 = .ok (.iadd, 1) := by decide +kernel
theorem dL_law_214 : decode cL_law 214 = .ok (.iaload, 1) := by decide +kernel
theorem dL_law_215 : decode cL_law 215 = .ok (.aload_n 0, 1) := by decide +kernel
theorem dL_law_216 : decode cL_law 216 = .ok (.iload_n 3, 1) := by decide +kernel
theorem dL_law_217 : decode cL_law 217 = .ok (.iconst 2, 1) := by decide +kernel
theorem dL_law_218 : decode cL_law 218 = .ok (.iadd, 1) := by decide +kernel
theorem dL_law_219 : decode cL_law 219 = .ok (.iaload, 1) := by decide +kernel
theorem dL_law_220 : decode cL_law 220 = .ok (.aload_n 0, 1) := by decide +kernel
theorem dL_law_221 : decode cL_law 221 = .ok (.iload_n 3, 1) := by decide +kernel
theorem dL_law_222 : decode cL_law 222 = .ok (.iconst 3, 1) := by decide +kernel
theorem dL_law_223 : decode cL_law 223 = .ok (.iadd, 1) := by decide +kernel
theorem dL_law_224 : decode cL_law 224 = .ok (.iaload, 1) := by decide +kernel
theorem dL_law_225 : decode cL_law 225 = .ok (.aload_n 0, 1) := by decide +kernel
theorem dL_law_226 : decode cL_law 226 = .ok (.iload_n 3, 1) := by decide +kernel
theorem dL_law_227 : decode cL_law 227 = .ok (.iconst 4, 1) := by decide +kernel
theorem dL_law_228 : decode cL_law 228 = .ok (.iadd, 1) := by decide +kernel
theorem dL_law_229 : decode cL_law 229 = .ok (.iaload, 1) := by decide +kernel
theorem dL_law_230 : decode cL_law 230 = .ok (.invokevirtual 22, 3) := by decide +kernel
theorem dL_law_233 : decode cL_law 233 = .ok (.if_icmp .eq 677, 3) := by decide +kernel
theorem dL_law_236 : decode cL_law 236 = .ok (.iconst 0, 1) := by decide +kernel
theorem dL_law_237 : decode cL_law 237 = .ok (.ireturn, 1) := by decide +kernel
theorem dL_law_238 : decode cL_law 238 = .ok (.aload_n 1, 1) := by decide +kernel
theorem dL_law_239 : decode cL_law 239 = .ok (.invokevirtual 23, 3) := by decide +kernel
theorem dL_law_242 : decode cL_law 242 = .ok (.aload_n 2, 1) := by decide +kernel
theorem dL_law_243 : decode cL_law 243 = .ok (.invokevirtual 27, 3) := by decide +kernel
theorem dL_law_246 : decode cL_law 246 = .ok (.if_icmp .eq 664, 3) := by decide +kernel
theorem dL_law_249 : decode cL_law 249 = .ok (.iconst 0, 1) := by decide +kernel
theorem dL_law_250 : decode cL_law 250 = .ok (.ireturn, 1) := by decide +kernel
theorem dL_law_251 : decode cL_law 251 = .ok (.aload_n 1, 1) := by decide +kernel
theorem dL_law_252 : decode cL_law 252 = .ok (.aload_n 0, 1) := by decide +kernel
theorem dL_law_253 : decode cL_law 253 = .ok (.iload_n 3, 1) := by decide +kernel
theorem dL_law_254 : decode cL_law 254 = .ok (.iconst 1, 1) := by decide +kernel
theorem dL_law_255 : decode cL_law 255 = .ok (.iadd, 1) := by decide +kernel
theorem dL_law_256 : decode cL_law 256 = .ok (.iaload, 1) := by decide +kernel
theorem dL_law_257 : decode cL_law 257 = .ok (.invokevirtual 28, 3) := by decide +kernel
theorem dL_law_260 : decode cL_law 260 = .ok (.aload_n 2, 1) := by decide +kernel
theorem dL_law_261 : decode cL_law 261 = .ok (.aload_n 0, 1) := by decide +kernel
theorem dL_law_262 : decode cL_law 262 = .ok (.iload_n 3, 1) := by decide +kernel
theorem dL_law_263 : decode cL_law 263 = .ok (.iconst 1, 1) := by decide +kernel
theorem dL_law_264 : decode cL_law 264 = .ok (.iadd, 1) := by decide +kernel
theorem dL_law_265 : decode cL_law 265 = .ok (.iaload, 1) := by decide +kernel
theorem dL_law_266 : decode cL_law 266 = .ok (.invokevirtual 32, 3) := by decide +kernel
theorem dL_law_269 : decode cL_law 269 = .ok (.if_icmp .eq 641, 3) := by decide +kernel
theorem dL_law_272 : decode cL_law 272 = .ok (.iconst 0, 1) := by decide +kernel
theorem dL_law_273 : decode cL_law 273 = .ok (.ireturn, 1) := by decide +kernel
theorem dL_law_274 : decode cL_law 274 = .ok (.aload_n 1, 1) := by decide +kernel
theorem dL_law_275 : decode cL_law 275 = .ok (.aload_n 0, 1) := by decide +kernel
theorem dL_law_276 : decode cL_law 276 = .ok (.iload_n 3, 1) := by decide +kernel
theorem dL_law_277 : decode cL_law 277 = .ok (.iconst 1, 1) := by decide +kernel
theorem dL_law_278 : decode cL_law 278 = .ok (.iadd, 1) := by decide +kernel
theorem dL_law_279 : decode cL_law 279 = .ok (.iaload, 1) := by decide +kernel
theorem dL_law_280 : decode cL_law 280 = .ok (.aload_n 0, 1) := by decide +kernel
theorem dL_law_281 : decode cL_law 281 = .ok (.iload_n 3, 1) := by decide +kernel
theorem dL_law_282 : decode cL_law 282 = .ok (.iconst 2, 1) := by decide +kernel
theorem dL_law_283 : decode cL_law 283 = .ok (.iadd, 1) := by decide +kernel
theorem dL_law_284 : decode cL_law 284 = .ok (.iaload, 1) := by decide +kernel
theorem dL_law_285 : decode cL_law 285 = .ok (.invokevirtual 33, 3) := by decide +kernel
theorem dL_law_288 : decode cL_law 288 = .ok (.aload_n 2, 1) := by decide +kernel
theorem dL_law_289 : decode cL_law 289 = .ok (.aload_n 0, 1) := by decide +kernel
theorem dL_law_290 : decode cL_law 290 = .ok (.iload_n 3, 1) := by decide +kernel
theorem dL_law_291 : decode cL_law 291 = .ok (.iconst 1, 1) := by decide +kernel
theorem dL_law_292 : decode cL_law 292 = .ok (.iadd, 1) := by decide +kernel
theorem dL_law_293 : decode cL_law 293 = .ok (.iaload, 1) := by decide +kernel
theorem dL_law_294 : decode cL_law 294 = .ok (.aload_n 0, 1) := by decide +kernel
theorem dL_law_295 : decode cL_law 295 = .ok (.iload_n 3, 1) := by decide +kernel
theorem dL_law_296 : decode cL_law 296 = .ok (.iconst 2, 1) := by decide +kernel
theorem dL_law_297 : decode cL_law 297 = .ok (.iadd, 1) := by decide +kernel
theorem dL_law_298 : decode cL_law 298 = .ok (.iaload, 1) := by decide +kernel
theorem dL_law_299 : decode cL_law 299 = .ok (.invokevirtual 36, 3) := by decide +kernel
theorem dL_law_302 : decode cL_law 302 = .ok (.if_icmp .eq 608, 3) := by decide +kernel
theorem dL_law_305 : decode cL_law 305 = .ok (.iconst 0, 1) := by decide +kernel
theorem dL_law_306 : decode cL_law 306 = .ok (.ireturn, 1) := by decide +kernel
theorem dL_law_307 : decode cL_law 307 = .ok (.aload_n 1, 1) := by decide +kernel
theorem dL_law_308 : decode cL_law 308 = .ok (.aload_n 0, 1) := by decide +kernel
theorem dL_law_309 : decode cL_law 309 = .ok (.iload_n 3, 1) := by decide +kernel
theorem dL_law_310 : decode cL_law 310 = .ok (.iconst 1, 1) := by decide +kernel
theorem dL_law_311 : decode cL_law 311 = .ok (.iadd, 1) := by decide +kernel
theorem dL_law_312 : decode cL_law 312 = .ok (.iaload, 1) := by decide +kernel
theorem dL_law_313 : decode cL_law 313 = .ok (.aload_n 0, 1) := by decide +kernel
theorem dL_law_314 : decode cL_law 314 = .ok (.iload_n 3, 1) := by decide +kernel
theorem dL_law_315 : decode cL_law 315 = .ok (.iconst 2, 1) := by decide +kernel
theorem dL_law_316 : decode cL_law 316 = .ok (.iadd, 1) := by decide +kernel
theorem dL_law_317 : decode cL_law 317 = .ok (.iaload, 1) := by decide +kernel
theorem dL_law_318 : decode cL_law 318 = .ok (.invokevirtual 37, 3) := by decide +kernel
theorem dL_law_321 : decode cL_law 321 = .ok (.aload_n 2, 1) := by decide +kernel
theorem dL_law_322 : decode cL_law 322 = .ok (.aload_n 0, 1) := by decide +kernel
theorem dL_law_323 : decode cL_law 323 = .ok (.iload_n 3, 1) := by decide +kernel
theorem dL_law_324 : decode cL_law 324 = .ok (.iconst 1, 1) := by decide +kernel
theorem dL_law_325 : decode cL_law 325 = .ok (.iadd, 1) := by decide +kernel
theorem dL_law_326 : decode cL_law 326 = .ok (.iaload, 1) := by decide +kernel
theorem dL_law_327 : decode cL_law 327 = .ok (.aload_n 0, 1) := by decide +kernel
theorem dL_law_328 : decode cL_law 328 = .ok (.iload_n 3, 1) := by decide +kernel
theorem dL_law_329 : decode cL_law 329 = .ok (.iconst 2, 1) := by decide +kernel
theorem dL_law_330 : decode cL_law 330 = .ok (.iadd, 1) := by decide +kernel
theorem dL_law_331 : decode cL_law 331 = .ok (.iaload, 1) := by decide +kernel
theorem dL_law_332 : decode cL_law 332 = .ok (.invokevirtual 40, 3) := by decide +kernel
theorem dL_law_335 : decode cL_law 335 = .ok (.if_icmp .eq 575, 3) := by decide +kernel
theorem dL_law_338 : decode cL_law 338 = .ok (.iconst 0, 1) := by decide +kernel
theorem dL_law_339 : decode cL_law 339 = .ok (.ireturn, 1) := by decide +kernel
theorem dL_law_340 : decode cL_law 340 = .ok (.aload_n 1, 1) := by decide +kernel
theorem dL_law_341 : decode cL_law 341 = .ok (.aload_n 0, 1) := by decide +kernel
theorem dL_law_342 : decode cL_law 342 = .ok (.iload_n 3, 1) := by decide +kernel
theorem dL_law_343 : decode cL_law 343 = .ok (.iconst 1, 1) := by decide +kernel
theorem dL_law_344 : decode cL_law 344 = .ok (.iadd, 1) := by decide +kernel
theorem dL_law_345 : decode cL_law 345 = .ok (.iaload, 1) := by decide +kernel
theorem dL_law_346 : decode cL_law 346 = .ok (.aload_n 0, 1) := by decide +kernel
theorem dL_law_347 : decode cL_law 347 = .ok (.iload_n 3, 1) := by decide +kernel
theorem dL_law_348 : decode cL_law 348 = .ok (.iconst 2, 1) := by decide +kernel
theorem dL_law_349 : decode cL_law 349 = .ok (.iadd, 1) := by decide +kernel
theorem dL_law_350 : decode cL_law 350 = .ok (.iaload, 1) := by decide +kernel
theorem dL_law_351 : decode cL_law 351 = .ok (.invokevirtual 41, 3) := by decide +kernel
theorem dL_law_354 : decode cL_law 354 = .ok (.aload_n 2, 1) := by decide +kernel
theorem dL_law_355 : decode cL_law 355 = .ok (.aload_n 0, 1) := by decide +kernel
theorem dL_law_356 : decode cL_law 356 = .ok (.iload_n 3, 1) := by decide +kernel
theorem dL_law_357 : decode cL_law 357 = .ok (.iconst 1, 1) := by decide +kernel
theorem dL_law_358 : decode cL_law 358 = .ok (.iadd, 1) := by decide +kernel
theorem dL_law_359 : decode cL_law 359 = .ok (.iaload, 1) := by decide +kernel
theorem dL_law_360 : decode cL_law 360 = .ok (.aload_n 0, 1) := by decide +kernel
theorem dL_law_361 : decode cL_law 361 = .ok (.iload_n 3, 1) := by decide +kernel
theorem dL_law_362 : decode cL_law 362 = .ok (.iconst 2, 1) := by decide +kernel
theorem dL_law_363 : decode cL_law 363 = .ok (.iadd, 1) := by decide +kernel
theorem dL_law_364 : decode cL_law 364 = .ok (.iaload, 1) := by decide +kernel
theorem dL_law_365 : decode cL_law 365 = .ok (.invokevirtual 44, 3) := by decide +kernel
theorem dL_law_368 : decode cL_law 368 = .ok (.if_icmp .eq 542, 3) := by decide +kernel
theorem dL_law_371 : decode cL_law 371 = .ok (.iconst 0, 1) := by decide +kernel
theorem dL_law_372 : decode cL_law 372 = .ok (.ireturn, 1) := by decide +kernel
theorem dL_law_373 : decode cL_law 373 = .ok (.aload_n 1, 1) := by decide +kernel
theorem dL_law_374 : decode cL_law 374 = .ok (.aload_n 0, 1) := by decide +kernel
theorem dL_law_375 : decode cL_law 375 = .ok (.iload_n 3, 1) := by decide +kernel
theorem dL_law_376 : decode cL_law 376 = .ok (.iconst 1, 1) := by decide +kernel
theorem dL_law_377 : decode cL_law 377 = .ok (.iadd, 1) := by decide +kernel
theorem dL_law_378 : decode cL_law 378 = .ok (.iaload, 1) := by decide +kernel
theorem dL_law_379 : decode cL_law 379 = .ok (.aload_n 0, 1) := by decide +kernel
theorem dL_law_380 : decode cL_law 380 = .ok (.iload_n 3, 1) := by decide +kernel
theorem dL_law_381 : decode cL_law 381 = .ok (.iconst 2, 1) := by decide +kernel
theorem dL_law_382 : decode cL_law 382 = .ok (.iadd, 1) := by decide +kernel
theorem dL_law_383 : decode cL_law 383 = .ok (.iaload, 1) := by decide +kernel
theorem dL_law_384 : decode cL_law 384 = .ok (.invokevirtual 45, 3) := by decide +kernel
theorem dL_law_387 : decode cL_law 387 = .ok (.aload_n 2, 1) := by decide +kernel
theorem dL_law_388 : decode cL_law 388 = .ok (.aload_n 0, 1) := by decide +kernel
theorem dL_law_389 : decode cL_law 389 = .ok (.iload_n 3, 1) := by decide +kernel
theorem dL_law_390 : decode cL_law 390 = .ok (.iconst 1, 1) := by decide +kernel
theorem dL_law_391 : decode cL_law 391 = .ok (.iadd, 1) := by decide +kernel
theorem dL_law_392 : decode cL_law 392 = .ok (.iaload, 1) := by decide +kernel
theorem dL_law_393 : decode cL_law 393 = .ok (.aload_n 0, 1) := by decide +kernel
theorem dL_law_394 : decode cL_law 394 = .ok (.iload_n 3, 1) := by decide +kernel
theorem dL_law_395 : decode cL_law 395 = .ok (.iconst 2, 1) := by decide +kernel
theorem dL_law_396 : decode cL_law 396 = .ok (.iadd, 1) := by decide +kernel
theorem dL_law_397 : decode cL_law 397 = .ok (.iaload, 1) := by decide +kernel
theorem dL_law_398 : decode cL_law 398 = .ok (.invokevirtual 48, 3) := by decide +kernel
theorem dL_law_401 : decode cL_law 401 = .ok (.if_icmp .eq 509, 3) := by decide +kernel
theorem dL_law_404 : decode cL_law 404 = .ok (.iconst 0, 1) := by decide +kernel
theorem dL_law_405 : decode cL_law 405 = .ok (.ireturn, 1) := by decide +kernel
theorem dL_law_406 : decode cL_law 406 = .ok (.aload_n 1, 1) := by decide +kernel
theorem dL_law_407 : decode cL_law 407 = .ok (.aload_n 0, 1) := by decide +kernel
theorem dL_law_408 : decode cL_law 408 = .ok (.iload_n 3, 1) := by decide +kernel
theorem dL_law_409 : decode cL_law 409 = .ok (.iconst 1, 1) := by decide +kernel
theorem dL_law_410 : decode cL_law 410 = .ok (.iadd, 1) := by decide +kernel
theorem dL_law_411 : decode cL_law 411 = .ok (.iaload, 1) := by decide +kernel
theorem dL_law_412 : decode cL_law 412 = .ok (.invokevirtual 49, 3) := by decide +kernel
theorem dL_law_415 : decode cL_law 415 = .ok (.aload_n 2, 1) := by decide +kernel
theorem dL_law_416 : decode cL_law 416 = .ok (.aload_n 0, 1) := by decide +kernel
theorem dL_law_417 : decode cL_law 417 = .ok (.iload_n 3, 1) := by decide +kernel
theorem dL_law_418 : decode cL_law 418 = .ok (.iconst 1, 1) := by decide +kernel
theorem dL_law_419 : decode cL_law 419 = .ok (.iadd, 1) := by decide +kernel
theorem dL_law_420 : decode cL_law 420 = .ok (.iaload, 1) := by decide +kernel
theorem dL_law_421 : decode cL_law 421 = .ok (.invokevirtual 52, 3) := by decide +kernel
theorem dL_law_424 : decode cL_law 424 = .ok (.if_icmp .eq 486, 3) := by decide +kernel
theorem dL_law_427 : decode cL_law 427 = .ok (.iconst 0, 1) := by decide +kernel
theorem dL_law_428 : decode cL_law 428 = .ok (.ireturn, 1) := by decide +kernel
theorem dL_law_429 : decode cL_law 429 = .ok (.aload_n 1, 1) := by decide +kernel
theorem dL_law_430 : decode cL_law 430 = .ok (.aload_n 0, 1) := by decide +kernel
theorem dL_law_431 : decode cL_law 431 = .ok (.iload_n 3, 1) := by decide +kernel
theorem dL_law_432 : decode cL_law 432 = .ok (.iconst 1, 1) := by decide +kernel
theorem dL_law_433 : decode cL_law 433 = .ok (.iadd, 1) := by decide +kernel
theorem dL_law_434 : decode cL_law 434 = .ok (.iaload, 1) := by decide +kernel
theorem dL_law_435 : decode cL_law 435 = .ok (.aload_n 0, 1) := by decide +kernel
theorem dL_law_436 : decode cL_law 436 = .ok (.iload_n 3, 1) := by decide +kernel
theorem dL_law_437 : decode cL_law 437 = .ok (.iconst 2, 1) := by decide +kernel
theorem dL_law_438 : decode cL_law 438 = .ok (.iadd, 1) := by decide +kernel
theorem dL_law_439 : decode cL_law 439 = .ok (.iaload, 1) := by decide +kernel
theorem dL_law_440 : decode cL_law 440 = .ok (.invokevirtual 53, 3) := by decide +kernel
theorem dL_law_443 : decode cL_law 443 = .ok (.aload_n 2, 1) := by decide +kernel
theorem dL_law_444 : decode cL_law 444 = .ok (.aload_n 0, 1) := by decide +kernel
theorem dL_law_445 : decode cL_law 445 = .ok (.iload_n 3, 1) := by decide +kernel
theorem dL_law_446 : decode cL_law 446 = .ok (.iconst 1, 1) := by decide +kernel
theorem dL_law_447 : decode cL_law 447 = .ok (.iadd, 1) := by decide +kernel
theorem dL_law_448 : decode cL_law 448 = .ok (.iaload, 1) := by decide +kernel
theorem dL_law_449 : decode cL_law 449 = .ok (.aload_n 0, 1) := by decide +kernel
theorem dL_law_450 : decode cL_law 450 = .ok (.iload_n 3, 1) := by decide +kernel
theorem dL_law_451 : decode cL_law 451 = .ok (.iconst 2, 1) := by decide +kernel
theorem dL_law_452 : decode cL_law 452 = .ok (.iadd, 1) := by decide +kernel
theorem dL_law_453 : decode cL_law 453 = .ok (.iaload, 1) := by decide +kernel
theorem dL_law_454 : decode cL_law 454 = .ok (.invokevirtual 56, 3) := by decide +kernel
theorem dL_law_457 : decode cL_law 457 = .ok (.if_icmp .eq 453, 3) := by decide +kernel
theorem dL_law_460 : decode cL_law 460 = .ok (.iconst 0, 1) := by decide +kernel
theorem dL_law_461 : decode cL_law 461 = .ok (.ireturn, 1) := by decide +kernel
theorem dL_law_462 : decode cL_law 462 = .ok (.aload_n 1, 1) := by decide +kernel
theorem dL_law_463 : decode cL_law 463 = .ok (.aload_n 0, 1) := by decide +kernel
theorem dL_law_464 : decode cL_law 464 = .ok (.iload_n 3, 1) := by decide +kernel
theorem dL_law_465 : decode cL_law 465 = .ok (.iconst 1, 1) := by decide +kernel
theorem dL_law_466 : decode cL_law 466 = .ok (.iadd, 1) := by decide +kernel
theorem dL_law_467 : decode cL_law 467 = .ok (.iaload, 1) := by decide +kernel
theorem dL_law_468 : decode cL_law 468 = .ok (.aload_n 0, 1) := by decide +kernel
theorem dL_law_469 : decode cL_law 469 = .ok (.iload_n 3, 1) := by decide +kernel
theorem dL_law_470 : decode cL_law 470 = .ok (.iconst 2, 1) := by decide +kernel
theorem dL_law_471 : decode cL_law 471 = .ok (.iadd, 1) := by decide +kernel
theorem dL_law_472 : decode cL_law 472 = .ok (.iaload, 1) := by decide +kernel
theorem dL_law_473 : decode cL_law 473 = .ok (.invokevirtual 57, 3) := by decide +kernel
theorem dL_law_476 : decode cL_law 476 = .ok (.aload_n 2, 1) := by decide +kernel
theorem dL_law_477 : decode cL_law 477 = .ok (.aload_n 0, 1) := by decide +kernel
theorem dL_law_478 : decode cL_law 478 = .ok (.iload_n 3, 1) := by decide +kernel
theorem dL_law_479 : decode cL_law 479 = .ok (.iconst 1, 1) := by decide +kernel
theorem dL_law_480 : decode cL_law 480 = .ok (.iadd, 1) := by decide +kernel
theorem dL_law_481 : decode cL_law 481 = .ok (.iaload, 1) := by decide +kernel
theorem dL_law_482 : decode cL_law 482 = .ok (.aload_n 0, 1) := by decide +kernel
theorem dL_law_483 : decode cL_law 483 = .ok (.iload_n 3, 1) := by decide +kernel
theorem dL_law_484 : decode cL_law 484 = .ok (.iconst 2, 1) := by decide +kernel
theorem dL_law_485 : decode cL_law 485 = .ok (.iadd, 1) := by decide +kernel
theorem dL_law_486 : decode cL_law 486 = .ok (.iaload, 1) := by decide +kernel
theorem dL_law_487 : decode cL_law 487 = .ok (.invokevirtual 60, 3) := by decide +kernel
theorem dL_law_490 : decode cL_law 490 = .ok (.if_icmp .eq 420, 3) := by decide +kernel
theorem dL_law_493 : decode cL_law 493 = .ok (.iconst 0, 1) := by decide +kernel
theorem dL_law_494 : decode cL_law 494 = .ok (.ireturn, 1) := by decide +kernel
theorem dL_law_495 : decode cL_law 495 = .ok (.aload_n 1, 1) := by decide +kernel
theorem dL_law_496 : decode cL_law 496 = .ok (.aload_n 0, 1) := by decide +kernel
theorem dL_law_497 : decode cL_law 497 = .ok (.iload_n 3, 1) := by decide +kernel
theorem dL_law_498 : decode cL_law 498 = .ok (.iconst 1, 1) := by decide +kernel
theorem dL_law_499 : decode cL_law 499 = .ok (.iadd, 1) := by decide +kernel
theorem dL_law_500 : decode cL_law 500 = .ok (.iaload, 1) := by decide +kernel
theorem dL_law_501 : decode cL_law 501 = .ok (.aload_n 0, 1) := by decide +kernel
theorem dL_law_502 : decode cL_law 502 = .ok (.iload_n 3, 1) := by decide +kernel
theorem dL_law_503 : decode cL_law 503 = .ok (.iconst 2, 1) := by decide +kernel
theorem dL_law_504 : decode cL_law 504 = .ok (.iadd, 1) := by decide +kernel
theorem dL_law_505 : decode cL_law 505 = .ok (.iaload, 1) := by decide +kernel
theorem dL_law_506 : decode cL_law 506 = .ok (.invokevirtual 61, 3) := by decide +kernel
theorem dL_law_509 : decode cL_law 509 = .ok (.aload_n 2, 1) := by decide +kernel
theorem dL_law_510 : decode cL_law 510 = .ok (.aload_n 0, 1) := by decide +kernel
theorem dL_law_511 : decode cL_law 511 = .ok (.iload_n 3, 1) := by decide +kernel
theorem dL_law_512 : decode cL_law 512 = .ok (.iconst 1, 1) := by decide +kernel
theorem dL_law_513 : decode cL_law 513 = .ok (.iadd, 1) := by decide +kernel
theorem dL_law_514 : decode cL_law 514 = .ok (.iaload, 1) := by decide +kernel
theorem dL_law_515 : decode cL_law 515 = .ok (.aload_n 0, 1) := by decide +kernel
theorem dL_law_516 : decode cL_law 516 = .ok (.iload_n 3, 1) := by decide +kernel
theorem dL_law_517 : decode cL_law 517 = .ok (.iconst 2, 1) := by decide +kernel
theorem dL_law_518 : decode cL_law 518 = .ok (.iadd, 1) := by decide +kernel
theorem dL_law_519 : decode cL_law 519 = .ok (.iaload, 1) := by decide +kernel
theorem dL_law_520 : decode cL_law 520 = .ok (.invokevirtual 64, 3) := by decide +kernel
theorem dL_law_523 : decode cL_law 523 = .ok (.if_icmp .eq 387, 3) := by decide +kernel
theorem dL_law_526 : decode cL_law 526 = .ok (.iconst 0, 1) := by decide +kernel
theorem dL_law_527 : decode cL_law 527 = .ok (.ireturn, 1) := by decide +kernel
theorem dL_law_528 : decode cL_law 528 = .ok (.aload_n 1, 1) := by decide +kernel
theorem dL_law_529 : decode cL_law 529 = .ok (.aload_n 0, 1) := by decide +kernel
theorem dL_law_530 : decode cL_law 530 = .ok (.iload_n 3, 1) := by decide +kernel
theorem dL_law_531 : decode cL_law 531 = .ok (.iconst 1, 1) := by decide +kernel
theorem dL_law_532 : decode cL_law 532 = .ok (.iadd, 1) := by decide +kernel
theorem dL_law_533 : decode cL_law 533 = .ok (.iaload, 1) := by decide +kernel
theorem dL_law_534 : decode cL_law 534 = .ok (.aload_n 0, 1) := by decide +kernel
theorem dL_law_535 : decode cL_law 535 = .ok (.iload_n 3, 1) := by decide +kernel
theorem dL_law_536 : decode cL_law 536 = .ok (.iconst 2, 1) := by decide +kernel
theorem dL_law_537 : decode cL_law 537 = .ok (.iadd, 1) := by decide +kernel
theorem dL_law_538 : decode cL_law 538 = .ok (.iaload, 1) := by decide +kernel
theorem dL_law_539 : decode cL_law 539 = .ok (.invokevirtual 65, 3) := by decide +kernel
theorem dL_law_542 : decode cL_law 542 = .ok (.aload_n 2, 1) := by decide +kernel
theorem dL_law_543 : decode cL_law 543 = .ok (.aload_n 0, 1) := by decide +kernel
theorem dL_law_544 : decode cL_law 544 = .ok (.iload_n 3, 1) := by decide +kernel
theorem dL_law_545 : decode cL_law 545 = .ok (.iconst 1, 1) := by decide +kernel
theorem dL_law_546 : decode cL_law 546 = .ok (.iadd, 1) := by decide +kernel
theorem dL_law_547 : decode cL_law 547 = .ok (.iaload, 1) := by decide +kernel
theorem dL_law_548 : decode cL_law 548 = .ok (.aload_n 0, 1) := by decide +kernel
theorem dL_law_549 : decode cL_law 549 = .ok (.iload_n 3, 1) := by decide +kernel
theorem dL_law_550 : decode cL_law 550 = .ok (.iconst 2, 1) := by decide +kernel
theorem dL_law_551 : decode cL_law 551 = .ok (.iadd, 1) := by decide +kernel
theorem dL_law_552 : decode cL_law 552 = .ok (.iaload, 1) := by decide +kernel
theorem dL_law_553 : decode cL_law 553 = .ok (.invokevirtual 68, 3) := by decide +kernel
theorem dL_law_556 : decode cL_law 556 = .ok (.if_icmp .eq 354, 3) := by decide +kernel
theorem dL_law_559 : decode cL_law 559 = .ok (.iconst 0, 1) := by decide +kernel
theorem dL_law_560 : decode cL_law 560 = .ok (.ireturn, 1) := by decide +kernel
theorem dL_law_561 : decode cL_law 561 = .ok (.aload_n 1, 1) := by decide +kernel
theorem dL_law_562 : decode cL_law 562 = .ok (.aload_n 0, 1) := by decide +kernel
theorem dL_law_563 : decode cL_law 563 = .ok (.iload_n 3, 1) := by decide +kernel
theorem dL_law_564 : decode cL_law 564 = .ok (.iconst 1, 1) := by decide +kernel
theorem dL_law_565 : decode cL_law 565 = .ok (.iadd, 1) := by decide +kernel
theorem dL_law_566 : decode cL_law 566 = .ok (.iaload, 1) := by decide +kernel
theorem dL_law_567 : decode cL_law 567 = .ok (.aload_n 0, 1) := by decide +kernel
theorem dL_law_568 : decode cL_law 568 = .ok (.iload_n 3, 1) := by decide +kernel
theorem dL_law_569 : decode cL_law 569 = .ok (.iconst 2, 1) := by decide +kernel
theorem dL_law_570 : decode cL_law 570 = .ok (.iadd, 1) := by decide +kernel
theorem dL_law_571 : decode cL_law 571 = .ok (.iaload, 1) := by decide +kernel
theorem dL_law_572 : decode cL_law 572 = .ok (.invokevirtual 69, 3) := by decide +kernel
theorem dL_law_575 : decode cL_law 575 = .ok (.aload_n 2, 1) := by decide +kernel
theorem dL_law_576 : decode cL_law 576 = .ok (.aload_n 0, 1) := by decide +kernel
theorem dL_law_577 : decode cL_law 577 = .ok (.iload_n 3, 1) := by decide +kernel
theorem dL_law_578 : decode cL_law 578 = .ok (.iconst 1, 1) := by decide +kernel
theorem dL_law_579 : decode cL_law 579 = .ok (.iadd, 1) := by decide +kernel
theorem dL_law_580 : decode cL_law 580 = .ok (.iaload, 1) := by decide +kernel
theorem dL_law_581 : decode cL_law 581 = .ok (.aload_n 0, 1) := by decide +kernel
theorem dL_law_582 : decode cL_law 582 = .ok (.iload_n 3, 1) := by decide +kernel
theorem dL_law_583 : decode cL_law 583 = .ok (.iconst 2, 1) := by decide +kernel
theorem dL_law_584 : decode cL_law 584 = .ok (.iadd, 1) := by decide +kernel
theorem dL_law_585 : decode cL_law 585 = .ok (.iaload, 1) := by decide +kernel
theorem dL_law_586 : decode cL_law 586 = .ok (.invokevirtual 72, 3) := by decide +kernel
theorem dL_law_589 : decode cL_law 589 = .ok (.if_icmp .eq 321, 3) := by decide +kernel
theorem dL_law_592 : decode cL_law 592 = .ok (.iconst 0, 1) := by decide +kernel
theorem dL_law_593 : decode cL_law 593 = .ok (.ireturn, 1) := by decide +kernel
theorem dL_law_594 : decode cL_law 594 = .ok (.aload_n 1, 1) := by decide +kernel
theorem dL_law_595 : decode cL_law 595 = .ok (.aload_n 0, 1) := by decide +kernel
theorem dL_law_596 : decode cL_law 596 = .ok (.iload_n 3, 1) := by decide +kernel
theorem dL_law_597 : decode cL_law 597 = .ok (.iconst 1, 1) := by decide +kernel
theorem dL_law_598 : decode cL_law 598 = .ok (.iadd, 1) := by decide +kernel
theorem dL_law_599 : decode cL_law 599 = .ok (.iaload, 1) := by decide +kernel
theorem dL_law_600 : decode cL_law 600 = .ok (.invokevirtual 73, 3) := by decide +kernel
theorem dL_law_603 : decode cL_law 603 = .ok (.aload_n 2, 1) := by decide +kernel
theorem dL_law_604 : decode cL_law 604 = .ok (.aload_n 0, 1) := by decide +kernel
theorem dL_law_605 : decode cL_law 605 = .ok (.iload_n 3, 1) := by decide +kernel
theorem dL_law_606 : decode cL_law 606 = .ok (.iconst 1, 1) := by decide +kernel
theorem dL_law_607 : decode cL_law 607 = .ok (.iadd, 1) := by decide +kernel
theorem dL_law_608 : decode cL_law 608 = .ok (.iaload, 1) := by decide +kernel
theorem dL_law_609 : decode cL_law 609 = .ok (.invokevirtual 76, 3) := by decide +kernel
theorem dL_law_612 : decode cL_law 612 = .ok (.if_icmp .eq 298, 3) := by decide +kernel
theorem dL_law_615 : decode cL_law 615 = .ok (.iconst 0, 1) := by decide +kernel
theorem dL_law_616 : decode cL_law 616 = .ok (.ireturn, 1) := by decide +kernel
theorem dL_law_617 : decode cL_law 617 = .ok (.aload_n 1, 1) := by decide +kernel
theorem dL_law_618 : decode cL_law 618 = .ok (.aload_n 0, 1) := by decide +kernel
theorem dL_law_619 : decode cL_law 619 = .ok (.iload_n 3, 1) := by decide +kernel
theorem dL_law_620 : decode cL_law 620 = .ok (.iconst 1, 1) := by decide +kernel
theorem dL_law_621 : decode cL_law 621 = .ok (.iadd, 1) := by decide +kernel
theorem dL_law_622 : decode cL_law 622 = .ok (.iaload, 1) := by decide +kernel
theorem dL_law_623 : decode cL_law 623 = .ok (.aload_n 0, 1) := by decide +kernel
theorem dL_law_624 : decode cL_law 624 = .ok (.iload_n 3, 1) := by decide +kernel
theorem dL_law_625 : decode cL_law 625 = .ok (.iconst 2, 1) := by decide +kernel
theorem dL_law_626 : decode cL_law 626 = .ok (.iadd, 1) := by decide +kernel
theorem dL_law_627 : decode cL_law 627 = .ok (.iaload, 1) := by decide +kernel
theorem dL_law_628 : decode cL_law 628 = .ok (.aload_n 0, 1) := by decide +kernel
theorem dL_law_629 : decode cL_law 629 = .ok (.iload_n 3, 1) := by decide +kernel
theorem dL_law_630 : decode cL_law 630 = .ok (.iconst 3, 1) := by decide +kernel
theorem dL_law_631 : decode cL_law 631 = .ok (.iadd, 1) := by decide +kernel
theorem dL_law_632 : decode cL_law 632 = .ok (.iaload, 1) := by decide +kernel
theorem dL_law_633 : decode cL_law 633 = .ok (.invokevirtual 77, 3) := by decide +kernel
theorem dL_law_636 : decode cL_law 636 = .ok (.aload_n 2, 1) := by decide +kernel
theorem dL_law_637 : decode cL_law 637 = .ok (.aload_n 0, 1) := by decide +kernel
theorem dL_law_638 : decode cL_law 638 = .ok (.iload_n 3, 1) := by decide +kernel
theorem dL_law_639 : decode cL_law 639 = .ok (.iconst 1, 1) := by decide +kernel
theorem dL_law_640 : decode cL_law 640 = .ok (.iadd, 1) := by decide +kernel
theorem dL_law_641 : decode cL_law 641 = .ok (.iaload, 1) := by decide +kernel
theorem dL_law_642 : decode cL_law 642 = .ok (.aload_n 0, 1) := by decide +kernel
theorem dL_law_643 : decode cL_law 643 = .ok (.iload_n 3, 1) := by decide +kernel
theorem dL_law_644 : decode cL_law 644 = .ok (.iconst 2, 1) := by decide +kernel
theorem dL_law_645 : decode cL_law 645 = .ok (.iadd, 1) := by decide +kernel
theorem dL_law_646 : decode cL_law 646 = .ok (.iaload, 1) := by decide +kernel
theorem dL_law_647 : decode cL_law 647 = .ok (.aload_n 0, 1) := by decide +kernel
theorem dL_law_648 : decode cL_law 648 = .ok (.iload_n 3, 1) := by decide +kernel
theorem dL_law_649 : decode cL_law 649 = .ok (.iconst 3, 1) := by decide +kernel
theorem dL_law_650 : decode cL_law 650 = .ok (.iadd, 1) := by decide +kernel
theorem dL_law_651 : decode cL_law 651 = .ok (.iaload, 1) := by decide +kernel
theorem dL_law_652 : decode cL_law 652 = .ok (.invokevirtual 81, 3) := by decide +kernel
theorem dL_law_655 : decode cL_law 655 = .ok (.if_icmp .eq 255, 3) := by decide +kernel
theorem dL_law_658 : decode cL_law 658 = .ok (.iconst 0, 1) := by decide +kernel
theorem dL_law_659 : decode cL_law 659 = .ok (.ireturn, 1) := by decide +kernel
theorem dL_law_660 : decode cL_law 660 = .ok (.aload_n 1, 1) := by decide +kernel
theorem dL_law_661 : decode cL_law 661 = .ok (.aload_n 0, 1) := by decide +kernel
theorem dL_law_662 : decode cL_law 662 = .ok (.iload_n 3, 1) := by decide +kernel
theorem dL_law_663 : decode cL_law 663 = .ok (.iconst 1, 1) := by decide +kernel
theorem dL_law_664 : decode cL_law 664 = .ok (.iadd, 1) := by decide +kernel
theorem dL_law_665 : decode cL_law 665 = .ok (.iaload, 1) := by decide +kernel
theorem dL_law_666 : decode cL_law 666 = .ok (.aload_n 0, 1) := by decide +kernel
theorem dL_law_667 : decode cL_law 667 = .ok (.iload_n 3, 1) := by decide +kernel
theorem dL_law_668 : decode cL_law 668 = .ok (.iconst 2, 1) := by decide +kernel
theorem dL_law_669 : decode cL_law 669 = .ok (.iadd, 1) := by decide +kernel
theorem dL_law_670 : decode cL_law 670 = .ok (.iaload, 1) := by decide +kernel
theorem dL_law_671 : decode cL_law 671 = .ok (.invokevirtual 82, 3) := by decide +kernel
theorem dL_law_674 : decode cL_law 674 = .ok (.aload_n 2, 1) := by decide +kernel
theorem dL_law_675 : decode cL_law 675 = .ok (.aload_n 0, 1) := by decide +kernel
theorem dL_law_676 : decode cL_law 676 = .ok (.iload_n 3, 1) := by decide +kernel
theorem dL_law_677 : decode cL_law 677 = .ok (.iconst 1, 1) := by decide +kernel
theorem dL_law_678 : decode cL_law 678 = .ok (.iadd, 1) := by decide +kernel
theorem dL_law_679 : decode cL_law 679 = .ok (.iaload, 1) := by decide +kernel
theorem dL_law_680 : decode cL_law 680 = .ok (.aload_n 0, 1) := by decide +kernel
theorem dL_law_681 : decode cL_law 681 = .ok (.iload_n 3, 1) := by decide +kernel
theorem dL_law_682 : decode cL_law 682 = .ok (.iconst 2, 1) := by decide +kernel
theorem dL_law_683 : decode cL_law 683 = .ok (.iadd, 1) := by decide +kernel
theorem dL_law_684 : decode cL_law 684 = .ok (.iaload, 1) := by decide +kernel
theorem dL_law_685 : decode cL_law 685 = .ok (.invokevirtual 85, 3) := by decide +kernel
theorem dL_law_688 : decode cL_law 688 = .ok (.if_icmp .eq 222, 3) := by decide +kernel
theorem dL_law_691 : decode cL_law 691 = .ok (.iconst 0, 1) := by decide +kernel
theorem dL_law_692 : decode cL_law 692 = .ok (.ireturn, 1) := by decide +kernel
theorem dL_law_693 : decode cL_law 693 = .ok (.aload_n 1, 1) := by decide +kernel
theorem dL_law_694 : decode cL_law 694 = .ok (.aload_n 0, 1) := by decide +kernel
theorem dL_law_695 : decode cL_law 695 = .ok (.iload_n 3, 1) := by decide +kernel
theorem dL_law_696 : decode cL_law 696 = .ok (.iconst 1, 1) := by decide +kernel
theorem dL_law_697 : decode cL_law 697 = .ok (.iadd, 1) := by decide +kernel
theorem dL_law_698 : decode cL_law 698 = .ok (.iaload, 1) := by decide +kernel
theorem dL_law_699 : decode cL_law 699 = .ok (.invokevirtual 86, 3) := by decide +kernel
theorem dL_law_702 : decode cL_law 702 = .ok (.aload_n 2, 1) := by decide +kernel
theorem dL_law_703 : decode cL_law 703 = .ok (.aload_n 0, 1) := by decide +kernel
theorem dL_law_704 : decode cL_law 704 = .ok (.iload_n 3, 1) := by decide +kernel
theorem dL_law_705 : decode cL_law 705 = .ok (.iconst 1, 1) := by decide +kernel
theorem dL_law_706 : decode cL_law 706 = .ok (.iadd, 1) := by decide +kernel
theorem dL_law_707 : decode cL_law 707 = .ok (.iaload, 1) := by decide +kernel
theorem dL_law_708 : decode cL_law 708 = .ok (.invokevirtual 89, 3) := by decide +kernel
theorem dL_law_711 : decode cL_law 711 = .ok (.if_icmp .eq 199, 3) := by decide +kernel
theorem dL_law_714 : decode cL_law 714 = .ok (.iconst 0, 1) := by decide +kernel
theorem dL_law_715 : decode cL_law 715 = .ok (.ireturn, 1) := by decide +kernel
theorem dL_law_716 : decode cL_law 716 = .ok (.aload_n 1, 1) := by decide +kernel
theorem dL_law_717 : decode cL_law 717 = .ok (.aload_n 0, 1) := by decide +kernel
theorem dL_law_718 : decode cL_law 718 = .ok (.iload_n 3, 1) := by decide +kernel
theorem dL_law_719 : decode cL_law 719 = .ok (.iconst 1, 1) := by decide +kernel
theorem dL_law_720 : decode cL_law 720 = .ok (.iadd, 1) := by decide +kernel
theorem dL_law_721 : decode cL_law 721 = .ok (.iaload, 1) := by decide +kernel
theorem dL_law_722 : decode cL_law 722 = .ok (.aload_n 0, 1) := by decide +kernel
theorem dL_law_723 : decode cL_law 723 = .ok (.iload_n 3, 1) := by decide +kernel
theorem dL_law_724 : decode cL_law 724 = .ok (.iconst 2, 1) := by decide +kernel
theorem dL_law_725 : decode cL_law 725 = .ok (.iadd, 1) := by decide +kernel
theorem dL_law_726 : decode cL_law 726 = .ok (.iaload, 1) := by decide +kernel
theorem dL_law_727 : decode cL_law 727 = .ok (.invokevirtual 90, 3) := by decide +kernel
theorem dL_law_730 : decode cL_law 730 = .ok (.aload_n 2, 1) := by decide +kernel
theorem dL_law_731 : decode cL_law 731 = .ok (.aload_n 0, 1) := by decide +kernel
theorem dL_law_732 : decode cL_law 732 = .ok (.iload_n 3, 1) := by decide +kernel
theorem dL_law_733 : decode cL_law 733 = .ok (.iconst 1, 1) := by decide +kernel
theorem dL_law_734 : decode cL_law 734 = .ok (.iadd, 1) := by decide +kernel
theorem dL_law_735 : decode cL_law 735 = .ok (.iaload, 1) := by decide +kernel
theorem dL_law_736 : decode cL_law 736 = .ok (.aload_n 0, 1) := by decide +kernel
theorem dL_law_737 : decode cL_law 737 = .ok (.iload_n 3, 1) := by decide +kernel
theorem dL_law_738 : decode cL_law 738 = .ok (.iconst 2, 1) := by decide +kernel
theorem dL_law_739 : decode cL_law 739 = .ok (.iadd, 1) := by decide +kernel
theorem dL_law_740 : decode cL_law 740 = .ok (.iaload, 1) := by decide +kernel
theorem dL_law_741 : decode cL_law 741 = .ok (.invokevirtual 93, 3) := by decide +kernel
theorem dL_law_744 : decode cL_law 744 = .ok (.if_icmp .eq 166, 3) := by decide +kernel
theorem dL_law_747 : decode cL_law 747 = .ok (.iconst 0, 1) := by decide +kernel
theorem dL_law_748 : decode cL_law 748 = .ok (.ireturn, 1) := by decide +kernel
theorem dL_law_749 : decode cL_law 749 = .ok (.aload_n 1, 1) := by decide +kernel
theorem dL_law_750 : decode cL_law 750 = .ok (.aload_n 0, 1) := by decide +kernel
theorem dL_law_751 : decode cL_law 751 = .ok (.iload_n 3, 1) := by decide +kernel
theorem dL_law_752 : decode cL_law 752 = .ok (.iconst 1, 1) := by decide +kernel
theorem dL_law_753 : decode cL_law 753 = .ok (.iadd, 1) := by decide +kernel
theorem dL_law_754 : decode cL_law 754 = .ok (.iaload, 1) := by decide +kernel
theorem dL_law_755 : decode cL_law 755 = .ok (.invokevirtual 94, 3) := by decide +kernel
theorem dL_law_758 : decode cL_law 758 = .ok (.aload_n 2, 1) := by decide +kernel
theorem dL_law_759 : decode cL_law 759 = .ok (.aload_n 0, 1) := by decide +kernel
theorem dL_law_760 : decode cL_law 760 = .ok (.iload_n 3, 1) := by decide +kernel
theorem dL_law_761 : decode cL_law 761 = .ok (.iconst 1, 1) := by decide +kernel
theorem dL_law_762 : decode cL_law 762 = .ok (.iadd, 1) := by decide +kernel
theorem dL_law_763 : decode cL_law 763 = .ok (.iaload, 1) := by decide +kernel
theorem dL_law_764 : decode cL_law 764 = .ok (.invokevirtual 97, 3) := by decide +kernel
theorem dL_law_767 : decode cL_law 767 = .ok (.if_icmp .eq 143, 3) := by decide +kernel
theorem dL_law_770 : decode cL_law 770 = .ok (.iconst 0, 1) := by decide +kernel
theorem dL_law_771 : decode cL_law 771 = .ok (.ireturn, 1) := by decide +kernel
theorem dL_law_772 : decode cL_law 772 = .ok (.aload_n 1, 1) := by decide +kernel
theorem dL_law_773 : decode cL_law 773 = .ok (.aload_n 0, 1) := by decide +kernel
theorem dL_law_774 : decode cL_law 774 = .ok (.iload_n 3, 1) := by decide +kernel
theorem dL_law_775 : decode cL_law 775 = .ok (.iconst 1, 1) := by decide +kernel
theorem dL_law_776 : decode cL_law 776 = .ok (.iadd, 1) := by decide +kernel
theorem dL_law_777 : decode cL_law 777 = .ok (.iaload, 1) := by decide +kernel
theorem dL_law_778 : decode cL_law 778 = .ok (.i2l, 1) := by decide +kernel
theorem dL_law_779 : decode cL_law 779 = .ok (.bipush 32, 2) := by decide +kernel
theorem dL_law_781 : decode cL_law 781 = .ok (.lshl, 1) := by decide +kernel
theorem dL_law_782 : decode cL_law 782 = .ok (.aload_n 0, 1) := by decide +kernel
theorem dL_law_783 : decode cL_law 783 = .ok (.iload_n 3, 1) := by decide +kernel
theorem dL_law_784 : decode cL_law 784 = .ok (.iconst 2, 1) := by decide +kernel
theorem dL_law_785 : decode cL_law 785 = .ok (.iadd, 1) := by decide +kernel
theorem dL_law_786 : decode cL_law 786 = .ok (.iaload, 1) := by decide +kernel
theorem dL_law_787 : decode cL_law 787 = .ok (.i2l, 1) := by decide +kernel
theorem dL_law_788 : decode cL_law 788 = .ok (.ldc2_w 98, 3) := by decide +kernel
theorem dL_law_791 : decode cL_law 791 = .ok (.land, 1) := by decide +kernel
theorem dL_law_792 : decode cL_law 792 = .ok (.lor, 1) := by decide +kernel
theorem dL_law_793 : decode cL_law 793 = .ok (.invokevirtual 100, 3) := by decide +kernel
theorem dL_law_796 : decode cL_law 796 = .ok (.aload_n 2, 1) := by decide +kernel
theorem dL_law_797 : decode cL_law 797 = .ok (.aload_n 0, 1) := by decide +kernel
theorem dL_law_798 : decode cL_law 798 = .ok (.iload_n 3, 1) := by decide +kernel
theorem dL_law_799 : decode cL_law 799 = .ok (.iconst 1, 1) := by decide +kernel
theorem dL_law_800 : decode cL_law 800 = .ok (.iadd, 1) := by decide +kernel
theorem dL_law_801 : decode cL_law 801 = .ok (.iaload, 1) := by decide +kernel
theorem dL_law_802 : decode cL_law 802 = .ok (.i2l, 1) := by decide +kernel
theorem dL_law_803 : decode cL_law 803 = .ok (.bipush 32, 2) := by decide +kernel
theorem dL_law_805 : decode cL_law 805 = .ok (.lshl, 1) := by decide +kernel
theorem dL_law_806 : decode cL_law 806 = .ok (.aload_n 0, 1) := by decide +kernel
theorem dL_law_807 : decode cL_law 807 = .ok (.iload_n 3, 1) := by decide +kernel
theorem dL_law_808 : decode cL_law 808 = .ok (.iconst 2, 1) := by decide +kernel
theorem dL_law_809 : decode cL_law 809 = .ok (.iadd, 1) := by decide +kernel
theorem dL_law_810 : decode cL_law 810 = .ok (.iaload, 1) := by decide +kernel
theorem dL_law_811 : decode cL_law 811 = .ok (.i2l, 1) := by decide +kernel
theorem dL_law_812 : decode cL_law 812 = .ok (.ldc2_w 98, 3) := by decide +kernel
theorem dL_law_815 : decode cL_law 815 = .ok (.land, 1) := by decide +kernel
theorem dL_law_816 : decode cL_law 816 = .ok (.lor, 1) := by decide +kernel
theorem dL_law_817 : decode cL_law 817 = .ok (.invokevirtual 104, 3) := by decide +kernel
theorem dL_law_820 : decode cL_law 820 = .ok (.if_icmp .eq 90, 3) := by decide +kernel
theorem dL_law_823 : decode cL_law 823 = .ok (.iconst 0, 1) := by decide +kernel
theorem dL_law_824 : decode cL_law 824 = .ok (.ireturn, 1) := by decide +kernel
theorem dL_law_825 : decode cL_law 825 = .ok (.aload_n 1, 1) := by decide +kernel
theorem dL_law_826 : decode cL_law 826 = .ok (.invokevirtual 105, 3) := by decide +kernel
theorem dL_law_829 : decode cL_law 829 = .ok (.aload_n 2, 1) := by decide +kernel
theorem dL_law_830 : decode cL_law 830 = .ok (.invokevirtual 108, 3) := by decide +kernel
theorem dL_law_833 : decode cL_law 833 = .ok (.if_icmp .eq 77, 3) := by decide +kernel
theorem dL_law_836 : decode cL_law 836 = .ok (.iconst 0, 1) := by decide +kernel
theorem dL_law_837 : decode cL_law 837 = .ok (.ireturn, 1) := by decide +kernel
theorem dL_law_838 : decode cL_law 838 = .ok (.aload_n 1, 1) := by decide +kernel
theorem dL_law_839 : decode cL_law 839 = .ok (.invokevirtual 109, 3) := by decide +kernel
theorem dL_law_842 : decode cL_law 842 = .ok (.aload_n 2, 1) := by decide +kernel
theorem dL_law_843 : decode cL_law 843 = .ok (.invokevirtual 112, 3) := by decide +kernel
theorem dL_law_846 : decode cL_law 846 = .ok (.if_icmp .eq 64, 3) := by decide +kernel
theorem dL_law_849 : decode cL_law 849 = .ok (.iconst 0, 1) := by decide +kernel
theorem dL_law_850 : decode cL_law 850 = .ok (.ireturn, 1) := by decide +kernel
theorem dL_law_851 : decode cL_law 851 = .ok (.aload_n 1, 1) := by decide +kernel
theorem dL_law_852 : decode cL_law 852 = .ok (.invokevirtual 113, 3) := by decide +kernel
theorem dL_law_855 : decode cL_law 855 = .ok (.aload_n 2, 1) := by decide +kernel
theorem dL_law_856 : decode cL_law 856 = .ok (.invokevirtual 116, 3) := by decide +kernel
theorem dL_law_859 : decode cL_law 859 = .ok (.if_icmp .eq 51, 3) := by decide +kernel
theorem dL_law_862 : decode cL_law 862 = .ok (.iconst 0, 1) := by decide +kernel
theorem dL_law_863 : decode cL_law 863 = .ok (.ireturn, 1) := by decide +kernel
theorem dL_law_864 : decode cL_law 864 = .ok (.aload_n 1, 1) := by decide +kernel
theorem dL_law_865 : decode cL_law 865 = .ok (.aload_n 0, 1) := by decide +kernel
theorem dL_law_866 : decode cL_law 866 = .ok (.iload_n 3, 1) := by decide +kernel
theorem dL_law_867 : decode cL_law 867 = .ok (.iconst 1, 1) := by decide +kernel
theorem dL_law_868 : decode cL_law 868 = .ok (.iadd, 1) := by decide +kernel
theorem dL_law_869 : decode cL_law 869 = .ok (.iaload, 1) := by decide +kernel
theorem dL_law_870 : decode cL_law 870 = .ok (.invokevirtual 117, 3) := by decide +kernel
theorem dL_law_873 : decode cL_law 873 = .ok (.aload_n 2, 1) := by decide +kernel
theorem dL_law_874 : decode cL_law 874 = .ok (.aload_n 0, 1) := by decide +kernel
theorem dL_law_875 : decode cL_law 875 = .ok (.iload_n 3, 1) := by decide +kernel
theorem dL_law_876 : decode cL_law 876 = .ok (.iconst 1, 1) := by decide +kernel
theorem dL_law_877 : decode cL_law 877 = .ok (.iadd, 1) := by decide +kernel
theorem dL_law_878 : decode cL_law 878 = .ok (.iaload, 1) := by decide +kernel
theorem dL_law_879 : decode cL_law 879 = .ok (.invokevirtual 120, 3) := by decide +kernel
theorem dL_law_882 : decode cL_law 882 = .ok (.if_icmp .eq 28, 3) := by decide +kernel
theorem dL_law_885 : decode cL_law 885 = .ok (.iconst 0, 1) := by decide +kernel
theorem dL_law_886 : decode cL_law 886 = .ok (.ireturn, 1) := by decide +kernel
theorem dL_law_887 : decode cL_law 887 = .ok (.aload_n 1, 1) := by decide +kernel
theorem dL_law_888 : decode cL_law 888 = .ok (.aload_n 0, 1) := by decide +kernel
theorem dL_law_889 : decode cL_law 889 = .ok (.iload_n 3, 1) := by decide +kernel
theorem dL_law_890 : decode cL_law 890 = .ok (.iconst 1, 1) := by decide +kernel
theorem dL_law_891 : decode cL_law 891 = .ok (.iadd, 1) := by decide +kernel
theorem dL_law_892 : decode cL_law 892 = .ok (.iaload, 1) := by decide +kernel
theorem dL_law_893 : decode cL_law 893 = .ok (.invokevirtual 121, 3) := by decide +kernel
theorem dL_law_896 : decode cL_law 896 = .ok (.aload_n 2, 1) := by decide +kernel
theorem dL_law_897 : decode cL_law 897 = .ok (.aload_n 0, 1) := by decide +kernel
theorem dL_law_898 : decode cL_law 898 = .ok (.iload_n 3, 1) := by decide +kernel
theorem dL_law_899 : decode cL_law 899 = .ok (.iconst 1, 1) := by decide +kernel
theorem dL_law_900 : decode cL_law 900 = .ok (.iadd, 1) := by decide +kernel
theorem dL_law_901 : decode cL_law 901 = .ok (.iaload, 1) := by decide +kernel
theorem dL_law_902 : decode cL_law 902 = .ok (.invokevirtual 124, 3) := by decide +kernel
theorem dL_law_905 : decode cL_law 905 = .ok (.if_icmp .eq 5, 3) := by decide +kernel
theorem dL_law_908 : decode cL_law 908 = .ok (.iconst 0, 1) := by decide +kernel
theorem dL_law_909 : decode cL_law 909 = .ok (.ireturn, 1) := by decide +kernel
theorem dL_law_910 : decode cL_law 910 = .ok (.iinc 3 5, 3) := by decide +kernel
theorem dL_law_913 : decode cL_law 913 = .ok (.goto (-895), 3) := by decide +kernel
theorem dL_law_916 : decode cL_law 916 = .ok (.iconst 1, 1) := by decide +kernel
theorem dL_law_917 : decode cL_law 917 = .ok (.ireturn, 1) := by decide +kernel
end
section
theorem dX10_init_0 : decode cX10_init 0 = .ok (.aload_n 0, 1) := by decide +kernel
theorem dX10_init_1 : decode cX10_init 1 = .ok (.invokespecial 1, 3) := by decide +kernel
theorem dX10_init_4 : decode cX10_init 4 = .ok (.aload_n 0, 1) := by decide +kernel
theorem dX10_init_5 : decode cX10_init 5 = .ok (.new 7, 3) := by decide +kernel
theorem dX10_init_8 : decode cX10_init 8 = .ok (.dup, 1) := by decide +kernel
theorem dX10_init_9 : decode cX10_init 9 = .ok (.invokespecial 9, 3) := by decide +kernel
theorem dX10_init_12 : decode cX10_init 12 = .ok (.putfield 10, 3) := by decide +kernel
theorem dX10_init_15 : decode cX10_init 15 = .ok (.aload_n 0, 1) := by decide +kernel
theorem dX10_init_16 : decode cX10_init 16 = .ok (.new 16, 3) := by decide +kernel
theorem dX10_init_19 : decode cX10_init 19 = .ok (.dup, 1) := by decide +kernel
theorem dX10_init_20 : decode cX10_init 20 = .ok (.invokespecial 18, 3) := by decide +kernel
theorem dX10_init_23 : decode cX10_init 23 = .ok (.putfield 19, 3) := by decide +kernel
theorem dX10_init_26 : decode cX10_init 26 = .ok (.aload_n 0, 1) := by decide +kernel
theorem dX10_init_27 : decode cX10_init 27 = .ok (.new 23, 3) := by decide +kernel
theorem dX10_init_30 : decode cX10_init 30 = .ok (.dup, 1) := by decide +kernel
theorem dX10_init_31 : decode cX10_init 31 = .ok (.invokespecial 25, 3) := by decide +kernel
theorem dX10_init_34 : decode cX10_init 34 = .ok (.putfield 26, 3) := by decide +kernel
theorem dX10_init_37 : decode cX10_init 37 = .ok (.aload_n 0, 1) := by decide +kernel
theorem dX10_init_38 : decode cX10_init 38 = .ok (.new 30, 3) := by decide +kernel
theorem dX10_init_41 : decode cX10_init 41 = .ok (.dup, 1) := by decide +kernel
theorem dX10_init_42 : decode cX10_init 42 = .ok (.iconst 2, 1) := by decide +kernel
theorem dX10_init_43 : decode cX10_init 43 = .ok (.invokespecial 32, 3) := by decide +kernel
theorem dX10_init_46 : decode cX10_init 46 = .ok (.putfield 35, 3) := by decide +kernel
theorem dX10_init_49 : decode cX10_init 49 = .ok (.aload_n 0, 1) := by decide +kernel
theorem dX10_init_50 : decode cX10_init 50 = .ok (.new 39, 3) := by decide +kernel
theorem dX10_init_53 : decode cX10_init 53 = .ok (.dup, 1) := by decide +kernel
theorem dX10_init_54 : decode cX10_init 54 = .ok (.invokespecial 41, 3) := by decide +kernel
theorem dX10_init_57 : decode cX10_init 57 = .ok (.putfield 42, 3) := by decide +kernel
theorem dX10_init_60 : decode cX10_init 60 = .ok (.return_, 1) := by decide +kernel
theorem dX10_set_0 : decode cX10_set 0 = .ok (.iload_n 1, 1) := by decide +kernel
theorem dX10_set_1 : decode cX10_set 1 = .ok (.iload_n 2, 1) := by decide +kernel
theorem dX10_set_2 : decode cX10_set 2 = .ok (.invokestatic 46, 3) := by decide +kernel
theorem dX10_set_5 : decode cX10_set 5 = .ok (.ifCond .ne 6, 3) := by decide +kernel
theorem dX10_set_8 : decode cX10_set 8 = .ok (.bipush (-2), 2) := by decide +kernel
theorem dX10_set_10 : decode cX10_set 10 = .ok (.ireturn, 1) := by decide +kernel
theorem dX10_set_11 : decode cX10_set 11 = .ok (.aload_n 0, 1) := by decide +kernel
theorem dX10_set_12 : decode cX10_set 12 = .ok (.getfield 26, 3) := by decide +kernel
theorem dX10_set_15 : decode cX10_set 15 = .ok (.aload_n 0, 1) := by decide +kernel
theorem dX10_set_16 : decode cX10_set 16 = .ok (.getfield 10, 3) := by decide +kernel
theorem dX10_set_19 : decode cX10_set 19 = .ok (.invokevirtual 50, 3) := by decide +kernel
theorem dX10_set_22 : decode cX10_set 22 = .ok (.aload_n 0, 1) := by decide +kernel
theorem dX10_set_23 : decode cX10_set 23 = .ok (.getfield 10, 3) := by decide +kernel
theorem dX10_set_26 : decode cX10_set 26 = .ok (.getfield 54, 3) := by decide +kernel
theorem dX10_set_29 : decode cX10_set 29 = .ok (.iload_n 1, 1) := by decide +kernel
theorem dX10_set_30 : decode cX10_set 30 = .ok (.invokevirtual 58, 3) := by decide +kernel
theorem dX10_set_33 : decode cX10_set 33 = .ok (.istore_n 3, 1) := by decide +kernel
theorem dX10_set_34 : decode cX10_set 34 = .ok (.aload_n 0, 1) := by decide +kernel
theorem dX10_set_35 : decode cX10_set 35 = .ok (.getfield 10, 3) := by decide +kernel
theorem dX10_set_38 : decode cX10_set 38 = .ok (.getfield 54, 3) := by decide +kernel
theorem dX10_set_41 : decode cX10_set 41 = .ok (.iload_n 1, 1) := by decide +kernel
theorem dX10_set_42 : decode cX10_set 42 = .ok (.iload_n 2, 1) := by decide +kernel
theorem dX10_set_43 : decode cX10_set 43 = .ok (.invokevirtual 64, 3) := by decide +kernel
theorem dX10_set_46 : decode cX10_set 46 = .ok (.iload_n 3, 1) := by decide +kernel
theorem dX10_set_47 : decode cX10_set 47 = .ok (.ireturn, 1) := by decide +kernel
theorem dX10_lay_0 : decode cX10_lay 0 = .ok (.iload_n 1, 1) := by decide +kernel
theorem dX10_lay_1 : decode cX10_lay 1 = .ok (.invokestatic 68, 3) := by decide +kernel
theorem dX10_lay_4 : decode cX10_lay 4 = .ok (.ifCond .eq 10, 3) := by decide +kernel
theorem dX10_lay_7 : decode cX10_lay 7 = .ok (.iload_n 2, 1) := by decide +kernel
theorem dX10_lay_8 : decode cX10_lay 8 = .ok (.invokestatic 68, 3) := by decide +kernel
theorem dX10_lay_11 : decode cX10_lay 11 = .ok (.ifCond .ne 5, 3) := by decide +kernel
theorem dX10_lay_14 : decode cX10_lay 14 = .ok (.iconst (-1), 1) := by decide +kernel
theorem dX10_lay_15 : decode cX10_lay 15 = .ok (.ireturn, 1) := by decide +kernel
theorem dX10_lay_16 : decode cX10_lay 16 = .ok (.iload_n 1, 1) := by decide +kernel
theorem dX10_lay_17 : decode cX10_lay 17 = .ok (.iload_n 2, 1) := by decide +kernel
theorem dX10_lay_18 : decode cX10_lay 18 = .ok (.if_icmp .eq 24, 3) := by decide +kernel
theorem dX10_lay_21 : decode cX10_lay 21 = .ok (.iload_n 3, 1) := by decide +kernel
theorem dX10_lay_22 : decode cX10_lay 22 = .ok (.iconst 1, 1) := by decide +kernel
theorem dX10_lay_23 : decode cX10_lay 23 = .ok (.bipush 9, 2) := by decide +kernel
theorem dX10_lay_25 : decode cX10_lay 25 = .ok (.invokestatic 72, 3) := by decide +kernel
theorem dX10_lay_28 : decode cX10_lay 28 = .ok (.ifCond .eq 14, 3) := by decide +kernel
theorem dX10_lay_31 : decode cX10_lay 31 = .ok (.iload 4, 2) := by decide +kernel
theorem dX10_lay_33 : decode cX10_lay 33 = .ok (.iconst 1, 1) := by decide +kernel
theorem dX10_lay_34 : decode cX10_lay 34 = .ok (.bipush 9, 2) := by decide +kernel
theorem dX10_lay_36 : decode cX10_lay 36 = .ok (.invokestatic 72, 3) := by decide +kernel
theorem dX10_lay_39 : decode cX10_lay 39 = .ok (.ifCond .ne 6, 3) := by decide +kernel
theorem dX10_lay_42 : decode cX10_lay 42 = .ok (.bipush (-2), 2) := by decide +kernel
theorem dX10_lay_44 : decode cX10_lay 44 = .ok (.ireturn, 1) := by decide +kernel
theorem dX10_lay_45 : decode cX10_lay 45 = .ok (.aload_n 0, 1) := by decide +kernel
theorem dX10_lay_46 : decode cX10_lay 46 = .ok (.getfield 10, 3) := by decide +kernel
theorem dX10_lay_49 : decode cX10_lay 49 = .ok (.getfield 76, 3) := by decide +kernel
theorem dX10_lay_52 : decode cX10_lay 52 = .ok (.getfield 80, 3) := by decide +kernel
theorem dX10_lay_55 : decode cX10_lay 55 = .ok (.bipush 20, 2) := by decide +kernel
theorem dX10_lay_57 : decode cX10_lay 57 = .ok (.if_icmp .lt 6, 3) := by decide +kernel
theorem dX10_lay_60 : decode cX10_lay 60 = .ok (.bipush (-4), 2) := by decide +kernel
theorem dX10_lay_62 : decode cX10_lay 62 = .ok (.ireturn, 1) := by decide +kernel
theorem dX10_lay_63 : decode cX10_lay 63 = .ok (.aload_n 0, 1) := by decide +kernel
theorem dX10_lay_64 : decode cX10_lay 64 = .ok (.getfield 26, 3) := by decide +kernel
theorem dX10_lay_67 : decode cX10_lay 67 = .ok (.aload_n 0, 1) := by decide +kernel
theorem dX10_lay_68 : decode cX10_lay 68 = .ok (.getfield 10, 3) := by decide +kernel
theorem dX10_lay_71 : decode cX10_lay 71 = .ok (.invokevirtual 50, 3) := by decide +kernel
theorem dX10_lay_74 : decode cX10_lay 74 = .ok (.aload_n 0, 1) := by decide +kernel
theorem dX10_lay_75 : decode cX10_lay 75 = .ok (.getfield 10, 3) := by decide +kernel
theorem dX10_lay_78 : decode cX10_lay 78 = .ok (.getfield 76, 3) := by decide +kernel
theorem dX10_lay_81 : decode cX10_lay 81 = .ok (.iload_n 1, 1) := by decide +kernel
theorem dX10_lay_82 : decode cX10_lay 82 = .ok (.iload_n 2, 1) := by decide +kernel
theorem dX10_lay_83 : decode cX10_lay 83 = .ok (.iload_n 3, 1) := by decide +kernel
theorem dX10_lay_84 : decode cX10_lay 84 = .ok (.iload 4, 2) := by decide +kernel
theorem dX10_lay_86 : decode cX10_lay 86 = .ok (.invokevirtual 86, 3) := by decide +kernel
theorem dX10_lay_89 : decode cX10_lay 89 = .ok (.aload_n 0, 1) := by decide +kernel
theorem dX10_lay_90 : decode cX10_lay 90 = .ok (.getfield 10, 3) := by decide +kernel
theorem dX10_lay_93 : decode cX10_lay 93 = .ok (.getfield 76, 3) := by decide +kernel
theorem dX10_lay_96 : decode cX10_lay 96 = .ok (.getfield 80, 3) := by decide +kernel
theorem dX10_lay_99 : decode cX10_lay 99 = .ok (.iconst 1, 1) := by decide +kernel
theorem dX10_lay_100 : decode cX10_lay 100 = .ok (.isub, 1) := by decide +kernel
theorem dX10_lay_101 : decode cX10_lay 101 = .ok (.ireturn, 1) := by decide +kernel
theorem dX10_read_0 : decode cX10_read 0 = .ok (.aload_n 0, 1) := by decide +kernel
theorem dX10_read_1 : decode cX10_read 1 = .ok (.getfield 19, 3) := by decide +kernel
theorem dX10_read_4 : decode cX10_read 4 = .ok (.invokevirtual 90, 3) := by decide +kernel
theorem dX10_read_7 : decode cX10_read 7 = .ok (.bipush (-6), 2) := by decide +kernel
theorem dX10_read_9 : decode cX10_read 9 = .ok (.if_icmp .eq 6, 3) := by decide +kernel
theorem dX10_read_12 : decode cX10_read 12 = .ok (.bipush (-3), 2) := by decide +kernel
theorem dX10_read_14 : decode cX10_read 14 = .ok (.ireturn, 1) := by decide +kernel
theorem dX10_read_15 : decode cX10_read 15 = .ok (.aload_n 0, 1) := by decide +kernel
theorem dX10_read_16 : decode cX10_read 16 = .ok (.getfield 10, 3) := by decide +kernel
theorem dX10_read_19 : decode cX10_read 19 = .ok (.getfield 76, 3) := by decide +kernel
theorem dX10_read_22 : decode cX10_read 22 = .ok (.getfield 80, 3) := by decide +kernel
theorem dX10_read_25 : decode cX10_read 25 = .ok (.aload_n 0, 1) := by decide +kernel
theorem dX10_read_26 : decode cX10_read 26 = .ok (.getfield 19, 3) := by decide +kernel
theorem dX10_read_29 : decode cX10_read 29 = .ok (.invokevirtual 94, 3) := by decide +kernel
theorem dX10_read_32 : decode cX10_read 32 = .ok (.iadd, 1) := by decide +kernel
theorem dX10_read_33 : decode cX10_read 33 = .ok (.bipush 20, 2) := by decide +kernel
theorem dX10_read_35 : decode cX10_read 35 = .ok (.if_icmp .le 6, 3) := by decide +kernel
theorem dX10_read_38 : decode cX10_read 38 = .ok (.bipush (-4), 2) := by decide +kernel
theorem dX10_read_40 : decode cX10_read 40 = .ok (.ireturn, 1) := by decide +kernel
theorem dX10_read_41 : decode cX10_read 41 = .ok (.aload_n 0, 1) := by decide +kernel
theorem dX10_read_42 : decode cX10_read 42 = .ok (.getfield 26, 3) := by decide +kernel
theorem dX10_read_45 : decode cX10_read 45 = .ok (.aload_n 0, 1) := by decide +kernel
theorem dX10_read_46 : decode cX10_read 46 = .ok (.getfield 10, 3) := by decide +kernel
theorem dX10_read_49 : decode cX10_read 49 = .ok (.invokevirtual 50, 3) := by decide +kernel
theorem dX10_read_52 : decode cX10_read 52 = .ok (.aload_n 0, 1) := by decide +kernel
theorem dX10_read_53 : decode cX10_read 53 = .ok (.getfield 19, 3) := by decide +kernel
theorem dX10_read_56 : decode cX10_read 56 = .ok (.aload_n 0, 1) := by decide +kernel
theorem dX10_read_57 : decode cX10_read 57 = .ok (.getfield 10, 3) := by decide +kernel
theorem dX10_read_60 : decode cX10_read 60 = .ok (.getfield 76, 3) := by decide +kernel
theorem dX10_read_63 : decode cX10_read 63 = .ok (.invokevirtual 97, 3) := by decide +kernel
theorem dX10_read_66 : decode cX10_read 66 = .ok (.aload_n 0, 1) := by decide +kernel
theorem dX10_read_67 : decode cX10_read 67 = .ok (.getfield 19, 3) := by decide +kernel
theorem dX10_read_70 : decode cX10_read 70 = .ok (.iconst 0, 1) := by decide +kernel
theorem dX10_read_71 : decode cX10_read 71 = .ok (.putfield 101, 3) := by decide +kernel
theorem dX10_read_74 : decode cX10_read 74 = .ok (.aload_n 0, 1) := by decide +kernel
theorem dX10_read_75 : decode cX10_read 75 = .ok (.getfield 10, 3) := by decide +kernel
theorem dX10_read_78 : decode cX10_read 78 = .ok (.getfield 76, 3) := by decide +kernel
theorem dX10_read_81 : decode cX10_read 81 = .ok (.getfield 80, 3) := by decide +kernel
theorem dX10_read_84 : decode cX10_read 84 = .ok (.ireturn, 1) := by decide +kernel
theorem dX10_takeUp_0 : decode cX10_takeUp 0 = .ok (.aload_n 0, 1) := by decide +kernel
theorem dX10_takeUp_1 : decode cX10_takeUp 1 = .ok (.getfield 10, 3) := by decide +kernel
theorem dX10_takeUp_4 : decode cX10_takeUp 4 = .ok (.getfield 76, 3) := by decide +kernel
theorem dX10_takeUp_7 : decode cX10_takeUp 7 = .ok (.iload_n 1, 1) := by decide +kernel
theorem dX10_takeUp_8 : decode cX10_takeUp 8 = .ok (.invokevirtual 104, 3) := by decide +kernel
theorem dX10_takeUp_11 : decode cX10_takeUp 11 = .ok (.ifCond .ne 5, 3) := by decide +kernel
theorem dX10_takeUp_14 : decode cX10_takeUp 14 = .ok (.iconst (-1), 1) := by decide +kernel
theorem dX10_takeUp_15 : decode cX10_takeUp 15 = .ok (.ireturn, 1) := by decide +kernel
theorem dX10_takeUp_16 : decode cX10_takeUp 16 = .ok (.aload_n 0, 1) := by decide +kernel
theorem dX10_takeUp_17 : decode cX10_takeUp 17 = .ok (.getfield 26, 3) := by decide +kernel
theorem dX10_takeUp_20 : decode cX10_takeUp 20 = .ok (.aload_n 0, 1) := by decide +kernel
theorem dX10_takeUp_21 : decode cX10_takeUp 21 = .ok (.getfield 10, 3) := by decide +kernel
theorem dX10_takeUp_24 : decode cX10_takeUp 24 = .ok (.invokevirtual 50, 3) := by decide +kernel
theorem dX10_takeUp_27 : decode cX10_takeUp 27 = .ok (.aload_n 0, 1) := by decide +kernel
theorem dX10_takeUp_28 : decode cX10_takeUp 28 = .ok (.getfield 10, 3) := by decide +kernel
theorem dX10_takeUp_31 : decode cX10_takeUp 31 = .ok (.getfield 76, 3) := by decide +kernel
theorem dX10_takeUp_34 : decode cX10_takeUp 34 = .ok (.iload_n 1, 1) := by decide +kernel
theorem dX10_takeUp_35 : decode cX10_takeUp 35 = .ok (.invokevirtual 107, 3) := by decide +kernel
theorem dX10_takeUp_38 : decode cX10_takeUp 38 = .ok (.aload_n 0, 1) := by decide +kernel
theorem dX10_takeUp_39 : decode cX10_takeUp 39 = .ok (.getfield 10, 3) := by decide +kernel
theorem dX10_takeUp_42 : decode cX10_takeUp 42 = .ok (.getfield 110, 3) := by decide +kernel
theorem dX10_takeUp_45 : decode cX10_takeUp 45 = .ok (.iload_n 1, 1) := by decide +kernel
theorem dX10_takeUp_46 : decode cX10_takeUp 46 = .ok (.invokevirtual 114, 3) := by decide +kernel
theorem dX10_takeUp_49 : decode cX10_takeUp 49 = .ok (.aload_n 0, 1) := by decide +kernel
theorem dX10_takeUp_50 : decode cX10_takeUp 50 = .ok (.getfield 10, 3) := by decide +kernel
theorem dX10_takeUp_53 : decode cX10_takeUp 53 = .ok (.getfield 76, 3) := by decide +kernel
theorem dX10_takeUp_56 : decode cX10_takeUp 56 = .ok (.getfield 80, 3) := by decide +kernel
theorem dX10_takeUp_59 : decode cX10_takeUp 59 = .ok (.ireturn, 1) := by decide +kernel
theorem dX10_sleeper_0 : decode cX10_sleeper 0 = .ok (.iload_n 1, 1) := by decide +kernel
theorem dX10_sleeper_1 : decode cX10_sleeper 1 = .ok (.invokestatic 68, 3) := by decide +kernel
theorem dX10_sleeper_4 : decode cX10_sleeper 4 = .ok (.ifCond .ne 5, 3) := by decide +kernel
theorem dX10_sleeper_7 : decode cX10_sleeper 7 = .ok (.iconst (-1), 1) := by decide +kernel
theorem dX10_sleeper_8 : decode cX10_sleeper 8 = .ok (.ireturn, 1) := by decide +kernel
theorem dX10_sleeper_9 : decode cX10_sleeper 9 = .ok (.iload_n 2, 1) := by decide +kernel
theorem dX10_sleeper_10 : decode cX10_sleeper 10 = .ok (.iconst 1, 1) := by decide +kernel
theorem dX10_sleeper_11 : decode cX10_sleeper 11 = .ok (.bipush 9, 2) := by decide +kernel
theorem dX10_sleeper_13 : decode cX10_sleeper 13 = .ok (.invokestatic 72, 3) := by decide +kernel
theorem dX10_sleeper_16 : decode cX10_sleeper 16 = .ok (.ifCond .ne 6, 3) := by decide +kernel
theorem dX10_sleeper_19 : decode cX10_sleeper 19 = .ok (.bipush (-2), 2) := by decide +kernel
theorem dX10_sleeper_21 : decode cX10_sleeper 21 = .ok (.ireturn, 1) := by decide +kernel
theorem dX10_sleeper_22 : decode cX10_sleeper 22 = .ok (.aload_n 0, 1) := by decide +kernel
theorem dX10_sleeper_23 : decode cX10_sleeper 23 = .ok (.getfield 10, 3) := by decide +kernel
theorem dX10_sleeper_26 : decode cX10_sleeper 26 = .ok (.getfield 119, 3) := by decide +kernel
theorem dX10_sleeper_29 : decode cX10_sleeper 29 = .ok (.getfield 123, 3) := by decide +kernel
theorem dX10_sleeper_32 : decode cX10_sleeper 32 = .ok (.iconst 5, 1) := by decide +kernel
theorem dX10_sleeper_33 : decode cX10_sleeper 33 = .ok (.if_icmp .lt 6, 3) := by decide +kernel
theorem dX10_sleeper_36 : decode cX10_sleeper 36 = .ok (.bipush (-4), 2) := by decide +kernel
theorem dX10_sleeper_38 : decode cX10_sleeper 38 = .ok (.ireturn, 1) := by decide +kernel
theorem dX10_sleeper_39 : decode cX10_sleeper 39 = .ok (.aload_n 0, 1) := by decide +kernel
theorem dX10_sleeper_40 : decode cX10_sleeper 40 = .ok (.getfield 26, 3) := by decide +kernel
theorem dX10_sleeper_43 : decode cX10_sleeper 43 = .ok (.aload_n 0, 1) := by decide +kernel
theorem dX10_sleeper_44 : decode cX10_sleeper 44 = .ok (.getfield 10, 3) := by decide +kernel
theorem dX10_sleeper_47 : decode cX10_sleeper 47 = .ok (.invokevirtual 50, 3) := by decide +kernel
theorem dX10_sleeper_50 : decode cX10_sleeper 50 = .ok (.aload_n 0, 1) := by decide +kernel
theorem dX10_sleeper_51 : decode cX10_sleeper 51 = .ok (.getfield 10, 3) := by decide +kernel
theorem dX10_sleeper_54 : decode cX10_sleeper 54 = .ok (.getfield 119, 3) := by decide +kernel
theorem dX10_sleeper_57 : decode cX10_sleeper 57 = .ok (.iload_n 1, 1) := by decide +kernel
theorem dX10_sleeper_58 : decode cX10_sleeper 58 = .ok (.iload_n 2, 1) := by decide +kernel
theorem dX10_sleeper_59 : decode cX10_sleeper 59 = .ok (.invokevirtual 128, 3) := by decide +kernel
theorem dX10_sleeper_62 : decode cX10_sleeper 62 = .ok (.aload_n 0, 1) := by decide +kernel
theorem dX10_sleeper_63 : decode cX10_sleeper 63 = .ok (.getfield 10, 3) := by decide +kernel
theorem dX10_sleeper_66 : decode cX10_sleeper 66 = .ok (.getfield 119, 3) := by decide +kernel
theorem dX10_sleeper_69 : decode cX10_sleeper 69 = .ok (.getfield 123, 3) := by decide +kernel
theorem dX10_sleeper_72 : decode cX10_sleeper 72 = .ok (.iconst 1, 1) := by decide +kernel
theorem dX10_sleeper_73 : decode cX10_sleeper 73 = .ok (.isub, 1) := by decide +kernel
theorem dX10_sleeper_74 : decode cX10_sleeper 74 = .ok (.ireturn, 1) := by decide +kernel
theorem dX10_put_0 : decode cX10_put 0 = .ok (.iload_n 1, 1) := by decide +kernel
theorem dX10_put_1 : decode cX10_put 1 = .ok (.invokestatic 130, 3) := by decide +kernel
theorem dX10_put_4 : decode cX10_put 4 = .ok (.ifCond .eq 10, 3) := by decide +kernel
theorem dX10_put_7 : decode cX10_put 7 = .ok (.iload_n 2, 1) := by decide +kernel
theorem dX10_put_8 : decode cX10_put 8 = .ok (.invokestatic 68, 3) := by decide +kernel
theorem dX10_put_11 : decode cX10_put 11 = .ok (.ifCond .ne 5, 3) := by decide +kernel
theorem dX10_put_14 : decode cX10_put 14 = .ok (.iconst (-1), 1) := by decide +kernel
theorem dX10_put_15 : decode cX10_put 15 = .ok (.ireturn, 1) := by decide +kernel
theorem dX10_put_16 : decode cX10_put 16 = .ok (.aload_n 0, 1) := by decide +kernel
theorem dX10_put_17 : decode cX10_put 17 = .ok (.getfield 26, 3) := by decide +kernel
theorem dX10_put_20 : decode cX10_put 20 = .ok (.aload_n 0, 1) := by decide +kernel
theorem dX10_put_21 : decode cX10_put 21 = .ok (.getfield 10, 3) := by decide +kernel
theorem dX10_put_24 : decode cX10_put 24 = .ok (.invokevirtual 50, 3) := by decide +kernel
theorem dX10_put_27 : decode cX10_put 27 = .ok (.aload_n 0, 1) := by decide +kernel
theorem dX10_put_28 : decode cX10_put 28 = .ok (.getfield 10, 3) := by decide +kernel
theorem dX10_put_31 : decode cX10_put 31 = .ok (.getfield 110, 3) := by decide +kernel
theorem dX10_put_34 : decode cX10_put 34 = .ok (.getfield 133, 3) := by decide +kernel
theorem dX10_put_37 : decode cX10_put 37 = .ok (.iload_n 1, 1) := by decide +kernel
theorem dX10_put_38 : decode cX10_put 38 = .ok (.invokevirtual 58, 3) := by decide +kernel
theorem dX10_put_41 : decode cX10_put 41 = .ok (.istore_n 3, 1) := by decide +kernel
theorem dX10_put_42 : decode cX10_put 42 = .ok (.aload_n 0, 1) := by decide +kernel
theorem dX10_put_43 : decode cX10_put 43 = .ok (.getfield 10, 3) := by decide +kernel
theorem dX10_put_46 : decode cX10_put 46 = .ok (.getfield 110, 3) := by decide +kernel
theorem dX10_put_49 : decode cX10_put 49 = .ok (.getfield 133, 3) := by decide +kernel
theorem dX10_put_52 : decode cX10_put 52 = .ok (.iload_n 1, 1) := by decide +kernel
theorem dX10_put_53 : decode cX10_put 53 = .ok (.iload_n 2, 1) := by decide +kernel
theorem dX10_put_54 : decode cX10_put 54 = .ok (.invokevirtual 64, 3) := by decide +kernel
theorem dX10_put_57 : decode cX10_put 57 = .ok (.iload_n 3, 1) := by decide +kernel
theorem dX10_put_58 : decode cX10_put 58 = .ok (.ireturn, 1) := by decide +kernel
theorem dX10_glide_0 : decode cX10_glide 0 = .ok (.iload_n 1, 1) := by decide +kernel
theorem dX10_glide_1 : decode cX10_glide 1 = .ok (.invokestatic 130, 3) := by decide +kernel
theorem dX10_glide_4 : decode cX10_glide 4 = .ok (.ifCond .eq 17, 3) := by decide +kernel
theorem dX10_glide_7 : decode cX10_glide 7 = .ok (.aload_n 0, 1) := by decide +kernel
theorem dX10_glide_8 : decode cX10_glide 8 = .ok (.getfield 10, 3) := by decide +kernel
theorem dX10_glide_11 : decode cX10_glide 11 = .ok (.getfield 76, 3) := by decide +kernel
theorem dX10_glide_14 : decode cX10_glide 14 = .ok (.iload_n 2, 1) := by decide +kernel
theorem dX10_glide_15 : decode cX10_glide 15 = .ok (.invokevirtual 104, 3) := by decide +kernel
theorem dX10_glide_18 : decode cX10_glide 18 = .ok (.ifCond .ne 5, 3) := by decide +kernel
theorem dX10_glide_21 : decode cX10_glide 21 = .ok (.iconst (-1), 1) := by decide +kernel
theorem dX10_glide_22 : decode cX10_glide 22 = .ok (.ireturn, 1) := by decide +kernel
theorem dX10_glide_23 : decode cX10_glide 23 = .ok (.aload_n 0, 1) := by decide +kernel
theorem dX10_glide_24 : decode cX10_glide 24 = .ok (.getfield 10, 3) := by decide +kernel
theorem dX10_glide_27 : decode cX10_glide 27 = .ok (.iload_n 1, 1) := by decide +kernel
theorem dX10_glide_28 : decode cX10_glide 28 = .ok (.invokevirtual 136, 3) := by decide +kernel
theorem dX10_glide_31 : decode cX10_glide 31 = .ok (.iload_n 2, 1) := by decide +kernel
theorem dX10_glide_32 : decode cX10_glide 32 = .ok (.invokestatic 139, 3) := by decide +kernel
theorem dX10_glide_35 : decode cX10_glide 35 = .ok (.ifCond .ne 6, 3) := by decide +kernel
theorem dX10_glide_38 : decode cX10_glide 38 = .ok (.bipush (-5), 2) := by decide +kernel
theorem dX10_glide_40 : decode cX10_glide 40 = .ok (.ireturn, 1) := by decide +kernel
theorem dX10_glide_41 : decode cX10_glide 41 = .ok (.aload_n 0, 1) := by decide +kernel
theorem dX10_glide_42 : decode cX10_glide 42 = .ok (.getfield 26, 3) := by decide +kernel
theorem dX10_glide_45 : decode cX10_glide 45 = .ok (.aload_n 0, 1) := by decide +kernel
theorem dX10_glide_46 : decode cX10_glide 46 = .ok (.getfield 10, 3) := by decide +kernel
theorem dX10_glide_49 : decode cX10_glide 49 = .ok (.invokevirtual 50, 3) := by decide +kernel
theorem dX10_glide_52 : decode cX10_glide 52 = .ok (.aload_n 0, 1) := by decide +kernel
theorem dX10_glide_53 : decode cX10_glide 53 = .ok (.getfield 10, 3) := by decide +kernel
theorem dX10_glide_56 : decode cX10_glide 56 = .ok (.iload_n 1, 1) := by decide +kernel
theorem dX10_glide_57 : decode cX10_glide 57 = .ok (.iload_n 2, 1) := by decide +kernel
theorem dX10_glide_58 : decode cX10_glide 58 = .ok (.invokevirtual 142, 3) := by decide +kernel
theorem dX10_glide_61 : decode cX10_glide 61 = .ok (.ireturn, 1) := by decide +kernel
theorem dX10_go_0 : decode cX10_go 0 = .ok (.iload_n 1, 1) := by decide +kernel
theorem dX10_go_1 : decode cX10_go 1 = .ok (.invokestatic 130, 3) := by decide +kernel
theorem dX10_go_4 : decode cX10_go 4 = .ok (.ifCond .eq 10, 3) := by decide +kernel
theorem dX10_go_7 : decode cX10_go 7 = .ok (.iload_n 2, 1) := by decide +kernel
theorem dX10_go_8 : decode cX10_go 8 = .ok (.invokestatic 68, 3) := by decide +kernel
theorem dX10_go_11 : decode cX10_go 11 = .ok (.ifCond .ne 5, 3) := by decide +kernel
theorem dX10_go_14 : decode cX10_go 14 = .ok (.iconst (-1), 1) := by decide +kernel
theorem dX10_go_15 : decode cX10_go 15 = .ok (.ireturn, 1) := by decide +kernel
theorem dX10_go_16 : decode cX10_go 16 = .ok (.aload_n 0, 1) := by decide +kernel
theorem dX10_go_17 : decode cX10_go 17 = .ok (.iload_n 1, 1) := by decide +kernel
theorem dX10_go_18 : decode cX10_go 18 = .ok (.iload_n 2, 1) := by decide +kernel
theorem dX10_go_19 : decode cX10_go 19 = .ok (.invokevirtual 146, 3) := by decide +kernel
theorem dX10_go_22 : decode cX10_go 22 = .ok (.aload_n 0, 1) := by decide +kernel
theorem dX10_go_23 : decode cX10_go 23 = .ok (.getfield 42, 3) := by decide +kernel
theorem dX10_go_26 : decode cX10_go 26 = .ok (.getfield 149, 3) := by decide +kernel
theorem dX10_go_29 : decode cX10_go 29 = .ok (.ifCond .ne 6, 3) := by decide +kernel
theorem dX10_go_32 : decode cX10_go 32 = .ok (.bipush (-5), 2) := by decide +kernel
theorem dX10_go_34 : decode cX10_go 34 = .ok (.ireturn, 1) := by decide +kernel
theorem dX10_go_35 : decode cX10_go 35 = .ok (.aload_n 0, 1) := by decide +kernel
theorem dX10_go_36 : decode cX10_go 36 = .ok (.getfield 26, 3) := by decide +kernel
theorem dX10_go_39 : decode cX10_go 39 = .ok (.aload_n 0, 1) := by decide +kernel
theorem dX10_go_40 : decode cX10_go 40 = .ok (.getfield 10, 3) := by decide +kernel
theorem dX10_go_43 : decode cX10_go 43 = .ok (.invokevirtual 50, 3) := by decide +kernel
theorem dX10_go_46 : decode cX10_go 46 = .ok (.iconst 0, 1) := by decide +kernel
theorem dX10_go_47 : decode cX10_go 47 = .ok (.istore_n 3, 1) := by decide +kernel
theorem dX10_go_48 : decode cX10_go 48 = .ok (.iload_n 3, 1) := by decide +kernel
theorem dX10_go_49 : decode cX10_go 49 = .ok (.aload_n 0, 1) := by decide +kernel
theorem dX10_go_50 : decode cX10_go 50 = .ok (.getfield 42, 3) := by decide +kernel
theorem dX10_go_53 : decode cX10_go 53 = .ok (.getfield 153, 3) := by decide +kernel
theorem dX10_go_56 : decode cX10_go 56 = .ok (.if_icmp .ge 52, 3) := by decide +kernel
theorem dX10_go_59 : decode cX10_go 59 = .ok (.aload_n 0, 1) := by decide +kernel
theorem dX10_go_60 : decode cX10_go 60 = .ok (.getfield 42, 3) := by decide +kernel
theorem dX10_go_63 : decode cX10_go 63 = .ok (.getfield 154, 3) := by decide +kernel
theorem dX10_go_66 : decode cX10_go 66 = .ok (.iload_n 3, 1) := by decide +kernel
theorem dX10_go_67 : decode cX10_go 67 = .ok (.invokevirtual 58, 3) := by decide +kernel
theorem dX10_go_70 : decode cX10_go 70 = .ok (.istore 4, 2) := by decide +kernel
theorem dX10_go_72 : decode cX10_go 72 = .ok (.aload_n 0, 1) := by decide +kernel
theorem dX10_go_73 : decode cX10_go 73 = .ok (.getfield 10, 3) := by decide +kernel
theorem dX10_go_76 : decode cX10_go 76 = .ok (.iload_n 1, 1) := by decide +kernel
theorem dX10_go_77 : decode cX10_go 77 = .ok (.invokevirtual 136, 3) := by decide +kernel
theorem dX10_go_80 : decode cX10_go 80 = .ok (.iload 4, 2) := by decide +kernel
theorem dX10_go_82 : decode cX10_go 82 = .ok (.invokestatic 139, 3) := by decide +kernel
theorem dX10_go_85 : decode cX10_go 85 = .ok (.ifCond .ne 6, 3) := by decide +kernel
theorem dX10_go_88 : decode cX10_go 88 = .ok (.goto 20, 3) := by decide +kernel
theorem dX10_go_91 : decode cX10_go 91 = .ok (.aload_n 0, 1) := by decide +kernel
theorem dX10_go_92 : decode cX10_go 92 = .ok (.getfield 10, 3) := by decide +kernel
theorem dX10_go_95 : decode cX10_go 95 = .ok (.iload_n 1, 1) := by decide +kernel
theorem dX10_go_96 : decode cX10_go 96 = .ok (.iload 4, 2) := by decide +kernel
theorem dX10_go_98 : decode cX10_go 98 = .ok (.invokevirtual 142, 3) := by decide +kernel
theorem dX10_go_101 : decode cX10_go 101 = .ok (.pop, 1) := by decide +kernel
theorem dX10_go_102 : decode cX10_go 102 = .ok (.iinc 3 1, 3) := by decide +kernel
theorem dX10_go_105 : decode cX10_go 105 = .ok (.goto (-57), 3) := by decide +kernel
theorem dX10_go_108 : decode cX10_go 108 = .ok (.aload_n 0, 1) := by decide +kernel
theorem dX10_go_109 : decode cX10_go 109 = .ok (.getfield 10, 3) := by decide +kernel
theorem dX10_go_112 : decode cX10_go 112 = .ok (.getfield 110, 3) := by decide +kernel
theorem dX10_go_115 : decode cX10_go 115 = .ok (.getfield 133, 3) := by decide +kernel
theorem dX10_go_118 : decode cX10_go 118 = .ok (.iload_n 1, 1) := by decide +kernel
theorem dX10_go_119 : decode cX10_go 119 = .ok (.invokevirtual 58, 3) := by decide +kernel
theorem dX10_go_122 : decode cX10_go 122 = .ok (.ireturn, 1) := by decide +kernel
theorem dX10_pass_0 : decode cX10_pass 0 = .ok (.iload_n 1, 1) := by decide +kernel
theorem dX10_pass_1 : decode cX10_pass 1 = .ok (.iconst 1, 1) := by decide +kernel
theorem dX10_pass_2 : decode cX10_pass 2 = .ok (.sipush 200, 3) := by decide +kernel
theorem dX10_pass_5 : decode cX10_pass 5 = .ok (.invokestatic 72, 3) := by decide +kernel
theorem dX10_pass_8 : decode cX10_pass 8 = .ok (.ifCond .ne 6, 3) := by decide +kernel
theorem dX10_pass_11 : decode cX10_pass 11 = .ok (.bipush (-2), 2) := by decide +kernel
theorem dX10_pass_13 : decode cX10_pass 13 = .ok (.ireturn, 1) := by decide +kernel
theorem dX10_pass_14 : decode cX10_pass 14 = .ok (.aload_n 0, 1) := by decide +kernel
theorem dX10_pass_15 : decode cX10_pass 15 = .ok (.getfield 10, 3) := by decide +kernel
theorem dX10_pass_18 : decode cX10_pass 18 = .ok (.getfield 157, 3) := by decide +kernel
theorem dX10_pass_21 : decode cX10_pass 21 = .ok (.iload_n 1, 1) := by decide +kernel
theorem dX10_pass_22 : decode cX10_pass 22 = .ok (.iadd, 1) := by decide +kernel
theorem dX10_pass_23 : decode cX10_pass 23 = .ok (.ldc 160, 2) := by decide +kernel
theorem dX10_pass_25 : decode cX10_pass 25 = .ok (.if_icmp .le 6, 3) := by decide +kernel
theorem dX10_pass_28 : decode cX10_pass 28 = .ok (.bipush (-4), 2) := by decide +kernel
theorem dX10_pass_30 : decode cX10_pass 30 = .ok (.ireturn, 1) := by decide +kernel
theorem dX10_pass_31 : decode cX10_pass 31 = .ok (.aload_n 0, 1) := by decide +kernel
theorem dX10_pass_32 : decode cX10_pass 32 = .ok (.getfield 26, 3) := by decide +kernel
theorem dX10_pass_35 : decode cX10_pass 35 = .ok (.aload_n 0, 1) := by decide +kernel
theorem dX10_pass_36 : decode cX10_pass 36 = .ok (.getfield 10, 3) := by decide +kernel
theorem dX10_pass_39 : decode cX10_pass 39 = .ok (.invokevirtual 50, 3) := by decide +kernel
theorem dX10_pass_42 : decode cX10_pass 42 = .ok (.aload_n 0, 1) := by decide +kernel
theorem dX10_pass_43 : decode cX10_pass 43 = .ok (.getfield 10, 3) := by decide +kernel
theorem dX10_pass_46 : decode cX10_pass 46 = .ok (.iload_n 1, 1) := by decide +kernel
theorem dX10_pass_47 : decode cX10_pass 47 = .ok (.invokevirtual 161, 3) := by decide +kernel
theorem dX10_pass_50 : decode cX10_pass 50 = .ok (.ireturn, 1) := by decide +kernel
theorem dX10_board_0 : decode cX10_board 0 = .ok (.aload_n 0, 1) := by decide +kernel
theorem dX10_board_1 : decode cX10_board 1 = .ok (.getfield 10, 3) := by decide +kernel
theorem dX10_board_4 : decode cX10_board 4 = .ok (.getfield 76, 3) := by decide +kernel
theorem dX10_board_7 : decode cX10_board 7 = .ok (.iload_n 1, 1) := by decide +kernel
theorem dX10_board_8 : decode cX10_board 8 = .ok (.invokevirtual 104, 3) := by decide +kernel
theorem dX10_board_11 : decode cX10_board 11 = .ok (.ifCond .ne 5, 3) := by decide +kernel
theorem dX10_board_14 : decode cX10_board 14 = .ok (.iconst (-1), 1) := by decide +kernel
theorem dX10_board_15 : decode cX10_board 15 = .ok (.ireturn, 1) := by decide +kernel
theorem dX10_board_16 : decode cX10_board 16 = .ok (.iload_n 2, 1) := by decide +kernel
theorem dX10_board_17 : decode cX10_board 17 = .ok (.tableswitch 139 0 6 #[43, 58, 73, 88, 103, 115, 124], 43) := by decide +kernel
theorem dX10_board_60 : decode cX10_board 60 = .ok (.aload_n 0, 1) := by decide +kernel
theorem dX10_board_61 : decode cX10_board 61 = .ok (.getfield 10, 3) := by decide +kernel
theorem dX10_board_64 : decode cX10_board 64 = .ok (.getfield 76, 3) := by decide +kernel
theorem dX10_board_67 : decode cX10_board 67 = .ok (.getfield 164, 3) := by decide +kernel
theorem dX10_board_70 : decode cX10_board 70 = .ok (.iload_n 1, 1) := by decide +kernel
theorem dX10_board_71 : decode cX10_board 71 = .ok (.invokevirtual 58, 3) := by decide +kernel
theorem dX10_board_74 : decode cX10_board 74 = .ok (.ireturn, 1) := by decide +kernel
theorem dX10_board_75 : decode cX10_board 75 = .ok (.aload_n 0, 1) := by decide +kernel
theorem dX10_board_76 : decode cX10_board 76 = .ok (.getfield 10, 3) := by decide +kernel
theorem dX10_board_79 : decode cX10_board 79 = .ok (.getfield 76, 3) := by decide +kernel
theorem dX10_board_82 : decode cX10_board 82 = .ok (.getfield 167, 3) := by decide +kernel
theorem dX10_board_85 : decode cX10_board 85 = .ok (.iload_n 1, 1) := by decide +kernel
theorem dX10_board_86 : decode cX10_board 86 = .ok (.invokevirtual 58, 3) := by decide +kernel
theorem dX10_board_89 : decode cX10_board 89 = .ok (.ireturn, 1) := by decide +kernel
theorem dX10_board_90 : decode cX10_board 90 = .ok (.aload_n 0, 1) := by decide +kernel
theorem dX10_board_91 : decode cX10_board 91 = .ok (.getfield 10, 3) := by decide +kernel
theorem dX10_board_94 : decode cX10_board 94 = .ok (.getfield 76, 3) := by decide +kernel
theorem dX10_board_97 : decode cX10_board 97 = .ok (.getfield 170, 3) := by decide +kernel
theorem dX10_board_100 : decode cX10_board 100 = .ok (.iload_n 1, 1) := by decide +kernel
theorem dX10_board_101 : decode cX10_board 101 = .ok (.invokevirtual 58, 3) := by decide +kernel
theorem dX10_board_104 : decode cX10_board 104 = .ok (.ireturn, 1) := by decide +kernel
theorem dX10_board_105 : decode cX10_board 105 = .ok (.aload_n 0, 1) := by decide +kernel
theorem dX10_board_106 : decode cX10_board 106 = .ok (.getfield 10, 3) := by decide +kernel
theorem dX10_board_109 : decode cX10_board 109 = .ok (.getfield 76, 3) := by decide +kernel
theorem dX10_board_112 : decode cX10_board 112 = .ok (.getfield 173, 3) := by decide +kernel
theorem dX10_board_115 : decode cX10_board 115 = .ok (.iload_n 1, 1) := by decide +kernel
theorem dX10_board_116 : decode cX10_board 116 = .ok (.invokevirtual 58, 3) := by decide +kernel
theorem dX10_board_119 : decode cX10_board 119 = .ok (.ireturn, 1) := by decide +kernel
theorem dX10_board_120 : decode cX10_board 120 = .ok (.aload_n 0, 1) := by decide +kernel
theorem dX10_board_121 : decode cX10_board 121 = .ok (.getfield 10, 3) := by decide +kernel
theorem dX10_board_124 : decode cX10_board 124 = .ok (.getfield 110, 3) := by decide +kernel
theorem dX10_board_127 : decode cX10_board 127 = .ok (.iload_n 1, 1) := by decide +kernel
theorem dX10_board_128 : decode cX10_board 128 = .ok (.invokevirtual 175, 3) := by decide +kernel
theorem dX10_board_131 : decode cX10_board 131 = .ok (.ireturn, 1) := by decide +kernel
theorem dX10_board_132 : decode cX10_board 132 = .ok (.aload_n 0, 1) := by decide +kernel
theorem dX10_board_133 : decode cX10_board 133 = .ok (.getfield 10, 3) := by decide +kernel
theorem dX10_board_136 : decode cX10_board 136 = .ok (.iload_n 1, 1) := by decide +kernel
theorem dX10_board_137 : decode cX10_board 137 = .ok (.invokevirtual 178, 3) := by decide +kernel
theorem dX10_board_140 : decode cX10_board 140 = .ok (.ireturn, 1) := by decide +kernel
theorem dX10_board_141 : decode cX10_board 141 = .ok (.aload_n 0, 1) := by decide +kernel
theorem dX10_board_142 : decode cX10_board 142 = .ok (.getfield 10, 3) := by decide +kernel
theorem dX10_board_145 : decode cX10_board 145 = .ok (.getfield 76, 3) := by decide +kernel
theorem dX10_board_148 : decode cX10_board 148 = .ok (.getfield 181, 3) := by decide +kernel
theorem dX10_board_151 : decode cX10_board 151 = .ok (.iload_n 1, 1) := by decide +kernel
theorem dX10_board_152 : decode cX10_board 152 = .ok (.invokevirtual 58, 3) := by decide +kernel
theorem dX10_board_155 : decode cX10_board 155 = .ok (.ireturn, 1) := by decide +kernel
theorem dX10_board_156 : decode cX10_board 156 = .ok (.bipush (-2), 2) := by decide +kernel
theorem dX10_board_158 : decode cX10_board 158 = .ok (.ireturn, 1) := by decide +kernel
theorem dX10_ghost_0 : decode cX10_ghost 0 = .ok (.iload_n 1, 1) := by decide +kernel
theorem dX10_ghost_1 : decode cX10_ghost 1 = .ok (.invokestatic 130, 3) := by decide +kernel
theorem dX10_ghost_4 : decode cX10_ghost 4 = .ok (.ifCond .ne 5, 3) := by decide +kernel
theorem dX10_ghost_7 : decode cX10_ghost 7 = .ok (.iconst (-1), 1) := by decide +kernel
theorem dX10_ghost_8 : decode cX10_ghost 8 = .ok (.ireturn, 1) := by decide +kernel
theorem dX10_ghost_9 : decode cX10_ghost 9 = .ok (.iload_n 2, 1) := by decide +kernel
theorem dX10_ghost_10 : decode cX10_ghost 10 = .ok (.tableswitch 121 0 4 #[34, 49, 64, 73, 106], 34) := by decide +kernel
theorem dX10_ghost_44 : decode cX10_ghost 44 = .ok (.aload_n 0, 1) := by decide +kernel
theorem dX10_ghost_45 : decode cX10_ghost 45 = .ok (.getfield 10, 3) := by decide +kernel
theorem dX10_ghost_48 : decode cX10_ghost 48 = .ok (.getfield 110, 3) := by decide +kernel
theorem dX10_ghost_51 : decode cX10_ghost 51 = .ok (.getfield 133, 3) := by decide +kernel
theorem dX10_ghost_54 : decode cX10_ghost 54 = .ok (.iload_n 1, 1) := by decide +kernel
theorem dX10_ghost_55 : decode cX10_ghost 55 = .ok (.invokevirtual 58, 3) := by decide +kernel
theorem dX10_ghost_58 : decode cX10_ghost 58 = .ok (.ireturn, 1) := by decide +kernel
theorem dX10_ghost_59 : decode cX10_ghost 59 = .ok (.aload_n 0, 1) := by decide +kernel
theorem dX10_ghost_60 : decode cX10_ghost 60 = .ok (.getfield 10, 3) := by decide +kernel
theorem dX10_ghost_63 : decode cX10_ghost 63 = .ok (.getfield 110, 3) := by decide +kernel
theorem dX10_ghost_66 : decode cX10_ghost 66 = .ok (.getfield 184, 3) := by decide +kernel
theorem dX10_ghost_69 : decode cX10_ghost 69 = .ok (.iload_n 1, 1) := by decide +kernel
theorem dX10_ghost_70 : decode cX10_ghost 70 = .ok (.invokevirtual 58, 3) := by decide +kernel
theorem dX10_ghost_73 : decode cX10_ghost 73 = .ok (.ireturn, 1) := by decide +kernel
theorem dX10_ghost_74 : decode cX10_ghost 74 = .ok (.aload_n 0, 1) := by decide +kernel
theorem dX10_ghost_75 : decode cX10_ghost 75 = .ok (.getfield 10, 3) := by decide +kernel
theorem dX10_ghost_78 : decode cX10_ghost 78 = .ok (.iload_n 1, 1) := by decide +kernel
theorem dX10_ghost_79 : decode cX10_ghost 79 = .ok (.invokevirtual 136, 3) := by decide +kernel
theorem dX10_ghost_82 : decode cX10_ghost 82 = .ok (.ireturn, 1) := by decide +kernel
theorem dX10_ghost_83 : decode cX10_ghost 83 = .ok (.aload_n 0, 1) := by decide +kernel
theorem dX10_ghost_84 : decode cX10_ghost 84 = .ok (.getfield 10, 3) := by decide +kernel
theorem dX10_ghost_87 : decode cX10_ghost 87 = .ok (.getfield 76, 3) := by decide +kernel
theorem dX10_ghost_90 : decode cX10_ghost 90 = .ok (.aload_n 0, 1) := by decide +kernel
theorem dX10_ghost_91 : decode cX10_ghost 91 = .ok (.getfield 10, 3) := by decide +kernel
theorem dX10_ghost_94 : decode cX10_ghost 94 = .ok (.getfield 110, 3) := by decide +kernel
theorem dX10_ghost_97 : decode cX10_ghost 97 = .ok (.getfield 133, 3) := by decide +kernel
theorem dX10_ghost_100 : decode cX10_ghost 100 = .ok (.iload_n 1, 1) := by decide +kernel
theorem dX10_ghost_101 : decode cX10_ghost 101 = .ok (.invokevirtual 58, 3) := by decide +kernel
theorem dX10_ghost_104 : decode cX10_ghost 104 = .ok (.aload_n 0, 1) := by decide +kernel
theorem dX10_ghost_105 : decode cX10_ghost 105 = .ok (.getfield 10, 3) := by decide +kernel
theorem dX10_ghost_108 : decode cX10_ghost 108 = .ok (.iload_n 1, 1) := by decide +kernel
theorem dX10_ghost_109 : decode cX10_ghost 109 = .ok (.invokevirtual 187, 3) := by decide +kernel
theorem dX10_ghost_112 : decode cX10_ghost 112 = .ok (.invokevirtual 190, 3) := by decide +kernel
theorem dX10_ghost_115 : decode cX10_ghost 115 = .ok (.ireturn, 1) := by decide +kernel
theorem dX10_ghost_116 : decode cX10_ghost 116 = .ok (.aload_n 0, 1) := by decide +kernel
theorem dX10_ghost_117 : decode cX10_ghost 117 = .ok (.getfield 10, 3) := by decide +kernel
theorem dX10_ghost_120 : decode cX10_ghost 120 = .ok (.getfield 110, 3) := by decide +kernel
theorem dX10_ghost_123 : decode cX10_ghost 123 = .ok (.getfield 193, 3) := by decide +kernel
theorem dX10_ghost_126 : decode cX10_ghost 126 = .ok (.iload_n 1, 1) := by decide +kernel
theorem dX10_ghost_127 : decode cX10_ghost 127 = .ok (.invokevirtual 58, 3) := by decide +kernel
theorem dX10_ghost_130 : decode cX10_ghost 130 = .ok (.ireturn, 1) := by decide +kernel
theorem dX10_ghost_131 : decode cX10_ghost 131 = .ok (.bipush (-2), 2) := by decide +kernel
theorem dX10_ghost_133 : decode cX10_ghost 133 = .ok (.ireturn, 1) := by decide +kernel
theorem dX10_sleeperOf_0 : decode cX10_sleeperOf 0 = .ok (.aload_n 0, 1) := by decide +kernel
theorem dX10_sleeperOf_1 : decode cX10_sleeperOf 1 = .ok (.getfield 10, 3) := by decide +kernel
theorem dX10_sleeperOf_4 : decode cX10_sleeperOf 4 = .ok (.getfield 119, 3) := by decide +kernel
theorem dX10_sleeperOf_7 : decode cX10_sleeperOf 7 = .ok (.iload_n 1, 1) := by decide +kernel
theorem dX10_sleeperOf_8 : decode cX10_sleeperOf 8 = .ok (.invokevirtual 196, 3) := by decide +kernel
theorem dX10_sleeperOf_11 : decode cX10_sleeperOf 11 = .ok (.ifCond .ne 5, 3) := by decide +kernel
theorem dX10_sleeperOf_14 : decode cX10_sleeperOf 14 = .ok (.iconst (-1), 1) := by decide +kernel
theorem dX10_sleeperOf_15 : decode cX10_sleeperOf 15 = .ok (.ireturn, 1) := by decide +kernel
theorem dX10_sleeperOf_16 : decode cX10_sleeperOf 16 = .ok (.iload_n 2, 1) := by decide +kernel
theorem dX10_sleeperOf_17 : decode cX10_sleeperOf 17 = .ok (.tableswitch 104 0 4 #[35, 50, 65, 80, 95], 35) := by decide +kernel
theorem dX10_sleeperOf_52 : decode cX10_sleeperOf 52 = .ok (.aload_n 0, 1) := by decide +kernel
theorem dX10_sleeperOf_53 : decode cX10_sleeperOf 53 = .ok (.getfield 10, 3) := by decide +kernel
theorem dX10_sleeperOf_56 : decode cX10_sleeperOf 56 = .ok (.getfield 119, 3) := by decide +kernel
theorem dX10_sleeperOf_59 : decode cX10_sleeperOf 59 = .ok (.getfield 197, 3) := by decide +kernel
theorem dX10_sleeperOf_62 : decode cX10_sleeperOf 62 = .ok (.iload_n 1, 1) := by decide +kernel
theorem dX10_sleeperOf_63 : decode cX10_sleeperOf 63 = .ok (.invokevirtual 58, 3) := by decide +kernel
theorem dX10_sleeperOf_66 : decode cX10_sleeperOf 66 = .ok (.ireturn, 1) := by decide +kernel
theorem dX10_sleeperOf_67 : decode cX10_sleeperOf 67 = .ok (.aload_n 0, 1) := by decide +kernel
theorem dX10_sleeperOf_68 : decode cX10_sleeperOf 68 = .ok (.getfield 10, 3) := by decide +kernel
theorem dX10_sleeperOf_71 : decode cX10_sleeperOf 71 = .ok (.getfield 119, 3) := by decide +kernel
theorem dX10_sleeperOf_74 : decode cX10_sleeperOf 74 = .ok (.getfield 198, 3) := by decide +kernel
theorem dX10_sleeperOf_77 : decode cX10_sleeperOf 77 = .ok (.iload_n 1, 1) := by decide +kernel
theorem dX10_sleeperOf_78 : decode cX10_sleeperOf 78 = .ok (.invokevirtual 58, 3) := by decide +kernel
theorem dX10_sleeperOf_81 : decode cX10_sleeperOf 81 = .ok (.ireturn, 1) := by decide +kernel
theorem dX10_sleeperOf_82 : decode cX10_sleeperOf 82 = .ok (.aload_n 0, 1) := by decide +kernel
theorem dX10_sleeperOf_83 : decode cX10_sleeperOf 83 = .ok (.getfield 10, 3) := by decide +kernel
theorem dX10_sleeperOf_86 : decode cX10_sleeperOf 86 = .ok (.getfield 119, 3) := by decide +kernel
theorem dX10_sleeperOf_89 : decode cX10_sleeperOf 89 = .ok (.getfield 201, 3) := by decide +kernel
theorem dX10_sleeperOf_92 : decode cX10_sleeperOf 92 = .ok (.iload_n 1, 1) := by decide +kernel
theorem dX10_sleeperOf_93 : decode cX10_sleeperOf 93 = .ok (.invokevirtual 58, 3) := by decide +kernel
theorem dX10_sleeperOf_96 : decode cX10_sleeperOf 96 = .ok (.ireturn, 1) := by decide +kernel
theorem dX10_sleeperOf_97 : decode cX10_sleeperOf 97 = .ok (.aload_n 0, 1) := by decide +kernel
theorem dX10_sleeperOf_98 : decode cX10_sleeperOf 98 = .ok (.getfield 10, 3) := by decide +kernel
theorem dX10_sleeperOf_101 : decode cX10_sleeperOf 101 = .ok (.getfield 119, 3) := by decide +kernel
theorem dX10_sleeperOf_104 : decode cX10_sleeperOf 104 = .ok (.getfield 204, 3) := by decide +kernel
theorem dX10_sleeperOf_107 : decode cX10_sleeperOf 107 = .ok (.iload_n 1, 1) := by decide +kernel
theorem dX10_sleeperOf_108 : decode cX10_sleeperOf 108 = .ok (.invokevirtual 58, 3) := by decide +kernel
theorem dX10_sleeperOf_111 : decode cX10_sleeperOf 111 = .ok (.ireturn, 1) := by decide +kernel
theorem dX10_sleeperOf_112 : decode cX10_sleeperOf 112 = .ok (.aload_n 0, 1) := by decide +kernel
theorem dX10_sleeperOf_113 : decode cX10_sleeperOf 113 = .ok (.getfield 10, 3) := by decide +kernel
theorem dX10_sleeperOf_116 : decode cX10_sleeperOf 116 = .ok (.iload_n 1, 1) := by decide +kernel
theorem dX10_sleeperOf_117 : decode cX10_sleeperOf 117 = .ok (.invokevirtual 207, 3) := by decide +kernel
theorem dX10_sleeperOf_120 : decode cX10_sleeperOf 120 = .ok (.ireturn, 1) := by decide +kernel
theorem dX10_sleeperOf_121 : decode cX10_sleeperOf 121 = .ok (.bipush (-2), 2) := by decide +kernel
theorem dX10_sleeperOf_123 : decode cX10_sleeperOf 123 = .ok (.ireturn, 1) := by decide +kernel
theorem dX10_loudness_0 : decode cX10_loudness 0 = .ok (.aload_n 0, 1) := by decide +kernel
theorem dX10_loudness_1 : decode cX10_loudness 1 = .ok (.getfield 10, 3) := by decide +kernel
theorem dX10_loudness_4 : decode cX10_loudness 4 = .ok (.getfield 76, 3) := by decide +kernel
theorem dX10_loudness_7 : decode cX10_loudness 7 = .ok (.iload_n 1, 1) := by decide +kernel
theorem dX10_loudness_8 : decode cX10_loudness 8 = .ok (.invokevirtual 104, 3) := by decide +kernel
theorem dX10_loudness_11 : decode cX10_loudness 11 = .ok (.ifCond .eq 17, 3) := by decide +kernel
theorem dX10_loudness_14 : decode cX10_loudness 14 = .ok (.aload_n 0, 1) := by decide +kernel
theorem dX10_loudness_15 : decode cX10_loudness 15 = .ok (.getfield 10, 3) := by decide +kernel
theorem dX10_loudness_18 : decode cX10_loudness 18 = .ok (.getfield 119, 3) := by decide +kernel
theorem dX10_loudness_21 : decode cX10_loudness 21 = .ok (.iload_n 2, 1) := by decide +kernel
theorem dX10_loudness_22 : decode cX10_loudness 22 = .ok (.invokevirtual 196, 3) := by decide +kernel
theorem dX10_loudness_25 : decode cX10_loudness 25 = .ok (.ifCond .ne 5, 3) := by decide +kernel
theorem dX10_loudness_28 : decode cX10_loudness 28 = .ok (.iconst (-1), 1) := by decide +kernel
theorem dX10_loudness_29 : decode cX10_loudness 29 = .ok (.ireturn, 1) := by decide +kernel
theorem dX10_loudness_30 : decode cX10_loudness 30 = .ok (.aload_n 0, 1) := by decide +kernel
theorem dX10_loudness_31 : decode cX10_loudness 31 = .ok (.getfield 10, 3) := by decide +kernel
theorem dX10_loudness_34 : decode cX10_loudness 34 = .ok (.getfield 76, 3) := by decide +kernel
theorem dX10_loudness_37 : decode cX10_loudness 37 = .ok (.aload_n 0, 1) := by decide +kernel
theorem dX10_loudness_38 : decode cX10_loudness 38 = .ok (.getfield 10, 3) := by decide +kernel
theorem dX10_loudness_41 : decode cX10_loudness 41 = .ok (.getfield 119, 3) := by decide +kernel
theorem dX10_loudness_44 : decode cX10_loudness 44 = .ok (.getfield 197, 3) := by decide +kernel
theorem dX10_loudness_47 : decode cX10_loudness 47 = .ok (.iload_n 2, 1) := by decide +kernel
theorem dX10_loudness_48 : decode cX10_loudness 48 = .ok (.invokevirtual 58, 3) := by decide +kernel
theorem dX10_loudness_51 : decode cX10_loudness 51 = .ok (.iload_n 1, 1) := by decide +kernel
theorem dX10_loudness_52 : decode cX10_loudness 52 = .ok (.invokevirtual 210, 3) := by decide +kernel
theorem dX10_loudness_55 : decode cX10_loudness 55 = .ok (.ireturn, 1) := by decide +kernel
theorem dX10_far_0 : decode cX10_far 0 = .ok (.iload_n 1, 1) := by decide +kernel
theorem dX10_far_1 : decode cX10_far 1 = .ok (.invokestatic 68, 3) := by decide +kernel
theorem dX10_far_4 : decode cX10_far 4 = .ok (.ifCond .eq 10, 3) := by decide +kernel
theorem dX10_far_7 : decode cX10_far 7 = .ok (.iload_n 2, 1) := by decide +kernel
theorem dX10_far_8 : decode cX10_far 8 = .ok (.invokestatic 68, 3) := by decide +kernel
theorem dX10_far_11 : decode cX10_far 11 = .ok (.ifCond .ne 5, 3) := by decide +kernel
theorem dX10_far_14 : decode cX10_far 14 = .ok (.iconst (-1), 1) := by decide +kernel
theorem dX10_far_15 : decode cX10_far 15 = .ok (.ireturn, 1) := by decide +kernel
theorem dX10_far_16 : decode cX10_far 16 = .ok (.aload_n 0, 1) := by decide +kernel
theorem dX10_far_17 : decode cX10_far 17 = .ok (.getfield 10, 3) := by decide +kernel
theorem dX10_far_20 : decode cX10_far 20 = .ok (.getfield 76, 3) := by decide +kernel
theorem dX10_far_23 : decode cX10_far 23 = .ok (.iload_n 1, 1) := by decide +kernel
theorem dX10_far_24 : decode cX10_far 24 = .ok (.iconst 1, 1) := by decide +kernel
theorem dX10_far_25 : decode cX10_far 25 = .ok (.iload_n 2, 1) := by decide +kernel
theorem dX10_far_26 : decode cX10_far 26 = .ok (.ishl, 1) := by decide +kernel
theorem dX10_far_27 : decode cX10_far 27 = .ok (.invokevirtual 213, 3) := by decide +kernel
theorem dX10_far_30 : decode cX10_far 30 = .ok (.ireturn, 1) := by decide +kernel
theorem dX10_count_0 : decode cX10_count 0 = .ok (.iload_n 1, 1) := by decide +kernel
theorem dX10_count_1 : decode cX10_count 1 = .ok (.tableswitch 167 0 10 #[59, 71, 83, 91, 102, 113, 124, 135, 143, 151, 159], 59) := by decide +kernel
theorem dX10_count_60 : decode cX10_count 60 = .ok (.aload_n 0, 1) := by decide +kernel
theorem dX10_count_61 : decode cX10_count 61 = .ok (.getfield 10, 3) := by decide +kernel
theorem dX10_count_64 : decode cX10_count 64 = .ok (.getfield 54, 3) := by decide +kernel
theorem dX10_count_67 : decode cX10_count 67 = .ok (.iconst 0, 1) := by decide +kernel
theorem dX10_count_68 : decode cX10_count 68 = .ok (.invokevirtual 58, 3) := by decide +kernel
theorem dX10_count_71 : decode cX10_count 71 = .ok (.ireturn, 1) := by decide +kernel
theorem dX10_count_72 : decode cX10_count 72 = .ok (.aload_n 0, 1) := by decide +kernel
theorem dX10_count_73 : decode cX10_count 73 = .ok (.getfield 10, 3) := by decide +kernel
theorem dX10_count_76 : decode cX10_count 76 = .ok (.getfield 54, 3) := by decide +kernel
theorem dX10_count_79 : decode cX10_count 79 = .ok (.iconst 1, 1) := by decide +kernel
theorem dX10_count_80 : decode cX10_count 80 = .ok (.invokevirtual 58, 3) := by decide +kernel
theorem dX10_count_83 : decode cX10_count 83 = .ok (.ireturn, 1) := by decide +kernel
theorem dX10_count_84 : decode cX10_count 84 = .ok (.aload_n 0, 1) := by decide +kernel
theorem dX10_count_85 : decode cX10_count 85 = .ok (.getfield 10, 3) := by decide +kernel
theorem dX10_count_88 : decode cX10_count 88 = .ok (.getfield 157, 3) := by decide +kernel
theorem dX10_count_91 : decode cX10_count 91 = .ok (.ireturn, 1) := by decide +kernel
theorem dX10_count_92 : decode cX10_count 92 = .ok (.aload_n 0, 1) := by decide +kernel
theorem dX10_count_93 : decode cX10_count 93 = .ok (.getfield 10, 3) := by decide +kernel
theorem dX10_count_96 : decode cX10_count 96 = .ok (.getfield 76, 3) := by decide +kernel
theorem dX10_count_99 : decode cX10_count 99 = .ok (.getfield 80, 3) := by decide +kernel
theorem dX10_count_102 : decode cX10_count 102 = .ok (.ireturn, 1) := by decide +kernel
theorem dX10_count_103 : decode cX10_count 103 = .ok (.aload_n 0, 1) := by decide +kernel
theorem dX10_count_104 : decode cX10_count 104 = .ok (.getfield 10, 3) := by decide +kernel
theorem dX10_count_107 : decode cX10_count 107 = .ok (.getfield 119, 3) := by decide +kernel
theorem dX10_count_110 : decode cX10_count 110 = .ok (.getfield 123, 3) := by decide +kernel
theorem dX10_count_113 : decode cX10_count 113 = .ok (.ireturn, 1) := by decide +kernel
theorem dX10_count_114 : decode cX10_count 114 = .ok (.aload_n 0, 1) := by decide +kernel
theorem dX10_count_115 : decode cX10_count 115 = .ok (.getfield 10, 3) := by decide +kernel
theorem dX10_count_118 : decode cX10_count 118 = .ok (.getfield 119, 3) := by decide +kernel
theorem dX10_count_121 : decode cX10_count 121 = .ok (.invokevirtual 216, 3) := by decide +kernel
theorem dX10_count_124 : decode cX10_count 124 = .ok (.ireturn, 1) := by decide +kernel
theorem dX10_count_125 : decode cX10_count 125 = .ok (.aload_n 0, 1) := by decide +kernel
theorem dX10_count_126 : decode cX10_count 126 = .ok (.getfield 10, 3) := by decide +kernel
theorem dX10_count_129 : decode cX10_count 129 = .ok (.getfield 119, 3) := by decide +kernel
theorem dX10_count_132 : decode cX10_count 132 = .ok (.invokevirtual 219, 3) := by decide +kernel
theorem dX10_count_135 : decode cX10_count 135 = .ok (.ireturn, 1) := by decide +kernel
theorem dX10_count_136 : decode cX10_count 136 = .ok (.aload_n 0, 1) := by decide +kernel
theorem dX10_count_137 : decode cX10_count 137 = .ok (.getfield 10, 3) := by decide +kernel
theorem dX10_count_140 : decode cX10_count 140 = .ok (.getfield 222, 3) := by decide +kernel
theorem dX10_count_143 : decode cX10_count 143 = .ok (.ireturn, 1) := by decide +kernel
theorem dX10_count_144 : decode cX10_count 144 = .ok (.aload_n 0, 1) := by decide +kernel
theorem dX10_count_145 : decode cX10_count 145 = .ok (.getfield 10, 3) := by decide +kernel
theorem dX10_count_148 : decode cX10_count 148 = .ok (.invokevirtual 225, 3) := by decide +kernel
theorem dX10_count_151 : decode cX10_count 151 = .ok (.ireturn, 1) := by decide +kernel
theorem dX10_count_152 : decode cX10_count 152 = .ok (.aload_n 0, 1) := by decide +kernel
theorem dX10_count_153 : decode cX10_count 153 = .ok (.getfield 19, 3) := by decide +kernel
theorem dX10_count_156 : decode cX10_count 156 = .ok (.getfield 101, 3) := by decide +kernel
theorem dX10_count_159 : decode cX10_count 159 = .ok (.ireturn, 1) := by decide +kernel
theorem dX10_count_160 : decode cX10_count 160 = .ok (.aload_n 0, 1) := by decide +kernel
theorem dX10_count_161 : decode cX10_count 161 = .ok (.getfield 26, 3) := by decide +kernel
theorem dX10_count_164 : decode cX10_count 164 = .ok (.getfield 228, 3) := by decide +kernel
theorem dX10_count_167 : decode cX10_count 167 = .ok (.ireturn, 1) := by decide +kernel
theorem dX10_count_168 : decode cX10_count 168 = .ok (.bipush (-2), 2) := by decide +kernel
theorem dX10_count_170 : decode cX10_count 170 = .ok (.ireturn, 1) := by decide +kernel
theorem dX10_soonest_0 : decode cX10_soonest 0 = .ok (.iload_n 1, 1) := by decide +kernel
theorem dX10_soonest_1 : decode cX10_soonest 1 = .ok (.invokestatic 130, 3) := by decide +kernel
theorem dX10_soonest_4 : decode cX10_soonest 4 = .ok (.ifCond .eq 10, 3) := by decide +kernel
theorem dX10_soonest_7 : decode cX10_soonest 7 = .ok (.iload_n 2, 1) := by decide +kernel
theorem dX10_soonest_8 : decode cX10_soonest 8 = .ok (.invokestatic 68, 3) := by decide +kernel
theorem dX10_soonest_11 : decode cX10_soonest 11 = .ok (.ifCond .ne 5, 3) := by decide +kernel
theorem dX10_soonest_14 : decode cX10_soonest 14 = .ok (.iconst (-1), 1) := by decide +kernel
theorem dX10_soonest_15 : decode cX10_soonest 15 = .ok (.ireturn, 1) := by decide +kernel
theorem dX10_soonest_16 : decode cX10_soonest 16 = .ok (.iload_n 3, 1) := by decide +kernel
theorem dX10_soonest_17 : decode cX10_soonest 17 = .ok (.ifCond .ge 6, 3) := by decide +kernel
theorem dX10_soonest_20 : decode cX10_soonest 20 = .ok (.bipush (-2), 2) := by decide +kernel
theorem dX10_soonest_22 : decode cX10_soonest 22 = .ok (.ireturn, 1) := by decide +kernel
theorem dX10_soonest_23 : decode cX10_soonest 23 = .ok (.aload_n 0, 1) := by decide +kernel
theorem dX10_soonest_24 : decode cX10_soonest 24 = .ok (.iload_n 1, 1) := by decide +kernel
theorem dX10_soonest_25 : decode cX10_soonest 25 = .ok (.iload_n 2, 1) := by decide +kernel
theorem dX10_soonest_26 : decode cX10_soonest 26 = .ok (.invokevirtual 146, 3) := by decide +kernel
theorem dX10_soonest_29 : decode cX10_soonest 29 = .ok (.aload_n 0, 1) := by decide +kernel
theorem dX10_soonest_30 : decode cX10_soonest 30 = .ok (.getfield 42, 3) := by decide +kernel
theorem dX10_soonest_33 : decode cX10_soonest 33 = .ok (.getfield 149, 3) := by decide +kernel
theorem dX10_soonest_36 : decode cX10_soonest 36 = .ok (.ifCond .ne 6, 3) := by decide +kernel
theorem dX10_soonest_39 : decode cX10_soonest 39 = .ok (.bipush (-6), 2) := by decide +kernel
theorem dX10_soonest_41 : decode cX10_soonest 41 = .ok (.ireturn, 1) := by decide +kernel
theorem dX10_soonest_42 : decode cX10_soonest 42 = .ok (.iload_n 3, 1) := by decide +kernel
theorem dX10_soonest_43 : decode cX10_soonest 43 = .ok (.ifCond .ne 11, 3) := by decide +kernel
theorem dX10_soonest_46 : decode cX10_soonest 46 = .ok (.aload_n 0, 1) := by decide +kernel
theorem dX10_soonest_47 : decode cX10_soonest 47 = .ok (.getfield 42, 3) := by decide +kernel
theorem dX10_soonest_50 : decode cX10_soonest 50 = .ok (.getfield 231, 3) := by decide +kernel
theorem dX10_soonest_53 : decode cX10_soonest 53 = .ok (.ireturn, 1) := by decide +kernel
theorem dX10_soonest_54 : decode cX10_soonest 54 = .ok (.iload_n 3, 1) := by decide +kernel
theorem dX10_soonest_55 : decode cX10_soonest 55 = .ok (.iconst 1, 1) := by decide +kernel
theorem dX10_soonest_56 : decode cX10_soonest 56 = .ok (.if_icmp .ne 11, 3) := by decide +kernel
theorem dX10_soonest_59 : decode cX10_soonest 59 = .ok (.aload_n 0, 1) := by decide +kernel
theorem dX10_soonest_60 : decode cX10_soonest 60 = .ok (.getfield 42, 3) := by decide +kernel
theorem dX10_soonest_63 : decode cX10_soonest 63 = .ok (.getfield 153, 3) := by decide +kernel
theorem dX10_soonest_66 : decode cX10_soonest 66 = .ok (.ireturn, 1) := by decide +kernel
theorem dX10_soonest_67 : decode cX10_soonest 67 = .ok (.iload_n 3, 1) := by decide +kernel
theorem dX10_soonest_68 : decode cX10_soonest 68 = .ok (.iconst 2, 1) := by decide +kernel
theorem dX10_soonest_69 : decode cX10_soonest 69 = .ok (.isub, 1) := by decide +kernel
theorem dX10_soonest_70 : decode cX10_soonest 70 = .ok (.aload_n 0, 1) := by decide +kernel
theorem dX10_soonest_71 : decode cX10_soonest 71 = .ok (.getfield 42, 3) := by decide +kernel
theorem dX10_soonest_74 : decode cX10_soonest 74 = .ok (.getfield 153, 3) := by decide +kernel
theorem dX10_soonest_77 : decode cX10_soonest 77 = .ok (.if_icmp .ge 19, 3) := by decide +kernel
theorem dX10_soonest_80 : decode cX10_soonest 80 = .ok (.aload_n 0, 1) := by decide +kernel
theorem dX10_soonest_81 : decode cX10_soonest 81 = .ok (.getfield 42, 3) := by decide +kernel
theorem dX10_soonest_84 : decode cX10_soonest 84 = .ok (.getfield 154, 3) := by decide +kernel
theorem dX10_soonest_87 : decode cX10_soonest 87 = .ok (.iload_n 3, 1) := by decide +kernel
theorem dX10_soonest_88 : decode cX10_soonest 88 = .ok (.iconst 2, 1) := by decide +kernel
theorem dX10_soonest_89 : decode cX10_soonest 89 = .ok (.isub, 1) := by decide +kernel
theorem dX10_soonest_90 : decode cX10_soonest 90 = .ok (.invokevirtual 58, 3) := by decide +kernel
theorem dX10_soonest_93 : decode cX10_soonest 93 = .ok (.goto 5, 3) := by decide +kernel
theorem dX10_soonest_96 : decode cX10_soonest 96 = .ok (.bipush (-6), 2) := by decide +kernel
theorem dX10_soonest_98 : decode cX10_soonest 98 = .ok (.ireturn, 1) := by decide +kernel
theorem dX10_quietest_0 : decode cX10_quietest 0 = .ok (.iload_n 1, 1) := by decide +kernel
theorem dX10_quietest_1 : decode cX10_quietest 1 = .ok (.invokestatic 130, 3) := by decide +kernel
theorem dX10_quietest_4 : decode cX10_quietest 4 = .ok (.ifCond .eq 10, 3) := by decide +kernel
theorem dX10_quietest_7 : decode cX10_quietest 7 = .ok (.iload_n 2, 1) := by decide +kernel
theorem dX10_quietest_8 : decode cX10_quietest 8 = .ok (.invokestatic 68, 3) := by decide +kernel
theorem dX10_quietest_11 : decode cX10_quietest 11 = .ok (.ifCond .ne 5, 3) := by decide +kernel
theorem dX10_quietest_14 : decode cX10_quietest 14 = .ok (.iconst (-1), 1) := by decide +kernel
theorem dX10_quietest_15 : decode cX10_quietest 15 = .ok (.ireturn, 1) := by decide +kernel
theorem dX10_quietest_16 : decode cX10_quietest 16 = .ok (.aload_n 0, 1) := by decide +kernel
theorem dX10_quietest_17 : decode cX10_quietest 17 = .ok (.getfield 10, 3) := by decide +kernel
theorem dX10_quietest_20 : decode cX10_quietest 20 = .ok (.getfield 110, 3) := by decide +kernel
theorem dX10_quietest_23 : decode cX10_quietest 23 = .ok (.getfield 133, 3) := by decide +kernel
theorem dX10_quietest_26 : decode cX10_quietest 26 = .ok (.iload_n 1, 1) := by decide +kernel
theorem dX10_quietest_27 : decode cX10_quietest 27 = .ok (.invokevirtual 58, 3) := by decide +kernel
theorem dX10_quietest_30 : decode cX10_quietest 30 = .ok (.istore_n 3, 1) := by decide +kernel
theorem dX10_quietest_31 : decode cX10_quietest 31 = .ok (.aload_n 0, 1) := by decide +kernel
theorem dX10_quietest_32 : decode cX10_quietest 32 = .ok (.getfield 10, 3) := by decide +kernel
theorem dX10_quietest_35 : decode cX10_quietest 35 = .ok (.iload_n 1, 1) := by decide +kernel
theorem dX10_quietest_36 : decode cX10_quietest 36 = .ok (.invokevirtual 187, 3) := by decide +kernel
theorem dX10_quietest_39 : decode cX10_quietest 39 = .ok (.istore 4, 2) := by decide +kernel
theorem dX10_quietest_41 : decode cX10_quietest 41 = .ok (.iconst 0, 1) := by decide +kernel
theorem dX10_quietest_42 : decode cX10_quietest 42 = .ok (.istore 5, 2) := by decide +kernel
theorem dX10_quietest_44 : decode cX10_quietest 44 = .ok (.iload 5, 2) := by decide +kernel
theorem dX10_quietest_46 : decode cX10_quietest 46 = .ok (.bipush 9, 2) := by decide +kernel
theorem dX10_quietest_48 : decode cX10_quietest 48 = .ok (.if_icmp .gt 45, 3) := by decide +kernel
theorem dX10_quietest_51 : decode cX10_quietest 51 = .ok (.aload_n 0, 1) := by decide +kernel
theorem dX10_quietest_52 : decode cX10_quietest 52 = .ok (.getfield 10, 3) := by decide +kernel
theorem dX10_quietest_55 : decode cX10_quietest 55 = .ok (.getfield 76, 3) := by decide +kernel
theorem dX10_quietest_58 : decode cX10_quietest 58 = .ok (.iload_n 3, 1) := by decide +kernel
theorem dX10_quietest_59 : decode cX10_quietest 59 = .ok (.iload 4, 2) := by decide +kernel
theorem dX10_quietest_61 : decode cX10_quietest 61 = .ok (.aload_n 0, 1) := by decide +kernel
theorem dX10_quietest_62 : decode cX10_quietest 62 = .ok (.getfield 10, 3) := by decide +kernel
theorem dX10_quietest_65 : decode cX10_quietest 65 = .ok (.getfield 76, 3) := by decide +kernel
theorem dX10_quietest_68 : decode cX10_quietest 68 = .ok (.iload 5, 2) := by decide +kernel
theorem dX10_quietest_70 : decode cX10_quietest 70 = .ok (.invokevirtual 232, 3) := by decide +kernel
theorem dX10_quietest_73 : decode cX10_quietest 73 = .ok (.iand, 1) := by decide +kernel
theorem dX10_quietest_74 : decode cX10_quietest 74 = .ok (.invokevirtual 190, 3) := by decide +kernel
theorem dX10_quietest_77 : decode cX10_quietest 77 = .ok (.iload_n 2, 1) := by decide +kernel
theorem dX10_quietest_78 : decode cX10_quietest 78 = .ok (.invokestatic 139, 3) := by decide +kernel
theorem dX10_quietest_81 : decode cX10_quietest 81 = .ok (.ifCond .eq 6, 3) := by decide +kernel
theorem dX10_quietest_84 : decode cX10_quietest 84 = .ok (.iload 5, 2) := by decide +kernel
theorem dX10_quietest_86 : decode cX10_quietest 86 = .ok (.ireturn, 1) := by decide +kernel
theorem dX10_quietest_87 : decode cX10_quietest 87 = .ok (.iinc 5 1, 3) := by decide +kernel
theorem dX10_quietest_90 : decode cX10_quietest 90 = .ok (.goto (-46), 3) := by decide +kernel
theorem dX10_quietest_93 : decode cX10_quietest 93 = .ok (.bipush (-6), 2) := by decide +kernel
theorem dX10_quietest_95 : decode cX10_quietest 95 = .ok (.ireturn, 1) := by decide +kernel
theorem dX10_reason_0 : decode cX10_reason 0 = .ok (.iload_n 1, 1) := by decide +kernel
theorem dX10_reason_1 : decode cX10_reason 1 = .ok (.invokestatic 130, 3) := by decide +kernel
theorem dX10_reason_4 : decode cX10_reason 4 = .ok (.ifCond .ne 5, 3) := by decide +kernel
theorem dX10_reason_7 : decode cX10_reason 7 = .ok (.iconst (-1), 1) := by decide +kernel
theorem dX10_reason_8 : decode cX10_reason 8 = .ok (.ireturn, 1) := by decide +kernel
theorem dX10_reason_9 : decode cX10_reason 9 = .ok (.aload_n 0, 1) := by decide +kernel
theorem dX10_reason_10 : decode cX10_reason 10 = .ok (.getfield 10, 3) := by decide +kernel
theorem dX10_reason_13 : decode cX10_reason 13 = .ok (.getfield 76, 3) := by decide +kernel
theorem dX10_reason_16 : decode cX10_reason 16 = .ok (.aload_n 0, 1) := by decide +kernel
theorem dX10_reason_17 : decode cX10_reason 17 = .ok (.getfield 10, 3) := by decide +kernel
theorem dX10_reason_20 : decode cX10_reason 20 = .ok (.iload_n 1, 1) := by decide +kernel
theorem dX10_reason_21 : decode cX10_reason 21 = .ok (.invokevirtual 235, 3) := by decide +kernel
theorem dX10_reason_24 : decode cX10_reason 24 = .ok (.aload_n 0, 1) := by decide +kernel
theorem dX10_reason_25 : decode cX10_reason 25 = .ok (.getfield 10, 3) := by decide +kernel
theorem dX10_reason_28 : decode cX10_reason 28 = .ok (.getfield 110, 3) := by decide +kernel
theorem dX10_reason_31 : decode cX10_reason 31 = .ok (.getfield 133, 3) := by decide +kernel
theorem dX10_reason_34 : decode cX10_reason 34 = .ok (.iload_n 1, 1) := by decide +kernel
theorem dX10_reason_35 : decode cX10_reason 35 = .ok (.invokevirtual 58, 3) := by decide +kernel
theorem dX10_reason_38 : decode cX10_reason 38 = .ok (.invokestatic 238, 3) := by decide +kernel
theorem dX10_reason_41 : decode cX10_reason 41 = .ok (.ireturn, 1) := by decide +kernel
theorem dX10_trail_0 : decode cX10_trail 0 = .ok (.iload_n 1, 1) := by decide +kernel
theorem dX10_trail_1 : decode cX10_trail 1 = .ok (.invokestatic 130, 3) := by decide +kernel
theorem dX10_trail_4 : decode cX10_trail 4 = .ok (.ifCond .eq 7, 3) := by decide +kernel
theorem dX10_trail_7 : decode cX10_trail 7 = .ok (.iload_n 2, 1) := by decide +kernel
theorem dX10_trail_8 : decode cX10_trail 8 = .ok (.ifCond .ge 5, 3) := by decide +kernel
theorem dX10_trail_11 : decode cX10_trail 11 = .ok (.iconst (-1), 1) := by decide +kernel
theorem dX10_trail_12 : decode cX10_trail 12 = .ok (.ireturn, 1) := by decide +kernel
theorem dX10_trail_13 : decode cX10_trail 13 = .ok (.aload_n 0, 1) := by decide +kernel
theorem dX10_trail_14 : decode cX10_trail 14 = .ok (.getfield 10, 3) := by decide +kernel
theorem dX10_trail_17 : decode cX10_trail 17 = .ok (.iload_n 1, 1) := by decide +kernel
theorem dX10_trail_18 : decode cX10_trail 18 = .ok (.invokevirtual 235, 3) := by decide +kernel
theorem dX10_trail_21 : decode cX10_trail 21 = .ok (.istore_n 3, 1) := by decide +kernel
theorem dX10_trail_22 : decode cX10_trail 22 = .ok (.aload_n 0, 1) := by decide +kernel
theorem dX10_trail_23 : decode cX10_trail 23 = .ok (.getfield 10, 3) := by decide +kernel
theorem dX10_trail_26 : decode cX10_trail 26 = .ok (.getfield 110, 3) := by decide +kernel
theorem dX10_trail_29 : decode cX10_trail 29 = .ok (.getfield 133, 3) := by decide +kernel
theorem dX10_trail_32 : decode cX10_trail 32 = .ok (.iload_n 1, 1) := by decide +kernel
theorem dX10_trail_33 : decode cX10_trail 33 = .ok (.invokevirtual 58, 3) := by decide +kernel
theorem dX10_trail_36 : decode cX10_trail 36 = .ok (.istore 4, 2) := by decide +kernel
theorem dX10_trail_38 : decode cX10_trail 38 = .ok (.aload_n 0, 1) := by decide +kernel
theorem dX10_trail_39 : decode cX10_trail 39 = .ok (.getfield 10, 3) := by decide +kernel
theorem dX10_trail_42 : decode cX10_trail 42 = .ok (.getfield 76, 3) := by decide +kernel
theorem dX10_trail_45 : decode cX10_trail 45 = .ok (.iload_n 3, 1) := by decide +kernel
theorem dX10_trail_46 : decode cX10_trail 46 = .ok (.iload 4, 2) := by decide +kernel
theorem dX10_trail_48 : decode cX10_trail 48 = .ok (.invokestatic 238, 3) := by decide +kernel
theorem dX10_trail_51 : decode cX10_trail 51 = .ok (.ifCond .eq 6, 3) := by decide +kernel
theorem dX10_trail_54 : decode cX10_trail 54 = .ok (.bipush (-5), 2) := by decide +kernel
theorem dX10_trail_56 : decode cX10_trail 56 = .ok (.ireturn, 1) := by decide +kernel
theorem dX10_trail_57 : decode cX10_trail 57 = .ok (.aload_n 0, 1) := by decide +kernel
theorem dX10_trail_58 : decode cX10_trail 58 = .ok (.getfield 10, 3) := by decide +kernel
theorem dX10_trail_61 : decode cX10_trail 61 = .ok (.getfield 76, 3) := by decide +kernel
theorem dX10_trail_64 : decode cX10_trail 64 = .ok (.iload_n 3, 1) := by decide +kernel
theorem dX10_trail_65 : decode cX10_trail 65 = .ok (.iload 4, 2) := by decide +kernel
theorem dX10_trail_67 : decode cX10_trail 67 = .ok (.iload_n 2, 1) := by decide +kernel
theorem dX10_trail_68 : decode cX10_trail 68 = .ok (.invokestatic 244, 3) := by decide +kernel
theorem dX10_trail_71 : decode cX10_trail 71 = .ok (.ireturn, 1) := by decide +kernel
theorem dX10_worstGap_0 : decode cX10_worstGap 0 = .ok (.iload_n 1, 1) := by decide +kernel
theorem dX10_worstGap_1 : decode cX10_worstGap 1 = .ok (.ifCond .eq 11, 3) := by decide +kernel
theorem dX10_worstGap_4 : decode cX10_worstGap 4 = .ok (.iload_n 1, 1) := by decide +kernel
theorem dX10_worstGap_5 : decode cX10_worstGap 5 = .ok (.iconst 1, 1) := by decide +kernel
theorem dX10_worstGap_6 : decode cX10_worstGap 6 = .ok (.if_icmp .eq 6, 3) := by decide +kernel
theorem dX10_worstGap_9 : decode cX10_worstGap 9 = .ok (.bipush (-2), 2) := by decide +kernel
theorem dX10_worstGap_11 : decode cX10_worstGap 11 = .ok (.ireturn, 1) := by decide +kernel
theorem dX10_worstGap_12 : decode cX10_worstGap 12 = .ok (.bipush (-6), 2) := by decide +kernel
theorem dX10_worstGap_14 : decode cX10_worstGap 14 = .ok (.istore_n 2, 1) := by decide +kernel
theorem dX10_worstGap_15 : decode cX10_worstGap 15 = .ok (.iconst 0, 1) := by decide +kernel
theorem dX10_worstGap_16 : decode cX10_worstGap 16 = .ok (.istore_n 3, 1) := by decide +kernel
theorem dX10_worstGap_17 : decode cX10_worstGap 17 = .ok (.iconst 0, 1) := by decide +kernel
theorem dX10_worstGap_18 : decode cX10_worstGap 18 = .ok (.istore 4, 2) := by decide +kernel
theorem dX10_worstGap_20 : decode cX10_worstGap 20 = .ok (.iload 4, 2) := by decide +kernel
theorem dX10_worstGap_22 : decode cX10_worstGap 22 = .ok (.aload_n 0, 1) := by decide +kernel
theorem dX10_worstGap_23 : decode cX10_worstGap 23 = .ok (.getfield 10, 3) := by decide +kernel
theorem dX10_worstGap_26 : decode cX10_worstGap 26 = .ok (.getfield 76, 3) := by decide +kernel
theorem dX10_worstGap_29 : decode cX10_worstGap 29 = .ok (.getfield 80, 3) := by decide +kernel
theorem dX10_worstGap_32 : decode cX10_worstGap 32 = .ok (.if_icmp .ge 35, 3) := by decide +kernel
theorem dX10_worstGap_35 : decode cX10_worstGap 35 = .ok (.aload_n 0, 1) := by decide +kernel
theorem dX10_worstGap_36 : decode cX10_worstGap 36 = .ok (.getfield 10, 3) := by decide +kernel
theorem dX10_worstGap_39 : decode cX10_worstGap 39 = .ok (.getfield 76, 3) := by decide +kernel
theorem dX10_worstGap_42 : decode cX10_worstGap 42 = .ok (.iload 4, 2) := by decide +kernel
theorem dX10_worstGap_44 : decode cX10_worstGap 44 = .ok (.invokevirtual 248, 3) := by decide +kernel
theorem dX10_worstGap_47 : decode cX10_worstGap 47 = .ok (.istore 5, 2) := by decide +kernel
theorem dX10_worstGap_49 : decode cX10_worstGap 49 = .ok (.iload 5, 2) := by decide +kernel
theorem dX10_worstGap_51 : decode cX10_worstGap 51 = .ok (.iload_n 3, 1) := by decide +kernel
theorem dX10_worstGap_52 : decode cX10_worstGap 52 = .ok (.if_icmp .le 9, 3) := by decide +kernel
theorem dX10_worstGap_55 : decode cX10_worstGap 55 = .ok (.iload 5, 2) := by decide +kernel
theorem dX10_worstGap_57 : decode cX10_worstGap 57 = .ok (.istore_n 3, 1) := by decide +kernel
theorem dX10_worstGap_58 : decode cX10_worstGap 58 = .ok (.iload 4, 2) := by decide +kernel
theorem dX10_worstGap_60 : decode cX10_worstGap 60 = .ok (.istore_n 2, 1) := by decide +kernel
theorem dX10_worstGap_61 : decode cX10_worstGap 61 = .ok (.iinc 4 1, 3) := by decide +kernel
theorem dX10_worstGap_64 : decode cX10_worstGap 64 = .ok (.goto (-44), 3) := by decide +kernel
theorem dX10_worstGap_67 : decode cX10_worstGap 67 = .ok (.iload_n 3, 1) := by decide +kernel
theorem dX10_worstGap_68 : decode cX10_worstGap 68 = .ok (.ifCond .ne 6, 3) := by decide +kernel
theorem dX10_worstGap_71 : decode cX10_worstGap 71 = .ok (.bipush (-6), 2) := by decide +kernel
theorem dX10_worstGap_73 : decode cX10_worstGap 73 = .ok (.ireturn, 1) := by decide +kernel
theorem dX10_worstGap_74 : decode cX10_worstGap 74 = .ok (.iload_n 1, 1) := by decide +kernel
theorem dX10_worstGap_75 : decode cX10_worstGap 75 = .ok (.ifCond .ne 7, 3) := by decide +kernel
theorem dX10_worstGap_78 : decode cX10_worstGap 78 = .ok (.iload_n 2, 1) := by decide +kernel
theorem dX10_worstGap_79 : decode cX10_worstGap 79 = .ok (.goto 4, 3) := by decide +kernel
theorem dX10_worstGap_82 : decode cX10_worstGap 82 = .ok (.iload_n 3, 1) := by decide +kernel
theorem dX10_worstGap_83 : decode cX10_worstGap 83 = .ok (.ireturn, 1) := by decide +kernel
theorem dX10_write_0 : decode cX10_write 0 = .ok (.lload_n 1, 1) := by decide +kernel
theorem dX10_write_1 : decode cX10_write 1 = .ok (.invokestatic 251, 3) := by decide +kernel
theorem dX10_write_4 : decode cX10_write 4 = .ok (.istore_n 3, 1) := by decide +kernel
theorem dX10_write_5 : decode cX10_write 5 = .ok (.iload_n 3, 1) := by decide +kernel
theorem dX10_write_6 : decode cX10_write 6 = .ok (.ifCond .ne 6, 3) := by decide +kernel
theorem dX10_write_9 : decode cX10_write 9 = .ok (.bipush (-2), 2) := by decide +kernel
theorem dX10_write_11 : decode cX10_write 11 = .ok (.ireturn, 1) := by decide +kernel
theorem dX10_write_12 : decode cX10_write 12 = .ok (.aload_n 0, 1) := by decide +kernel
theorem dX10_write_13 : decode cX10_write 13 = .ok (.getfield 19, 3) := by decide +kernel
theorem dX10_write_16 : decode cX10_write 16 = .ok (.getfield 101, 3) := by decide +kernel
theorem dX10_write_19 : decode cX10_write 19 = .ok (.iload_n 3, 1) := by decide +kernel
theorem dX10_write_20 : decode cX10_write 20 = .ok (.iadd, 1) := by decide +kernel
theorem dX10_write_21 : decode cX10_write 21 = .ok (.bipush 60, 2) := by decide +kernel
theorem dX10_write_23 : decode cX10_write 23 = .ok (.if_icmp .le 6, 3) := by decide +kernel
theorem dX10_write_26 : decode cX10_write 26 = .ok (.bipush (-4), 2) := by decide +kernel
theorem dX10_write_28 : decode cX10_write 28 = .ok (.ireturn, 1) := by decide +kernel
theorem dX10_write_29 : decode cX10_write 29 = .ok (.aload_n 0, 1) := by decide +kernel
theorem dX10_write_30 : decode cX10_write 30 = .ok (.getfield 19, 3) := by decide +kernel
theorem dX10_write_33 : decode cX10_write 33 = .ok (.lload_n 1, 1) := by decide +kernel
theorem dX10_write_34 : decode cX10_write 34 = .ok (.iload_n 3, 1) := by decide +kernel
theorem dX10_write_35 : decode cX10_write 35 = .ok (.invokevirtual 255, 3) := by decide +kernel
theorem dX10_write_38 : decode cX10_write 38 = .ok (.aload_n 0, 1) := by decide +kernel
theorem dX10_write_39 : decode cX10_write 39 = .ok (.getfield 19, 3) := by decide +kernel
theorem dX10_write_42 : decode cX10_write 42 = .ok (.getfield 101, 3) := by decide +kernel
theorem dX10_write_45 : decode cX10_write 45 = .ok (.ireturn, 1) := by decide +kernel
theorem dX10_wipe_0 : decode cX10_wipe 0 = .ok (.aload_n 0, 1) := by decide +kernel
theorem dX10_wipe_1 : decode cX10_wipe 1 = .ok (.getfield 19, 3) := by decide +kernel
theorem dX10_wipe_4 : decode cX10_wipe 4 = .ok (.getfield 101, 3) := by decide +kernel
theorem dX10_wipe_7 : decode cX10_wipe 7 = .ok (.istore_n 1, 1) := by decide +kernel
theorem dX10_wipe_8 : decode cX10_wipe 8 = .ok (.aload_n 0, 1) := by decide +kernel
theorem dX10_wipe_9 : decode cX10_wipe 9 = .ok (.getfield 19, 3) := by decide +kernel
theorem dX10_wipe_12 : decode cX10_wipe 12 = .ok (.iconst 0, 1) := by decide +kernel
theorem dX10_wipe_13 : decode cX10_wipe 13 = .ok (.putfield 101, 3) := by decide +kernel
theorem dX10_wipe_16 : decode cX10_wipe 16 = .ok (.iload_n 1, 1) := by decide +kernel
theorem dX10_wipe_17 : decode cX10_wipe 17 = .ok (.ireturn, 1) := by decide +kernel
theorem dX10_fault_0 : decode cX10_fault 0 = .ok (.aload_n 0, 1) := by decide +kernel
theorem dX10_fault_1 : decode cX10_fault 1 = .ok (.getfield 19, 3) := by decide +kernel
theorem dX10_fault_4 : decode cX10_fault 4 = .ok (.invokevirtual 90, 3) := by decide +kernel
theorem dX10_fault_7 : decode cX10_fault 7 = .ok (.ireturn, 1) := by decide +kernel
theorem dX10_undo_0 : decode cX10_undo 0 = .ok (.aload_n 0, 1) := by decide +kernel
theorem dX10_undo_1 : decode cX10_undo 1 = .ok (.getfield 26, 3) := by decide +kernel
theorem dX10_undo_4 : decode cX10_undo 4 = .ok (.getfield 228, 3) := by decide +kernel
theorem dX10_undo_7 : decode cX10_undo 7 = .ok (.ifCond .ne 6, 3) := by decide +kernel
theorem dX10_undo_10 : decode cX10_undo 10 = .ok (.bipush (-5), 2) := by decide +kernel
theorem dX10_undo_12 : decode cX10_undo 12 = .ok (.ireturn, 1) := by decide +kernel
theorem dX10_undo_13 : decode cX10_undo 13 = .ok (.aload_n 0, 1) := by decide +kernel
theorem dX10_undo_14 : decode cX10_undo 14 = .ok (.getfield 26, 3) := by decide +kernel
theorem dX10_undo_17 : decode cX10_undo 17 = .ok (.aload_n 0, 1) := by decide +kernel
theorem dX10_undo_18 : decode cX10_undo 18 = .ok (.getfield 10, 3) := by decide +kernel
theorem dX10_undo_21 : decode cX10_undo 21 = .ok (.invokevirtual 258, 3) := by decide +kernel
theorem dX10_undo_24 : decode cX10_undo 24 = .ok (.aload_n 0, 1) := by decide +kernel
theorem dX10_undo_25 : decode cX10_undo 25 = .ok (.getfield 26, 3) := by decide +kernel
theorem dX10_undo_28 : decode cX10_undo 28 = .ok (.getfield 228, 3) := by decide +kernel
theorem dX10_undo_31 : decode cX10_undo 31 = .ok (.ireturn, 1) := by decide +kernel
theorem dX10_save_0 : decode cX10_save 0 = .ok (.iload_n 1, 1) := by decide +kernel
theorem dX10_save_1 : decode cX10_save 1 = .ok (.invokestatic 261, 3) := by decide +kernel
theorem dX10_save_4 : decode cX10_save 4 = .ok (.ifCond .ne 6, 3) := by decide +kernel
theorem dX10_save_7 : decode cX10_save 7 = .ok (.bipush (-2), 2) := by decide +kernel
theorem dX10_save_9 : decode cX10_save 9 = .ok (.ireturn, 1) := by decide +kernel
theorem dX10_save_10 : decode cX10_save 10 = .ok (.aload_n 0, 1) := by decide +kernel
theorem dX10_save_11 : decode cX10_save 11 = .ok (.getfield 35, 3) := by decide +kernel
theorem dX10_save_14 : decode cX10_save 14 = .ok (.iload_n 1, 1) := by decide +kernel
theorem dX10_save_15 : decode cX10_save 15 = .ok (.aload_n 0, 1) := by decide +kernel
theorem dX10_save_16 : decode cX10_save 16 = .ok (.getfield 10, 3) := by decide +kernel
theorem dX10_save_19 : decode cX10_save 19 = .ok (.invokevirtual 264, 3) := by decide +kernel
theorem dX10_save_22 : decode cX10_save 22 = .ok (.aload_n 0, 1) := by decide +kernel
theorem dX10_save_23 : decode cX10_save 23 = .ok (.dup, 1) := by decide +kernel
theorem dX10_save_24 : decode cX10_save 24 = .ok (.getfield 268, 3) := by decide +kernel
theorem dX10_save_27 : decode cX10_save 27 = .ok (.iconst 1, 1) := by decide +kernel
theorem dX10_save_28 : decode cX10_save 28 = .ok (.iload_n 1, 1) := by decide +kernel
theorem dX10_save_29 : decode cX10_save 29 = .ok (.ishl, 1) := by decide +kernel
theorem dX10_save_30 : decode cX10_save 30 = .ok (.ior, 1) := by decide +kernel
theorem dX10_save_31 : decode cX10_save 31 = .ok (.putfield 268, 3) := by decide +kernel
theorem dX10_save_34 : decode cX10_save 34 = .ok (.aload_n 0, 1) := by decide +kernel
theorem dX10_save_35 : decode cX10_save 35 = .ok (.getfield 10, 3) := by decide +kernel
theorem dX10_save_38 : decode cX10_save 38 = .ok (.getfield 76, 3) := by decide +kernel
theorem dX10_save_41 : decode cX10_save 41 = .ok (.getfield 80, 3) := by decide +kernel
theorem dX10_save_44 : decode cX10_save 44 = .ok (.ireturn, 1) := by decide +kernel
theorem dX10_restore_0 : decode cX10_restore 0 = .ok (.iload_n 1, 1) := by decide +kernel
theorem dX10_restore_1 : decode cX10_restore 1 = .ok (.invokestatic 261, 3) := by decide +kernel
theorem dX10_restore_4 : decode cX10_restore 4 = .ok (.ifCond .ne 6, 3) := by decide +kernel
theorem dX10_restore_7 : decode cX10_restore 7 = .ok (.bipush (-2), 2) := by decide +kernel
theorem dX10_restore_9 : decode cX10_restore 9 = .ok (.ireturn, 1) := by decide +kernel
theorem dX10_restore_10 : decode cX10_restore 10 = .ok (.aload_n 0, 1) := by decide +kernel
theorem dX10_restore_11 : decode cX10_restore 11 = .ok (.getfield 268, 3) := by decide +kernel
theorem dX10_restore_14 : decode cX10_restore 14 = .ok (.iload_n 1, 1) := by decide +kernel
theorem dX10_restore_15 : decode cX10_restore 15 = .ok (.invokestatic 139, 3) := by decide +kernel
theorem dX10_restore_18 : decode cX10_restore 18 = .ok (.ifCond .ne 6, 3) := by decide +kernel
theorem dX10_restore_21 : decode cX10_restore 21 = .ok (.bipush (-5), 2) := by decide +kernel
theorem dX10_restore_23 : decode cX10_restore 23 = .ok (.ireturn, 1) := by decide +kernel
theorem dX10_restore_24 : decode cX10_restore 24 = .ok (.aload_n 0, 1) := by decide +kernel
theorem dX10_restore_25 : decode cX10_restore 25 = .ok (.getfield 26, 3) := by decide +kernel
theorem dX10_restore_28 : decode cX10_restore 28 = .ok (.aload_n 0, 1) := by decide +kernel
theorem dX10_restore_29 : decode cX10_restore 29 = .ok (.getfield 10, 3) := by decide +kernel
theorem dX10_restore_32 : decode cX10_restore 32 = .ok (.invokevirtual 50, 3) := by decide +kernel
theorem dX10_restore_35 : decode cX10_restore 35 = .ok (.aload_n 0, 1) := by decide +kernel
theorem dX10_restore_36 : decode cX10_restore 36 = .ok (.getfield 35, 3) := by decide +kernel
theorem dX10_restore_39 : decode cX10_restore 39 = .ok (.iload_n 1, 1) := by decide +kernel
theorem dX10_restore_40 : decode cX10_restore 40 = .ok (.aload_n 0, 1) := by decide +kernel
theorem dX10_restore_41 : decode cX10_restore 41 = .ok (.getfield 10, 3) := by decide +kernel
theorem dX10_restore_44 : decode cX10_restore 44 = .ok (.invokevirtual 271, 3) := by decide +kernel
theorem dX10_restore_47 : decode cX10_restore 47 = .ok (.aload_n 0, 1) := by decide +kernel
theorem dX10_restore_48 : decode cX10_restore 48 = .ok (.getfield 10, 3) := by decide +kernel
theorem dX10_restore_51 : decode cX10_restore 51 = .ok (.getfield 76, 3) := by decide +kernel
theorem dX10_restore_54 : decode cX10_restore 54 = .ok (.getfield 80, 3) := by decide +kernel
theorem dX10_restore_57 : decode cX10_restore 57 = .ok (.ireturn, 1) := by decide +kernel
theorem dX10_findWay_0 : decode cX10_findWay 0 = .ok (.aload_n 0, 1) := by decide +kernel
theorem dX10_findWay_1 : decode cX10_findWay 1 = .ok (.getfield 42, 3) := by decide +kernel
theorem dX10_findWay_4 : decode cX10_findWay 4 = .ok (.aload_n 0, 1) := by decide +kernel
theorem dX10_findWay_5 : decode cX10_findWay 5 = .ok (.getfield 10, 3) := by decide +kernel
theorem dX10_findWay_8 : decode cX10_findWay 8 = .ok (.getfield 76, 3) := by decide +kernel
theorem dX10_findWay_11 : decode cX10_findWay 11 = .ok (.aload_n 0, 1) := by decide +kernel
theorem dX10_findWay_12 : decode cX10_findWay 12 = .ok (.getfield 10, 3) := by decide +kernel
theorem dX10_findWay_15 : decode cX10_findWay 15 = .ok (.iload_n 1, 1) := by decide +kernel
theorem dX10_findWay_16 : decode cX10_findWay 16 = .ok (.invokevirtual 187, 3) := by decide +kernel
theorem dX10_findWay_19 : decode cX10_findWay 19 = .ok (.aload_n 0, 1) := by decide +kernel
theorem dX10_findWay_20 : decode cX10_findWay 20 = .ok (.getfield 10, 3) := by decide +kernel
theorem dX10_findWay_23 : decode cX10_findWay 23 = .ok (.getfield 110, 3) := by decide +kernel
theorem dX10_findWay_26 : decode cX10_findWay 26 = .ok (.getfield 133, 3) := by decide +kernel
theorem dX10_findWay_29 : decode cX10_findWay 29 = .ok (.iload_n 1, 1) := by decide +kernel
theorem dX10_findWay_30 : decode cX10_findWay 30 = .ok (.invokevirtual 58, 3) := by decide +kernel
theorem dX10_findWay_33 : decode cX10_findWay 33 = .ok (.iload_n 2, 1) := by decide +kernel
theorem dX10_findWay_34 : decode cX10_findWay 34 = .ok (.invokevirtual 274, 3) := by decide +kernel
theorem dX10_findWay_37 : decode cX10_findWay 37 = .ok (.return_, 1) := by decide +kernel
theorem dX10_isWithin_0 : decode cX10_isWithin 0 = .ok (.iload_n 0, 1) := by decide +kernel
theorem dX10_isWithin_1 : decode cX10_isWithin 1 = .ok (.iload_n 1, 1) := by decide +kernel
theorem dX10_isWithin_2 : decode cX10_isWithin 2 = .ok (.if_icmp .lt 12, 3) := by decide +kernel
theorem dX10_isWithin_5 : decode cX10_isWithin 5 = .ok (.iload_n 0, 1) := by decide +kernel
theorem dX10_isWithin_6 : decode cX10_isWithin 6 = .ok (.iload_n 2, 1) := by decide +kernel
theorem dX10_isWithin_7 : decode cX10_isWithin 7 = .ok (.if_icmp .gt 7, 3) := by decide +kernel
theorem dX10_isWithin_10 : decode cX10_isWithin 10 = .ok (.iconst 1, 1) := by decide +kernel
theorem dX10_isWithin_11 : decode cX10_isWithin 11 = .ok (.goto 4, 3) := by decide +kernel
theorem dX10_isWithin_14 : decode cX10_isWithin 14 = .ok (.iconst 0, 1) := by decide +kernel
theorem dX10_isWithin_15 : decode cX10_isWithin 15 = .ok (.ireturn, 1) := by decide +kernel
theorem dX10_isSetting_0 : decode cX10_isSetting 0 = .ok (.iload_n 0, 1) := by decide +kernel
theorem dX10_isSetting_1 : decode cX10_isSetting 1 = .ok (.ifCond .ne 13, 3) := by decide +kernel
theorem dX10_isSetting_4 : decode cX10_isSetting 4 = .ok (.iload_n 1, 1) := by decide +kernel
theorem dX10_isSetting_5 : decode cX10_isSetting 5 = .ok (.bipush 10, 2) := by decide +kernel
theorem dX10_isSetting_7 : decode cX10_isSetting 7 = .ok (.sipush 200, 3) := by decide +kernel
theorem dX10_isSetting_10 : decode cX10_isSetting 10 = .ok (.invokestatic 72, 3) := by decide +kernel
theorem dX10_isSetting_13 : decode cX10_isSetting 13 = .ok (.ireturn, 1) := by decide +kernel
theorem dX10_isSetting_14 : decode cX10_isSetting 14 = .ok (.iload_n 0, 1) := by decide +kernel
theorem dX10_isSetting_15 : decode cX10_isSetting 15 = .ok (.iconst 1, 1) := by decide +kernel
theorem dX10_isSetting_16 : decode cX10_isSetting 16 = .ok (.if_icmp .ne 17, 3) := by decide +kernel
theorem dX10_isSetting_19 : decode cX10_isSetting 19 = .ok (.iload_n 1, 1) := by decide +kernel
theorem dX10_isSetting_20 : decode cX10_isSetting 20 = .ok (.iconst 0, 1) := by decide +kernel
theorem dX10_isSetting_21 : decode cX10_isSetting 21 = .ok (.bipush 60, 2) := by decide +kernel
theorem dX10_isSetting_23 : decode cX10_isSetting 23 = .ok (.invokestatic 72, 3) := by decide +kernel
theorem dX10_isSetting_26 : decode cX10_isSetting 26 = .ok (.ifCond .eq 7, 3) := by decide +kernel
theorem dX10_isSetting_29 : decode cX10_isSetting 29 = .ok (.iconst 1, 1) := by decide +kernel
theorem dX10_isSetting_30 : decode cX10_isSetting 30 = .ok (.goto 4, 3) := by decide +kernel
theorem dX10_isSetting_33 : decode cX10_isSetting 33 = .ok (.iconst 0, 1) := by decide +kernel
theorem dX10_isSetting_34 : decode cX10_isSetting 34 = .ok (.ireturn, 1) := by decide +kernel
theorem dX10_isRoom_0 : decode cX10_isRoom 0 = .ok (.iload_n 0, 1) := by decide +kernel
theorem dX10_isRoom_1 : decode cX10_isRoom 1 = .ok (.iconst 0, 1) := by decide +kernel
theorem dX10_isRoom_2 : decode cX10_isRoom 2 = .ok (.bipush 9, 2) := by decide +kernel
theorem dX10_isRoom_4 : decode cX10_isRoom 4 = .ok (.invokestatic 72, 3) := by decide +kernel
theorem dX10_isRoom_7 : decode cX10_isRoom 7 = .ok (.ireturn, 1) := by decide +kernel
theorem dX10_isGhost_0 : decode cX10_isGhost 0 = .ok (.iload_n 0, 1) := by decide +kernel
theorem dX10_isGhost_1 : decode cX10_isGhost 1 = .ok (.iconst 0, 1) := by decide +kernel
theorem dX10_isGhost_2 : decode cX10_isGhost 2 = .ok (.iconst 3, 1) := by decide +kernel
theorem dX10_isGhost_3 : decode cX10_isGhost 3 = .ok (.invokestatic 72, 3) := by decide +kernel
theorem dX10_isGhost_6 : decode cX10_isGhost 6 = .ok (.ireturn, 1) := by decide +kernel
theorem dX10_isSlot_0 : decode cX10_isSlot 0 = .ok (.iload_n 0, 1) := by decide +kernel
theorem dX10_isSlot_1 : decode cX10_isSlot 1 = .ok (.iconst 0, 1) := by decide +kernel
theorem dX10_isSlot_2 : decode cX10_isSlot 2 = .ok (.iconst 1, 1) := by decide +kernel
theorem dX10_isSlot_3 : decode cX10_isSlot 3 = .ok (.invokestatic 72, 3) := by decide +kernel
theorem dX10_isSlot_6 : decode cX10_isSlot 6 = .ok (.ireturn, 1) := by decide +kernel
theorem dX10_holds_0 : decode cX10_holds 0 = .ok (.iload_n 0, 1) := by decide +kernel
theorem dX10_holds_1 : decode cX10_holds 1 = .ok (.iload_n 1, 1) := by decide +kernel
theorem dX10_holds_2 : decode cX10_holds 2 = .ok (.ishr, 1) := by decide +kernel
theorem dX10_holds_3 : decode cX10_holds 3 = .ok (.iconst 1, 1) := by decide +kernel
theorem dX10_holds_4 : decode cX10_holds 4 = .ok (.iand, 1) := by decide +kernel
theorem dX10_holds_5 : decode cX10_holds 5 = .ok (.ifCond .eq 7, 3) := by decide +kernel
theorem dX10_holds_8 : decode cX10_holds 8 = .ok (.iconst 1, 1) := by decide +kernel
theorem dX10_holds_9 : decode cX10_holds 9 = .ok (.goto 4, 3) := by decide +kernel
theorem dX10_holds_12 : decode cX10_holds 12 = .ok (.iconst 0, 1) := by decide +kernel
theorem dX10_holds_13 : decode cX10_holds 13 = .ok (.ireturn, 1) := by decide +kernel
end
section
-- the words that may be carried into any call, the classes of the worlds, the world as a function of cells, and the rows over it
def gT : List Cond := lw_tbl.filter goodWord
theorem gmem {w : Cond} (i : Nat) (h : lw_tbl[i]? = some w) (hg : goodWord w = true) : w ∈ gT := List.mem_filter.mpr ⟨List.mem_of_getElem? h, hg⟩
theorem gT_good : ∀ w ∈ gT, (w.onTables && w.keeps) = true ∨ ∃ ty, w = .arrayClass ty := fun w h => good_of_word (List.mem_filter.mp h).2
theorem gmems {ws : List Cond} (ps : List Nat) (h : ws = ps.filterMap (fun i => lw_tbl[i]?)) (hg : ws.all goodWord = true) : ∀ w ∈ ws, w ∈ gT := by
  intro w hw
  have h1 := List.all_eq_true.mp hg w hw
  rw [h] at hw
  obtain ⟨i, -, hi⟩ := List.mem_filterMap.mp hw
  exact gmem i hi h1
/-- a method's words: its own code, and the tables' -/
def gW (y : MethodName) (b : ByteArray) (n : Nat) (ret : Option FieldType) : List Cond := .code y b n ret :: gT
theorem gW_in {y : MethodName} {b : ByteArray} {n : Nat} {ret : Option FieldType} (h : Cond.code y b n ret ∈ gT) : GoodIn gT (gW y b n ret) := by
  intro w hw
  rcases List.mem_cons.mp hw with rfl | hw
  · exact ⟨h, gT_good _ h⟩
  · exact ⟨hw, gT_good _ hw⟩
def gCls : List vw_C := [(RX0, TX0, 6), (RX1, TX1, 6), (RX2, TX2, 3), (RX3, TX3, 3), (RX4, TX4, 2), (RX5, TX5, 1), (RX6, TX6, 1), (RX7, TX7, 5), (RX9, TX9, 5), (RX10, TX10, 6), (RX11, TX11, 15)]
abbrev gG : Type := va_G × (Nat → ClassId)
abbrev gTys (G : gG) : List (ClassId × FieldType) := [(G.2 0, .int), (G.2 1, .object "CreakingGhosts$Attic"), (G.2 2, .boolean), (G.2 3, .char)]
def gNestW : List Cond := [.methodLinkNest RX4 24 yX10_isWithin RX10, .methodLinkNest RX1 40 yX10_isWithin RX10, .methodLinkNest RX7 37 yX10_isWithin RX10, .methodLinkNest RX1 71 yX10_holds RX10, .methodLinkNest RX9 65 yX10_holds RX10, .methodLinkNest RX2 34 yX10_holds RX10, .methodLinkNest RX0 100 yX10_holds RX10, .methodLinkNest RX8 15 yX10_holds RX10, .methodLinkNest RX0 22 yX1_init RX10, .methodLinkNest RX0 29 yX2_init RX10, .methodLinkNest RX0 36 yX7_init RX10, .methodLinkNest RX10 18 yX4_init RX10, .methodLinkNest RX10 25 yX3_init RX10, .methodLinkNest RX10 41 yX9_init RX10]
def gNest (U : State) : Prop := ∀ w ∈ gNestW, va_Nw w U
theorem gNest.warm {s U : State} (hW : s.WarmedH U.vm) (h : gNest s) : gNest U := by
  intro w hw
  have h1 := h w hw
  simp only [gNestW, List.mem_cons, List.not_mem_nil, or_false] at hw
  rcases hw with rfl | rfl | rfl | rfl | rfl | rfl | rfl | rfl | rfl | rfl | rfl | rfl | rfl | rfl <;> exact va_Nw.warmM hW h1
def gEnv (G : gG) (U : State) : Prop := va_K G.1 gCls (gTys G) U ∧ gNest U
theorem gEnv.warm {G : gG} {s U : State} (hW : s.WarmedH U.vm) (h : gEnv G s) : gEnv G U := ⟨va_K.moved hW.alike h.1, h.2.warm hW⟩
/-- the state of a world: what ints its cells hold -/
abbrev gS : Type := Nat → Nat → Int32
def gU (σ : gS) (c : Nat) (f : Nat → Int32) : gS := fun j => if j = c then f else σ j
def up2 (σ : gS) (c k : Nat) (x : Int32) : gS := gU σ c (upd (σ c) k x)
abbrev gEnt : Type := Nat → (Nat → Int32) → va_E
def gL (ent : gEnt) (o N : Nat) (σ : gS) : va_W := (List.range N).map fun c => (o + c, ent c (σ c))
theorem gL_get {ent : gEnt} {o N c : Nat} {σ : gS} (hc : c < N) : (gL ent o N σ)[c]? = some (o + c, ent c (σ c)) := by simp [gL, hc]
theorem gL_at {ent : gEnt} {o N c : Nat} {σ : gS} {q : Nat × va_E} (h : (gL ent o N σ)[c]? = some q) : c < N ∧ q = (o + c, ent c (σ c)) := by
  have hc : c < N := by
    have := (List.getElem?_eq_some_iff.mp h).1
    simpa [gL] using this
  rw [gL_get hc] at h
  exact ⟨hc, (Option.some.inj h).symm⟩
theorem gL_set {ent : gEnt} {o N c : Nat} {σ : gS} {f : Nat → Int32} (hc : c < N) : (gL ent o N σ).set c (o + c, ent c f) = gL ent o N (gU σ c f) := by
  apply List.ext_getElem?
  intro i
  by_cases hi : i < N
  · rw [gL_get hi]
    by_cases hic : i = c
    · subst hic
      rw [List.getElem?_set_self (by simpa [gL] using hc)]
      simp [gU]
    · rw [List.getElem?_set_ne (Ne.symm hic), gL_get hi]
      simp [gU, hic]
  · rw [List.getElem?_eq_none (by simp [gL]; omega), List.getElem?_eq_none (by simp [gL]; omega)]
def gA (o N : Nat) : Nat → Prop := fun q => o ≤ q ∧ q < o + N
theorem gL_D {ent : gEnt} {o N : Nat} {σ : gS} : va_D (gA o N) (gL ent o N σ) := by
  refine ⟨fun i j p q hi hj h => ?_, fun k q hk => ?_⟩
  · obtain ⟨-, rfl⟩ := gL_at hi
    obtain ⟨-, rfl⟩ := gL_at hj
    exact Nat.add_left_cancel h
  · obtain ⟨hk2, rfl⟩ := gL_at hk
    exact ⟨Nat.le_add_right _ _, Nat.add_lt_add_left hk2 _⟩
def gP (G : gG) (ent : gEnt) (o N : Nat) (σ : gS) (H : Heap) : Prop := va_P G.1 gCls (gL ent o N σ) H
def gSt (G : gG) (ent : gEnt) (o N : Nat) (s : State) (σ : gS) (H : Heap) (locs : List Loc) : Prop := gP G ent o N σ H ∧ va_S (gA o N) s.heap H locs
def gK (p : Program) (s : State) (m : MethodId) (args : Array Value) (meth : Method) (c : Code) (G : gG) (cc : ByteArray) (nL : Nat) (own : String) (ret : Option FieldType) : Prop :=
  p.tables.exec = Jvm.exec ∧ c.code = cc ∧ c.maxLocals = nL ∧ s.vm.findClass own = some m.cls ∧ (∀ w ∈ gT, w.before args s = true) ∧ gEnv G s ∧ meth.sig.returnType = ret ∧ meth.locks = false
def gPc (G : gG) (ent : gEnt) (o N : Nat) (av : List Value) (σ : gS) : Array Value → State → Prop := va_Pc av (fun U => gP G ent o N σ U.heap ∧ gEnv G U)
def gQi (G : gG) (ent : gEnt) (o N : Nat) (q : Int32 × gS) : Array Value → State → Outcome → State → Prop := fun _ st oc t => (oc = .returned (some (.int q.1)) ∧ gP G ent o N q.2 t.heap) ∧ va_F (gA o N) st t
def gQv (G : gG) (ent : gEnt) (o N : Nat) (q : gS) : Array Value → State → Outcome → State → Prop := fun _ st oc t => (oc = .returned none ∧ gP G ent o N q t.heap) ∧ va_F (gA o N) st t
theorem gPc_blind {G : gG} {ent : gEnt} {o N : Nat} {av : List Value} {σ : gS} : FrameBlind (gPc G ent o N av σ) := by
  intro a U g mk q
  obtain ⟨q0, q1, q2, q3⟩ := q
  refine ⟨q0, q1, va_K.moved (u := U) (U := U.calling g mk a) (Vm.Alike.refl U.vm) q2, fun w hw => ?_⟩
  have h1 := q3 w hw
  refine va_tabs ?_ (u := U) (A := #[]) rfl h1
  simp only [gNestW, List.mem_cons, List.not_mem_nil, or_false] at hw
  rcases hw with rfl | rfl | rfl | rfl | rfl | rfl | rfl | rfl | rfl | rfl | rfl | rfl | rfl | rfl <;> rfl
/-! guards, names and continuations of the functions that the methods compute -/
def gGd {α : Type} (b : Bool) (x : Option α) : Option α := match b with
  | true => x
  | false => none
theorem gGd_some {α : Type} {b : Bool} {x : Option α} {q : α} (h : gGd b x = some q) : b = true ∧ x = some q := by
  cases b with
  | true => exact ⟨rfl, h⟩
  | false => cases h
def gLet {α β : Type} (a : α) (f : α → β) : β := f a
theorem gLet_some {α β : Type} {a : α} {f : α → Option β} {q : β} (h : gLet a f = some q) : ∃ x, x = a ∧ f x = some q := ⟨a, rfl, h⟩
def gin (i : Int32) (n : Nat) : Bool := decide (0 ≤ i.toInt ∧ i.toInt < n)
theorem gin_in {i : Int32} {n : Nat} (h : gin i n = true) : vp_in i n := vp_in_iff.mpr (of_decide_eq_true h)
def gne (x : Int32) : Bool := !(x == 0)
theorem gne_ne {x : Int32} (h : gne x = true) : ¬ x = 0 := by
  intro h0
  subst h0
  exact absurd h (by decide)
def gbo (x : Int32) : Bool := (x == 0 || x == 1)
theorem gbo_nar {x : Int32} (h : gbo x = true) : narrow .boolean (.int x) = .int x := by
  simp only [gbo, Bool.or_eq_true, beq_iff_eq] at h
  rcases h with rfl | rfl <;> rfl
theorem gbo_fit {x : Int32} (h : gbo x = true) : fits .boolean (.int x) = true := by
  simp only [gbo, Bool.or_eq_true, beq_iff_eq] at h
  rcases h with rfl | rfl <;> rfl
def gil (i : Int32) : Nat := i.toNatClampNeg
/-! links -/
def gFl (own : String) (idx ci k : Nat) : Prop := ∃ (C : String) (T : u_T) (n : Nat), gCls[ci]? = some (C, T, n) ∧ (∀ w ∈ u_ws C T n, w ∈ gT) ∧ k < n ∧ Cond.fieldLink own idx (T k).1 (T k).2.1 (T k).2.2.1 ∈ gT
def gFp (own : String) (idx ci k : Nat) (ty : FieldType) : Prop := ∃ (C : String) (T : u_T) (n : Nat) (t0 : Nat → FieldType), gCls[ci]? = some (C, T, n) ∧ (∀ w ∈ u_ws C T n, w ∈ gT) ∧ k < n ∧ Cond.fieldLink own idx (T k).1 (T k).2.1 (T k).2.2.1 ∈ gT ∧ (∀ k, k < n → parseFieldDescriptor (T k).2.2.1 = some (t0 k)) ∧ (∀ a, a < n → ∀ b, b < n → a ≠ b → (T a).2.1 ≠ (T b).2.1) ∧ (T k).2.2.2 = false ∧ parseFieldDescriptor (T k).2.2.1 = some ty
def gMV (own : String) (idx : Nat) (y : MethodName) (C : String) (b : ByteArray) (mL : Nat) (ret : Option FieldType) (n : Nat) : Prop := Cond.methodLink own idx y ∈ gT ∧ Cond.instanceMethod y ∈ gT ∧ Cond.selects C y y ∈ gT ∧ Cond.initialized y.cls ∈ gT ∧ Cond.code y b mL ret ∈ gT ∧ (y.cls ≠ "java/lang/invoke/MethodHandle" ∧ y.cls ≠ "java/lang/invoke/VarHandle" ∧ (parseMethodDescriptor y.desc).map (fun d => d.parameters.length) = some n)
def gMS (own : String) (idx : Nat) (y : MethodName) (b : ByteArray) (mL : Nat) (ret : Option FieldType) (n : Nat) : Prop := Cond.methodLink own idx y ∈ gT ∧ Cond.static y ∈ gT ∧ Cond.initialized y.cls ∈ gT ∧ Cond.code y b mL ret ∈ gT ∧ (y.cls ≠ "java/lang/invoke/MethodHandle" ∧ y.cls ≠ "java/lang/invoke/VarHandle" ∧ (parseMethodDescriptor y.desc).map (fun d => d.parameters.length) = some n)
def gMN (own : String) (idx : Nat) (y : MethodName) (host : String) (b : ByteArray) (mL : Nat) (ret : Option FieldType) (n : Nat) : Prop := Cond.methodLinkNest own idx y host ∈ gNestW ∧ Cond.static y ∈ gT ∧ Cond.initialized y.cls ∈ gT ∧ Cond.code y b mL ret ∈ gT ∧ (y.cls ≠ "java/lang/invoke/MethodHandle" ∧ y.cls ≠ "java/lang/invoke/VarHandle" ∧ (parseMethodDescriptor y.desc).map (fun d => d.parameters.length) = some n)
section GR
variable {p : Program} {l : Launch} {e : Env} {R : Room} {s : State} {m : MethodId} {args : Array Value} {below : List Frame} {meth : Method} {c : Code} {H : Heap} {locs : List Loc} {cells slots : Nat} {Q : State → Prop}
variable {cc : ByteArray} {pc nL : Nat} {ls : Array Slot} {rest st0 : List Value} {G : gG} {ent : gEnt} {o N : Nat} {σ : gS} {own : String} {ret : Option FieldType}
theorem g_get {idx ci k cx : Nat} {fs : List Value} {v : Value} (K : gK p s m args meth c G cc nL own ret) (hS : gSt G ent o N s σ H locs) (L : gFl own idx ci k) (he : ent cx (σ cx) = .inr (ci, fs)) (hc : cx < N) (hv : fs[k]? = some v) (hd : decode cc pc = .ok (.getfield idx, 3))
    (kk : W p l e R s m args below meth c H locs cells slots Q (F0 m (pc + 3) ls (v :: rest))) : W p l e R s m args below meth c H locs cells slots Q (F0 m pc ls (.ref (o + cx) :: rest)) := by
  obtain ⟨hx, hb, hml, hown, hts, hE, hr, hlk⟩ := K
  obtain ⟨C, T, n, h1, h2, h3, h4⟩ := L
  exact va_get hx hb hts h2 hown hE.1 hS.1 cx ((gL_get hc).trans (by rw [he])) h1 k h3 (hts _ h4) (fun _ h => h) hv hd kk
theorem g_put {idx ci k cx : Nat} {fs : (Nat → Int32) → List Value} {ty : FieldType} {x : Int32} (K : gK p s m args meth c G cc nL own ret) (hS : gSt G ent o N s σ H locs) (L : gFp own idx ci k ty) (he : ∀ f, ent cx f = .inr (ci, fs f)) (hc : cx < N) (hv : (fs (σ cx)).set k (.int x) = fs (upd (σ cx) k x)) (hl : k < (fs (σ cx)).length) (hn : narrow ty (.int x) = .int x) (hfit : fits ty (.int x) = true) (hd : decode cc pc = .ok (.putfield idx, 3))
    (kk : ∀ (H1 : Heap) (locs1 : List Loc), gSt G ent o N s (up2 σ cx k x) H1 locs1 → W p l e R s m args below meth c H1 locs1 cells slots Q (F0 m (pc + 3) ls rest)) : W p l e R s m args below meth c H locs cells slots Q (F0 m pc ls (.int x :: .ref (o + cx) :: rest)) := by
  obtain ⟨hx, hb, hml, hown, hts, hE, hr, hlk⟩ := K
  obtain ⟨C, T, n, t0, h1, h2, h3, h4, h5, h6, h7, h8⟩ := L
  refine va_put hx hb hts h2 t0 h5 h6 hown hE.1 hS.1 gL_D hS.2 cx ((gL_get hc).trans (by rw [he])) h1 k h3 (hts _ h4) (fun _ h => h) h7 h8 hn hfit hl hd (fun H1 locs1 a1 a2 a3 => kk H1 locs1 ⟨?_, a3⟩)
  rw [hv, ← he, gL_set hc] at a1
  exact a1
theorem g_iald {cx n : Nat} {i : Int32} (K : gK p s m args meth c G cc nL own ret) (hS : gSt G ent o N s σ H locs) (he : ∀ f, ent cx f = .inl (G.2 0, n, .inl f)) (hc : cx < N) (hin : gin i n = true) (hd : decode cc pc = .ok (.iaload, 1))
    (kk : W p l e R s m args below meth c H locs cells slots Q (F0 m (pc + 1) ls (.int (σ cx (gil i)) :: rest))) : W p l e R s m args below meth c H locs cells slots Q (F0 m pc ls (.int i :: .ref (o + cx) :: rest)) := by
  obtain ⟨hx, hb, hml, hown, hts, hE, hr, hlk⟩ := K
  exact va_iald hx hb hE.1 hS.1 cx 0 ((gL_get hc).trans (by rw [he])) rfl (gin_in hin) hd kk
theorem g_zald {cx n : Nat} {i : Int32} (K : gK p s m args meth c G cc nL own ret) (hS : gSt G ent o N s σ H locs) (he : ∀ f, ent cx f = .inl (G.2 2, n, .inl f)) (hc : cx < N) (hin : gin i n = true) (hd : decode cc pc = .ok (.baload, 1))
    (kk : W p l e R s m args below meth c H locs cells slots Q (F0 m (pc + 1) ls (.int (σ cx (gil i)) :: rest))) : W p l e R s m args below meth c H locs cells slots Q (F0 m pc ls (.int i :: .ref (o + cx) :: rest)) := by
  obtain ⟨hx, hb, hml, hown, hts, hE, hr, hlk⟩ := K
  exact va_zald hx hb hE.1 hS.1 cx 2 ((gL_get hc).trans (by rw [he])) rfl (gin_in hin) hd kk
theorem g_cald {cx n : Nat} {i : Int32} (K : gK p s m args meth c G cc nL own ret) (hS : gSt G ent o N s σ H locs) (he : ∀ f, ent cx f = .inl (G.2 3, n, .inl f)) (hc : cx < N) (hin : gin i n = true) (hd : decode cc pc = .ok (.caload, 1))
    (kk : W p l e R s m args below meth c H locs cells slots Q (F0 m (pc + 1) ls (.int (σ cx (gil i)) :: rest))) : W p l e R s m args below meth c H locs cells slots Q (F0 m pc ls (.int i :: .ref (o + cx) :: rest)) := by
  obtain ⟨hx, hb, hml, hown, hts, hE, hr, hlk⟩ := K
  exact va_cald hx hb hE.1 hS.1 cx 3 ((gL_get hc).trans (by rw [he])) rfl (gin_in hin) hd kk
theorem g_iast {cx n : Nat} {i x : Int32} (K : gK p s m args meth c G cc nL own ret) (hS : gSt G ent o N s σ H locs) (he : ∀ f, ent cx f = .inl (G.2 0, n, .inl f)) (hc : cx < N) (hin : gin i n = true) (hd : decode cc pc = .ok (.iastore, 1))
    (kk : ∀ (H1 : Heap) (locs1 : List Loc), gSt G ent o N s (up2 σ cx (gil i) x) H1 locs1 → W p l e R s m args below meth c H1 locs1 cells slots Q (F0 m (pc + 1) ls rest)) : W p l e R s m args below meth c H locs cells slots Q (F0 m pc ls (.int x :: .int i :: .ref (o + cx) :: rest)) := by
  obtain ⟨hx, hb, hml, hown, hts, hE, hr, hlk⟩ := K
  refine va_iast hx hb hE.1 hS.1 gL_D hS.2 cx 0 ((gL_get hc).trans (by rw [he])) rfl (gin_in hin) hd (fun H1 locs1 a1 a2 a3 => kk H1 locs1 ⟨?_, a3⟩)
  rw [← he, gL_set hc] at a1
  exact a1
theorem g_zast {cx n : Nat} {i x : Int32} (K : gK p s m args meth c G cc nL own ret) (hS : gSt G ent o N s σ H locs) (he : ∀ f, ent cx f = .inl (G.2 2, n, .inl f)) (hc : cx < N) (hin : gin i n = true) (hd : decode cc pc = .ok (.bastore, 1))
    (kk : ∀ (H1 : Heap) (locs1 : List Loc), gSt G ent o N s (up2 σ cx (gil i) (vp_nar .boolean x)) H1 locs1 → W p l e R s m args below meth c H1 locs1 cells slots Q (F0 m (pc + 1) ls rest)) : W p l e R s m args below meth c H locs cells slots Q (F0 m pc ls (.int x :: .int i :: .ref (o + cx) :: rest)) := by
  obtain ⟨hx, hb, hml, hown, hts, hE, hr, hlk⟩ := K
  refine va_zast hx hb hE.1 hS.1 gL_D hS.2 cx 2 ((gL_get hc).trans (by rw [he])) rfl (gin_in hin) hd (fun H1 locs1 a1 a2 a3 => kk H1 locs1 ⟨?_, a3⟩)
  rw [← he, gL_set hc] at a1
  exact a1
theorem g_cast {cx n : Nat} {i x : Int32} (K : gK p s m args meth c G cc nL own ret) (hS : gSt G ent o N s σ H locs) (he : ∀ f, ent cx f = .inl (G.2 3, n, .inl f)) (hc : cx < N) (hin : gin i n = true) (hd : decode cc pc = .ok (.castore, 1))
    (kk : ∀ (H1 : Heap) (locs1 : List Loc), gSt G ent o N s (up2 σ cx (gil i) (vp_nar .char x)) H1 locs1 → W p l e R s m args below meth c H1 locs1 cells slots Q (F0 m (pc + 1) ls rest)) : W p l e R s m args below meth c H locs cells slots Q (F0 m pc ls (.int x :: .int i :: .ref (o + cx) :: rest)) := by
  obtain ⟨hx, hb, hml, hown, hts, hE, hr, hlk⟩ := K
  refine va_cast hx hb hE.1 hS.1 gL_D hS.2 cx 3 ((gL_get hc).trans (by rw [he])) rfl (gin_in hin) hd (fun H1 locs1 a1 a2 a3 => kk H1 locs1 ⟨?_, a3⟩)
  rw [← he, gL_set hc] at a1
  exact a1
theorem g_alen {cx t0 : Nat} {a : vp_A} {ty : FieldType} {v : Int32} (K : gK p s m args meth c G cc nL own ret) (hS : gSt G ent o N s σ H locs) (he : ent cx (σ cx) = .inl (G.2 t0, a)) (hc : cx < N) (ht : (gTys G)[t0]? = some (G.2 t0, ty)) (hv : Int32.ofNat a.1 = v) (hd : decode cc pc = .ok (.arraylength, 1))
    (kk : W p l e R s m args below meth c H locs cells slots Q (F0 m (pc + 1) ls (.int v :: rest))) : W p l e R s m args below meth c H locs cells slots Q (F0 m pc ls (.ref (o + cx) :: rest)) := by
  obtain ⟨hx, hb, hml, hown, hts, hE, hr, hlk⟩ := K
  exact va_alen hx hb hE.1 hS.1 cx t0 ((gL_get hc).trans (by rw [he])) ht hv hd kk
theorem g_aald {cx n : Nat} {f : Nat → Option Nat} {i : Int32} (K : gK p s m args meth c G cc nL own ret) (hS : gSt G ent o N s σ H locs) (he : ent cx (σ cx) = .inl (G.2 1, n, .inr (.inr (.inr (.inr f))))) (hc : cx < N) (hin : gin i n = true) (hd : decode cc pc = .ok (.aaload, 1))
    (kk : W p l e R s m args below meth c H locs cells slots Q (F0 m (pc + 1) ls (va_rf (f (gil i)) :: rest))) : W p l e R s m args below meth c H locs cells slots Q (F0 m pc ls (.int i :: .ref (o + cx) :: rest)) := by
  obtain ⟨hx, hb, hml, hown, hts, hE, hr, hlk⟩ := K
  exact va_aldq hx hb hE.1 hS.1 cx 1 ((gL_get hc).trans (by rw [he])) rfl (gin_in hin) hd kk
theorem g_copy {idx c0 c1 n0 n1 : Nat} {sp dp n : Int32} (K : gK p s m args meth c G cc nL own ret) (hS : gSt G ent o N s σ H locs) (hls : ls.size = nL) (hlk : Cond.methodLink own idx arraycopyName ∈ gT) (he0 : ∀ f, ent c0 f = .inl (G.2 0, n0, .inl f)) (he1 : ∀ f, ent c1 f = .inl (G.2 0, n1, .inl f)) (hc0 : c0 < N) (hc1 : c1 < N) (hn : sp = 0 ∧ dp = 0 ∧ 0 ≤ n.toInt ∧ n.toInt ≤ n0 ∧ n.toInt ≤ n1) (hnat : Cond.native arraycopyName ∈ gT) (hstat : Cond.static arraycopyName ∈ gT) (hini : Cond.initialized "java/lang/System" ∈ gT)
    (hframes : 1 ≤ R.frames) (hlocals : (rest.map fun v => v.category).sum + (nativeFrameWords "java/lang/System" "arraycopy" 5 + 11) ≤ R.locals) (hd : decode cc pc = .ok (.invokestatic idx, 3))
    (kk : ∀ (H1 : Heap) (locs1 : List Loc), gSt G ent o N s (gU σ c1 (va_cpy (σ c0) (σ c1) 0 0 (gil n))) H1 locs1 → W p l e R s m args below meth c H1 locs1 cells slots Q (F0 m (pc + 3) ls rest)) : W p l e R s m args below meth c H locs cells slots Q (F0 m pc ls (.int n :: .int dp :: .ref (o + c1) :: .int sp :: .ref (o + c0) :: rest)) := by
  obtain ⟨hx, hb, hml, hown, hts, hE, hr, -⟩ := K
  obtain ⟨rfl, rfl, h1, h2, h3⟩ := hn
  have hnn : ¬ n < 0 := by
    intro h
    have := Int32.lt_iff_toInt_lt.mp h
    simp at this
    omega
  have hcl : ((gil n : Nat) : Int) = n.toInt := by
    show ((n.toInt.toNat : Nat) : Int) = n.toInt
    omega
  refine va_copyi hx hb (hml.trans hls.symm) hown (hts _ hlk) (hts _ hnat) (hts _ hstat) (hts _ hini) hE.1 hS.1 gL_D hS.2 c0 c1 0 0 ((gL_get hc0).trans (by rw [he0])) ((gL_get hc1).trans (by rw [he1])) rfl rfl rfl (by decide) (by decide) hnn (by show 0 + gil n ≤ n0; omega) (by show 0 + gil n ≤ n1; omega) (fun i _ => rfl) hframes hlocals hd (fun H1 locs1 a1 a2 a3 => kk H1 locs1 ⟨?_, a3⟩)
  rw [← he1, gL_set hc1] at a1
  exact a1
theorem g_mmax {idx : Nat} {x y : Int32} (K : gK p s m args meth c G cc nL own ret) (hls : ls.size = nL) (hlk : Cond.methodLink own idx Lib.Math.max.name ∈ gT) (hst : Cond.static Lib.Math.max.name ∈ gT) (hini : Cond.initialized "java/lang/Math" ∈ gT) (hcode : Cond.code Lib.Math.max.name Lib.Math.max.code 2 (some .int) ∈ gT) (hframes : 1 ≤ R.frames) (hlocals : (rest.map fun v => v.category).sum + 13 ≤ R.locals) (hc : cells ≤ R.cells) (hs : slots ≤ R.slots) (hd : decode cc pc = .ok (.invokestatic idx, 3))
    (kk : W p l e R s m args below meth c H locs cells slots Q (F0 m (pc + 3) ls (.int (if x < y then y else x) :: rest))) : W p l e R s m args below meth c H locs cells slots Q (F0 m pc ls (.int y :: .int x :: rest)) := by
  obtain ⟨hx, hb, hml, hown, hts, hE, hr, -⟩ := K
  exact va_mmax hx hb (hml.trans hls.symm) hown (hts _ hlk) (hts _ hst) (hts _ hini) (hts _ hcode) hframes hlocals hc hs hd kk
theorem g_mmin {idx : Nat} {x y : Int32} (K : gK p s m args meth c G cc nL own ret) (hls : ls.size = nL) (hlk : Cond.methodLink own idx Lib.Math.min.name ∈ gT) (hst : Cond.static Lib.Math.min.name ∈ gT) (hini : Cond.initialized "java/lang/Math" ∈ gT) (hcode : Cond.code Lib.Math.min.name Lib.Math.min.code 2 (some .int) ∈ gT) (hframes : 1 ≤ R.frames) (hlocals : (rest.map fun v => v.category).sum + 13 ≤ R.locals) (hc : cells ≤ R.cells) (hs : slots ≤ R.slots) (hd : decode cc pc = .ok (.invokestatic idx, 3))
    (kk : W p l e R s m args below meth c H locs cells slots Q (F0 m (pc + 3) ls (.int (if y < x then y else x) :: rest))) : W p l e R s m args below meth c H locs cells slots Q (F0 m pc ls (.int y :: .int x :: rest)) := by
  obtain ⟨hx, hb, hml, hown, hts, hE, hr, -⟩ := K
  exact va_mmin hx hb (hml.trans hls.symm) hown (hts _ hlk) (hts _ hst) (hts _ hini) (hts _ hcode) hframes hlocals hc hs hd kk
theorem g_top {x y : Int32} (h : y = x) (k : W p l e R s m args below meth c H locs cells slots Q (F0 m pc ls (.int y :: rest))) : W p l e R s m args below meth c H locs cells slots Q (F0 m pc ls (.int x :: rest)) := by
  rw [← h]
  exact k
theorem g_topl {x y : Int64} (h : y = x) (k : W p l e R s m args below meth c H locs cells slots Q (F0 m pc ls (.long y :: rest))) : W p l e R s m args below meth c H locs cells slots Q (F0 m pc ls (.long x :: rest)) := by
  rw [← h]
  exact k
/-! returns -/
theorem g_iret {q : Int32 × gS} {v : Int32} (K : gK p s m args meth c G cc nL own (some .int)) (hS : gSt G ent o N s σ H locs) (hf : some (v, σ) = some q) (hd : decode cc pc = .ok (.ireturn, 1)) : W p l e R s m args below meth c H locs cells slots (MQ below (gQi G ent o N q) args s cells slots (gA o N)) (F0 m pc ls [.int v]) := by
  obtain ⟨hx, hb, hml, hown, hts, hE, hr, hlk⟩ := K
  obtain rfl := Option.some.inj hf
  exact W.iret hx hb hr (fun t ht hW => ⟨⟨rfl, by rw [ht]; exact hS.1⟩, hS.2.F ht⟩) hS.2.2.2 hd hlk
theorem g_zret {q : Int32 × gS} {v : Int32} (K : gK p s m args meth c G cc nL own (some .boolean)) (hS : gSt G ent o N s σ H locs) (hv : narrow .boolean (.int v) = .int v) (hf : some (v, σ) = some q) (hd : decode cc pc = .ok (.ireturn, 1)) : W p l e R s m args below meth c H locs cells slots (MQ below (gQi G ent o N q) args s cells slots (gA o N)) (F0 m pc ls [.int v]) := by
  obtain ⟨hx, hb, hml, hown, hts, hE, hr, hlk⟩ := K
  obtain rfl := Option.some.inj hf
  exact W.zret hx hb hr hv (fun t ht hW => ⟨⟨rfl, by rw [ht]; exact hS.1⟩, hS.2.F ht⟩) hS.2.2.2 hd hlk
theorem g_vret {q : gS} (K : gK p s m args meth c G cc nL own none) (hS : gSt G ent o N s σ H locs) (hf : some σ = some q) (hd : decode cc pc = .ok (.return_, 1)) : W p l e R s m args below meth c H locs cells slots (MQ below (gQv G ent o N q) args s cells slots (gA o N)) (F0 m pc ls []) := by
  obtain ⟨hx, hb, hml, hown, hts, hE, hr, hlk⟩ := K
  obtain rfl := Option.some.inj hf
  exact W.vret hx hb hr (fun t ht hW => ⟨⟨rfl, by rw [ht]; exact hS.1⟩, hS.2.F ht⟩) hS.2.2.2 hd hlk
end GR
end
section
section GC
variable {p : Program} {l : Launch} {e : Env} {R : Room} {s : State} {m : MethodId} {args : Array Value} {below : List Frame} {meth : Method} {c : Code} {H : Heap} {locs : List Loc} {cells slots : Nat} {Q : State → Prop}
variable {cc : ByteArray} {pc nL : Nat} {ls : Array Slot} {rest st0 : List Value} {G : gG} {ent : gEnt} {o N : Nat} {σ : gS} {own : String} {ret : Option FieldType}
variable {idx mL n cx ci : Nat} {y : MethodName} {C : String} {b : ByteArray} {rm : Room} {As : List Value} {fs : List Value}
/-- what a call's room must be -/
def gR (rm R : Room) (mL : Nat) : Prop := (rm.frames + 1 ≤ R.frames ∧ 8 + (mL + 11) + rm.locals ≤ R.locals) ∧ rm.cells = 0 ∧ rm.slots = 0
theorem g_after {mc ms : Nat} {g : JFrame} {Qa : State → Outcome → State → Prop} {Pq : Option Value → Heap → Prop} (hS : gSt G ent o N s σ H locs) (hr : va_Run p l e R s m args below meth c H locs cells slots 0 0 (F0 m pc ls st0) rest Qa (gA o N))
    (hq : ∀ (v : Option Value) (st t : State), st.heap = H → Qa st (.returned v) t → Pq v t.heap ∧ va_F (gA o N) st t)
    (kk : ∀ (v : Option Value) (H1 : Heap) (locs1 : List Loc), Pq v H1 → va_S (gA o N) s.heap H1 locs1 → W p l e R s m args below meth c H1 locs1 cells slots Q (F0 m (pc + 3) ls (v.toList ++ rest))) : W p l e R s m args below meth c H locs cells slots Q (F0 m pc ls st0) := by
  intro T hT X
  obtain ⟨v, st₀, t, T', L, h0, X', hL, e1, e2, hQ, st⟩ := hr T hT X
  obtain ⟨h1, hz, hk⟩ := hq v st₀ t h0 hQ
  rw [h0] at hz hk
  obtain ⟨t2, a1, b1⟩ := kk v T'.heap (locs ++ L) (by rw [e1]; exact h1) ⟨Nat.le_trans hS.2.1 (by rw [e1]; exact hz), fun q h2 h3 => by rw [e1, hk q (Nat.lt_of_lt_of_le h2 hS.2.1) h3]; exact hS.2.2.1 q h2 h3, fun q hq => by
      rcases List.mem_append.mp hq with h | h
      · exact hS.2.2.2 q h
      · exact hL q h⟩ T' rfl X'
  exact ⟨t2, st t2 a1, b1⟩
theorem g_callB (K : gK p s m args meth c G cc nL own ret) {ry : Option FieldType} (hcode : Cond.code y b mL ry ∈ gT) (hini : Cond.initialized y.cls ∈ gT) (hl : Cond.methodLink own idx y ∈ gT) (hd : y.cls ≠ "java/lang/invoke/MethodHandle" ∧ y.cls ≠ "java/lang/invoke/VarHandle" ∧ (parseMethodDescriptor y.desc).map (fun d => d.parameters.length) = some n) (hR : gR rm R mL) : CallB R s args own idx y b mL ry (gW y b mL ry) rm 0 0 n :=
  callB_of n K.2.2.2.2.1 (gW_in hcode) rfl hR.2.1 hR.2.2 (K.2.2.2.2.1 _ hini) (K.2.2.2.2.1 _ hl) hd hR.1
theorem g_preS (K : gK p s m args meth c G cc nL own ret) (hS : gSt G ent o N s σ H locs) : PreS s H (gPc G ent o N As σ) As := ⟨gPc_blind, fun U hU hW => ⟨rfl, by rw [hU]; exact hS.1, K.2.2.2.2.2.1.warm hW⟩⟩
theorem g_preV (K : gK p s m args meth c G cc nL own ret) (hS : gSt G ent o N s σ H locs) (he : ent cx (σ cx) = .inr (ci, fs)) (hc : cx < N) {T : u_T} {k : Nat} (hcl : gCls[ci]? = some (C, T, k)) : PreV s H C (o + cx) (gPc G ent o N (.ref (o + cx) :: As) σ) As := by
  refine ⟨gPc_blind, ?_, fun U hU hW => ⟨rfl, by rw [hU]; exact hS.1, K.2.2.2.2.2.1.warm hW⟩⟩
  exact va_recv (q := (C, T, k)) K.2.2.2.2.2.1.1 hS.1 hcl ((gL_get hc).trans (by rw [he]))
theorem g_runV {ry : Option FieldType} {Qc : Array Value → State → Outcome → State → Prop} (K : gK p s m args meth c G cc nL own ret) (hS : gSt G ent o N s σ H locs) (L : gMV own idx y C b mL ry n) (hM : Met l y (gW y b mL ry) rm (gPc G ent o N (.ref (o + cx) :: As) σ) Qc 0 0 (gA o N)) (he : ent cx (σ cx) = .inr (ci, fs)) (hc : cx < N) {T : u_T} {k : Nat} (hcl : gCls[ci]? = some (C, T, k)) (hn : As.length = n) (hst : st0 = As.reverse ++ .ref (o + cx) :: rest) (hw : (rest.map fun v => v.category).sum ≤ 8) (hR : gR rm R mL) (hls : ls.size = nL) (hcs : cells ≤ R.cells ∧ slots ≤ R.slots) (hd : decode cc pc = .ok (.invokevirtual idx, 3)) :
    va_Run p l e R s m args below meth c H locs cells slots 0 0 (F0 m pc ls st0) rest (Qc (Value.ref (o + cx) :: As).toArray) (gA o N) := by
  obtain ⟨h1, h2, h3, h4, h5, h6⟩ := L
  have K2 := K
  obtain ⟨hx, hb, hml, hown, hts, hE, hr, hlk⟩ := K
  exact va_runV (As := As) (rest := rest) ⟨hx, hb, hml, hown, hts⟩ hM ⟨g_callB K2 h5 h4 h1 h6 hR, hts _ h2, hts _ h3⟩ (g_preV K2 hS he hc hcl) rfl hn hls hst (lv_room (pc := pc) (ls := ls) (m := m) (rest := rest) hw) hd hcs
theorem g_runS {ry : Option FieldType} {Qc : Array Value → State → Outcome → State → Prop} (K : gK p s m args meth c G cc nL own ret) (hS : gSt G ent o N s σ H locs) (L : gMS own idx y b mL ry n) (hM : Met l y (gW y b mL ry) rm (gPc G ent o N As σ) Qc 0 0 (gA o N)) (hn : As.length = n) (hst : st0 = As.reverse ++ rest) (hw : (rest.map fun v => v.category).sum ≤ 8) (hR : gR rm R mL) (hls : ls.size = nL) (hcs : cells ≤ R.cells ∧ slots ≤ R.slots) (hd : decode cc pc = .ok (.invokestatic idx, 3)) :
    va_Run p l e R s m args below meth c H locs cells slots 0 0 (F0 m pc ls st0) rest (Qc As.toArray) (gA o N) := by
  obtain ⟨h1, h2, h4, h5, h6⟩ := L
  have K2 := K
  obtain ⟨hx, hb, hml, hown, hts, hE, hr, hlk⟩ := K
  exact va_runS (As := As) (rest := rest) ⟨hx, hb, hml, hown, hts⟩ hM ⟨g_callB K2 h5 h4 h1 h6 hR, hts _ h2⟩ (g_preS K2 hS) rfl hn hls hst (lv_room (pc := pc) (ls := ls) (m := m) (rest := rest) hw) hd hcs
theorem g_runN {ry : Option FieldType} {host : String} {Qc : Array Value → State → Outcome → State → Prop} (K : gK p s m args meth c G cc nL own ret) (hS : gSt G ent o N s σ H locs) (L : gMN own idx y host b mL ry n) (hM : Met l y (gW y b mL ry) rm (gPc G ent o N As σ) Qc 0 0 (gA o N)) (hn : As.length = n) (hst : st0 = As.reverse ++ rest) (hw : (rest.map fun v => v.category).sum ≤ 8) (hR : gR rm R mL) (hls : ls.size = nL) (hcs : cells ≤ R.cells ∧ slots ≤ R.slots) (hd : decode cc pc = .ok (.invokestatic idx, 3)) :
    va_Run p l e R s m args below meth c H locs cells slots 0 0 (F0 m pc ls st0) rest (Qc As.toArray) (gA o N) := by
  obtain ⟨h1, h2, h4, h5, h6⟩ := L
  have K2 := K
  obtain ⟨hx, hb, hml, hown, hts, hE, hr, hlk⟩ := K
  exact va_runSN (As := As) (rest := rest) ⟨hx, hb, hml, hown, hts⟩ hM ⟨va_cnB n hts (gW_in h5) rfl hR.2.1 hR.2.2 (hE.2 _ h1) (hts _ h4) h6 hR.1, hts _ h2, trivial⟩ (g_preS K2 hS) rfl hn hls hst (lv_room (pc := pc) (ls := ls) (m := m) (rest := rest) hw) hd hcs
/-- behind a call whose answer is an int, and behind one without -/
theorem g_goi {a : Array Value} {q : Int32 × gS} (hS : gSt G ent o N s σ H locs) (hr : va_Run p l e R s m args below meth c H locs cells slots 0 0 (F0 m pc ls st0) rest (gQi G ent o N q a) (gA o N))
    (kk : ∀ (H1 : Heap) (locs1 : List Loc), gSt G ent o N s q.2 H1 locs1 → W p l e R s m args below meth c H1 locs1 cells slots Q (F0 m (pc + 3) ls (.int q.1 :: rest))) : W p l e R s m args below meth c H locs cells slots Q (F0 m pc ls st0) := by
  refine g_after (g := F0 m pc ls st0) (mc := 0) (ms := 0) (Pq := fun v H => v = some (.int q.1) ∧ gP G ent o N q.2 H) hS hr (fun v st t h0 h => ⟨⟨Outcome.returned.inj h.1.1, h.1.2⟩, h.2⟩) (fun v H1 locs1 h hs => ?_)
  obtain ⟨rfl, h2⟩ := h
  exact kk H1 locs1 ⟨h2, hs⟩
theorem g_gov {a : Array Value} {q : gS} (hS : gSt G ent o N s σ H locs) (hr : va_Run p l e R s m args below meth c H locs cells slots 0 0 (F0 m pc ls st0) rest (gQv G ent o N q a) (gA o N))
    (kk : ∀ (H1 : Heap) (locs1 : List Loc), gSt G ent o N s q H1 locs1 → W p l e R s m args below meth c H1 locs1 cells slots Q (F0 m (pc + 3) ls rest)) : W p l e R s m args below meth c H locs cells slots Q (F0 m pc ls st0) := by
  refine g_after (g := F0 m pc ls st0) (mc := 0) (ms := 0) (Pq := fun v H => v = none ∧ gP G ent o N q H) hS hr (fun v st t h0 h => ⟨⟨Outcome.returned.inj h.1.1, h.1.2⟩, h.2⟩) (fun v H1 locs1 h hs => ?_)
  obtain ⟨rfl, h2⟩ := h
  exact kk H1 locs1 ⟨h2, hs⟩
theorem g_Vi {q : Int32 × gS} {ry : Option FieldType} (K : gK p s m args meth c G cc nL own ret) (hS : gSt G ent o N s σ H locs) (L : gMV own idx y C b mL ry n) (hM : Met l y (gW y b mL ry) rm (gPc G ent o N (.ref (o + cx) :: As) σ) (gQi G ent o N q) 0 0 (gA o N)) (he : ent cx (σ cx) = .inr (ci, fs)) (hc : cx < N) {T : u_T} {k : Nat} (hcl : gCls[ci]? = some (C, T, k)) (hn : As.length = n) (hst : st0 = As.reverse ++ .ref (o + cx) :: rest) (hw : (rest.map fun v => v.category).sum ≤ 8) (hR : gR rm R mL) (hls : ls.size = nL) (hcs : cells ≤ R.cells ∧ slots ≤ R.slots) (hd : decode cc pc = .ok (.invokevirtual idx, 3))
    (kk : ∀ (H1 : Heap) (locs1 : List Loc), gSt G ent o N s q.2 H1 locs1 → W p l e R s m args below meth c H1 locs1 cells slots Q (F0 m (pc + 3) ls (.int q.1 :: rest))) : W p l e R s m args below meth c H locs cells slots Q (F0 m pc ls st0) :=
  g_goi hS (g_runV K hS L hM he hc hcl hn hst hw hR hls hcs hd) kk
theorem g_Vv {q : gS} {ry : Option FieldType} (K : gK p s m args meth c G cc nL own ret) (hS : gSt G ent o N s σ H locs) (L : gMV own idx y C b mL ry n) (hM : Met l y (gW y b mL ry) rm (gPc G ent o N (.ref (o + cx) :: As) σ) (gQv G ent o N q) 0 0 (gA o N)) (he : ent cx (σ cx) = .inr (ci, fs)) (hc : cx < N) {T : u_T} {k : Nat} (hcl : gCls[ci]? = some (C, T, k)) (hn : As.length = n) (hst : st0 = As.reverse ++ .ref (o + cx) :: rest) (hw : (rest.map fun v => v.category).sum ≤ 8) (hR : gR rm R mL) (hls : ls.size = nL) (hcs : cells ≤ R.cells ∧ slots ≤ R.slots) (hd : decode cc pc = .ok (.invokevirtual idx, 3))
    (kk : ∀ (H1 : Heap) (locs1 : List Loc), gSt G ent o N s q H1 locs1 → W p l e R s m args below meth c H1 locs1 cells slots Q (F0 m (pc + 3) ls rest)) : W p l e R s m args below meth c H locs cells slots Q (F0 m pc ls st0) :=
  g_gov hS (g_runV K hS L hM he hc hcl hn hst hw hR hls hcs hd) kk
theorem g_Si {q : Int32 × gS} {ry : Option FieldType} (K : gK p s m args meth c G cc nL own ret) (hS : gSt G ent o N s σ H locs) (L : gMS own idx y b mL ry n) (hM : Met l y (gW y b mL ry) rm (gPc G ent o N As σ) (gQi G ent o N q) 0 0 (gA o N)) (hn : As.length = n) (hst : st0 = As.reverse ++ rest) (hw : (rest.map fun v => v.category).sum ≤ 8) (hR : gR rm R mL) (hls : ls.size = nL) (hcs : cells ≤ R.cells ∧ slots ≤ R.slots) (hd : decode cc pc = .ok (.invokestatic idx, 3))
    (kk : ∀ (H1 : Heap) (locs1 : List Loc), gSt G ent o N s q.2 H1 locs1 → W p l e R s m args below meth c H1 locs1 cells slots Q (F0 m (pc + 3) ls (.int q.1 :: rest))) : W p l e R s m args below meth c H locs cells slots Q (F0 m pc ls st0) :=
  g_goi hS (g_runS K hS L hM hn hst hw hR hls hcs hd) kk
theorem g_Ni {q : Int32 × gS} {host : String} {ry : Option FieldType} (K : gK p s m args meth c G cc nL own ret) (hS : gSt G ent o N s σ H locs) (L : gMN own idx y host b mL ry n) (hM : Met l y (gW y b mL ry) rm (gPc G ent o N As σ) (gQi G ent o N q) 0 0 (gA o N)) (hn : As.length = n) (hst : st0 = As.reverse ++ rest) (hw : (rest.map fun v => v.category).sum ≤ 8) (hR : gR rm R mL) (hls : ls.size = nL) (hcs : cells ≤ R.cells ∧ slots ≤ R.slots) (hd : decode cc pc = .ok (.invokestatic idx, 3))
    (kk : ∀ (H1 : Heap) (locs1 : List Loc), gSt G ent o N s q.2 H1 locs1 → W p l e R s m args below meth c H1 locs1 cells slots Q (F0 m (pc + 3) ls (.int q.1 :: rest))) : W p l e R s m args below meth c H locs cells slots Q (F0 m pc ls st0) :=
  g_goi hS (g_runN K hS L hM hn hst hw hR hls hcs hd) kk
/-- a method's contract out of a walk of its body -/
theorem g_met {av : List Value} {Qc : Array Value → State → Outcome → State → Prop} {ry : Option FieldType} (hy : plainName y.cls = true) (hrm : rm.cells = 0 ∧ rm.slots = 0)
    (body : ∀ (p : Program) (e : Env) (s : State) (m : MethodId) (args : Array Value) (below : List Frame) (meth : Method) (c : Code) (ls : Array Slot), gK p s m args meth c G b mL y.cls ry → gSt G ent o N s σ s.heap [] → lv_has ls mL (lv_args 0 av) → W p l e rm s m args below meth c s.heap [] 0 0 (MQ below Qc args s 0 0 (gA o N)) (F0 m 0 ls []))
    (hav : (lg_sl av).length ≤ mL) : Met l y (gW y b mL ry) rm (gPc G ent o N av σ) Qc 0 0 (gA o N) := by
  refine Met.ofW (cc := b) (maxL := mL) (ret := ry) hy rfl ?_
  intro p e s m args below meth c s₁ B hml hv
  obtain ⟨rfl, hP, hE⟩ := hv
  have hts := atoms_spec (ws := gW y b mL ry) B.pre
  have hown : s.vm.findClass y.cls = some m.cls := findClass_of_methodNamed B.named
  have K : gK p s m av.toArray meth c G b mL y.cls ry := ⟨B.exec, B.bytes, hml, hown, fun w hw => hts w (List.mem_cons_of_mem _ hw), hE, B.returns, B.notSynchronized⟩
  have hl := lv_entry av hav
  rw [lg_entry_eq]
  exact body p e s m _ below meth c _ K ⟨hP, va_S.rf⟩ hl
end GC
end
