-- ===== PART A: goes FIRST, ahead of the names: the tables' words, and 'selects' of the private methods out of them =====
/-- a private method of a class that the tables say can be made, by its rows of tables_1 -/
def lw_okq (q : MethodName × Nat) : Prop := (q.1.cls ≠ "java/lang/invoke/MethodHandle" ∧ q.1.cls ≠ "java/lang/invoke/VarHandle") ∧ Cond.instantiable q.1.cls q.2 ∈ tables_1 ∧ Cond.privateMethod q.1 ∈ tables_1 ∧ Cond.instanceMethod q.1 ∈ tables_1
theorem lw_p0 : lw_okq (⟨"CarbonMinistry", "refuse", "(I)I"⟩, 14) := ⟨⟨by decide +kernel, by decide +kernel⟩, List.mem_of_getElem? (i := 22) (by decide +kernel), List.mem_of_getElem? (i := 523) (by decide +kernel), List.mem_of_getElem? (i := 524) (by decide +kernel)⟩
theorem lw_p1 : lw_okq (⟨"CarbonMinistry", "refused", "(I)Z"⟩, 14) := ⟨⟨by decide +kernel, by decide +kernel⟩, List.mem_of_getElem? (i := 22) (by decide +kernel), List.mem_of_getElem? (i := 535) (by decide +kernel), List.mem_of_getElem? (i := 536) (by decide +kernel)⟩
theorem lw_p2 : lw_okq (⟨"CarbonMinistry$Text", "endOfWord", "(I)I"⟩, 10) := ⟨⟨by decide +kernel, by decide +kernel⟩, List.mem_of_getElem? (i := 30) (by decide +kernel), List.mem_of_getElem? (i := 559) (by decide +kernel), List.mem_of_getElem? (i := 560) (by decide +kernel)⟩
theorem lw_p3 : lw_okq (⟨"CarbonMinistry$Text", "wordOf", "(II)I"⟩, 10) := ⟨⟨by decide +kernel, by decide +kernel⟩, List.mem_of_getElem? (i := 30) (by decide +kernel), List.mem_of_getElem? (i := 563) (by decide +kernel), List.mem_of_getElem? (i := 564) (by decide +kernel)⟩
theorem lw_p4 : lw_okq (⟨"CarbonMinistry$Text", "addItem", "(III)V"⟩, 10) := ⟨⟨by decide +kernel, by decide +kernel⟩, List.mem_of_getElem? (i := 30) (by decide +kernel), List.mem_of_getElem? (i := 616) (by decide +kernel), List.mem_of_getElem? (i := 617) (by decide +kernel)⟩
theorem lw_p5 : lw_okq (⟨"CarbonMinistry$Text", "endOfNumber", "(I)I"⟩, 10) := ⟨⟨by decide +kernel, by decide +kernel⟩, List.mem_of_getElem? (i := 30) (by decide +kernel), List.mem_of_getElem? (i := 623) (by decide +kernel), List.mem_of_getElem? (i := 624) (by decide +kernel)⟩
theorem lw_p6 : lw_okq (⟨"CarbonMinistry$Clerk", "readStatement", "()Z"⟩, 4) := ⟨⟨by decide +kernel, by decide +kernel⟩, List.mem_of_getElem? (i := 228) (by decide +kernel), List.mem_of_getElem? (i := 634) (by decide +kernel), List.mem_of_getElem? (i := 635) (by decide +kernel)⟩
theorem lw_p7 : lw_okq (⟨"CarbonMinistry$Clerk", "readOfficer", "()Z"⟩, 4) := ⟨⟨by decide +kernel, by decide +kernel⟩, List.mem_of_getElem? (i := 228) (by decide +kernel), List.mem_of_getElem? (i := 638) (by decide +kernel), List.mem_of_getElem? (i := 639) (by decide +kernel)⟩
theorem lw_p8 : lw_okq (⟨"CarbonMinistry$Clerk", "takeKind", "(II)Z"⟩, 4) := ⟨⟨by decide +kernel, by decide +kernel⟩, List.mem_of_getElem? (i := 228) (by decide +kernel), List.mem_of_getElem? (i := 642) (by decide +kernel), List.mem_of_getElem? (i := 643) (by decide +kernel)⟩
theorem lw_p9 : lw_okq (⟨"CarbonMinistry$Clerk", "takeNewName", "()I"⟩, 4) := ⟨⟨by decide +kernel, by decide +kernel⟩, List.mem_of_getElem? (i := 228) (by decide +kernel), List.mem_of_getElem? (i := 651) (by decide +kernel), List.mem_of_getElem? (i := 652) (by decide +kernel)⟩
theorem lw_p10 : lw_okq (⟨"CarbonMinistry$Clerk", "readFeeling", "()Z"⟩, 4) := ⟨⟨by decide +kernel, by decide +kernel⟩, List.mem_of_getElem? (i := 228) (by decide +kernel), List.mem_of_getElem? (i := 675) (by decide +kernel), List.mem_of_getElem? (i := 676) (by decide +kernel)⟩
theorem lw_p11 : lw_okq (⟨"CarbonMinistry$Clerk", "readCarbon", "()Z"⟩, 4) := ⟨⟨by decide +kernel, by decide +kernel⟩, List.mem_of_getElem? (i := 228) (by decide +kernel), List.mem_of_getElem? (i := 679) (by decide +kernel), List.mem_of_getElem? (i := 680) (by decide +kernel)⟩
theorem lw_p12 : lw_okq (⟨"CarbonMinistry$Clerk", "nameAmong", "([II)I"⟩, 4) := ⟨⟨by decide +kernel, by decide +kernel⟩, List.mem_of_getElem? (i := 228) (by decide +kernel), List.mem_of_getElem? (i := 683) (by decide +kernel), List.mem_of_getElem? (i := 684) (by decide +kernel)⟩
theorem lw_p13 : lw_okq (⟨"CarbonMinistry$Clerk", "readFelt", "()Z"⟩, 4) := ⟨⟨by decide +kernel, by decide +kernel⟩, List.mem_of_getElem? (i := 228) (by decide +kernel), List.mem_of_getElem? (i := 687) (by decide +kernel), List.mem_of_getElem? (i := 688) (by decide +kernel)⟩
theorem lw_p14 : lw_okq (⟨"CarbonMinistry$Clerk", "readLaw", "(I)Z"⟩, 4) := ⟨⟨by decide +kernel, by decide +kernel⟩, List.mem_of_getElem? (i := 228) (by decide +kernel), List.mem_of_getElem? (i := 697) (by decide +kernel), List.mem_of_getElem? (i := 698) (by decide +kernel)⟩
theorem lw_p15 : lw_okq (⟨"CarbonMinistry$Grammar", "readTest", "(I)Z"⟩, 4) := ⟨⟨by decide +kernel, by decide +kernel⟩, List.mem_of_getElem? (i := 234) (by decide +kernel), List.mem_of_getElem? (i := 706) (by decide +kernel), List.mem_of_getElem? (i := 707) (by decide +kernel)⟩
def lw_privs_1 : List (MethodName × Nat) := [(⟨"CarbonMinistry", "refuse", "(I)I"⟩, 14), (⟨"CarbonMinistry", "refused", "(I)Z"⟩, 14), (⟨"CarbonMinistry$Text", "endOfWord", "(I)I"⟩, 10), (⟨"CarbonMinistry$Text", "wordOf", "(II)I"⟩, 10), (⟨"CarbonMinistry$Text", "addItem", "(III)V"⟩, 10), (⟨"CarbonMinistry$Text", "endOfNumber", "(I)I"⟩, 10), (⟨"CarbonMinistry$Clerk", "readStatement", "()Z"⟩, 4), (⟨"CarbonMinistry$Clerk", "readOfficer", "()Z"⟩, 4), (⟨"CarbonMinistry$Clerk", "takeKind", "(II)Z"⟩, 4), (⟨"CarbonMinistry$Clerk", "takeNewName", "()I"⟩, 4), (⟨"CarbonMinistry$Clerk", "readFeeling", "()Z"⟩, 4), (⟨"CarbonMinistry$Clerk", "readCarbon", "()Z"⟩, 4), (⟨"CarbonMinistry$Clerk", "nameAmong", "([II)I"⟩, 4), (⟨"CarbonMinistry$Clerk", "readFelt", "()Z"⟩, 4), (⟨"CarbonMinistry$Clerk", "readLaw", "(I)Z"⟩, 4), (⟨"CarbonMinistry$Grammar", "readTest", "(I)Z"⟩, 4)]
theorem lw_r1 : ∀ q ∈ lw_privs_1, lw_okq q := List.forall_mem_cons.mpr ⟨lw_p0, List.forall_mem_cons.mpr ⟨lw_p1, List.forall_mem_cons.mpr ⟨lw_p2, List.forall_mem_cons.mpr ⟨lw_p3, List.forall_mem_cons.mpr ⟨lw_p4, List.forall_mem_cons.mpr ⟨lw_p5, List.forall_mem_cons.mpr ⟨lw_p6, List.forall_mem_cons.mpr ⟨lw_p7, List.forall_mem_cons.mpr ⟨lw_p8, List.forall_mem_cons.mpr ⟨lw_p9, List.forall_mem_cons.mpr ⟨lw_p10, List.forall_mem_cons.mpr ⟨lw_p11, List.forall_mem_cons.mpr ⟨lw_p12, List.forall_mem_cons.mpr ⟨lw_p13, List.forall_mem_cons.mpr ⟨lw_p14, List.forall_mem_cons.mpr ⟨lw_p15, fun _ h => absurd h List.not_mem_nil⟩⟩⟩⟩⟩⟩⟩⟩⟩⟩⟩⟩⟩⟩⟩⟩
theorem lw_p16 : lw_okq (⟨"CarbonMinistry$Grammar", "readBoth", "(I)Z"⟩, 4) := ⟨⟨by decide +kernel, by decide +kernel⟩, List.mem_of_getElem? (i := 234) (by decide +kernel), List.mem_of_getElem? (i := 710) (by decide +kernel), List.mem_of_getElem? (i := 711) (by decide +kernel)⟩
theorem lw_p17 : lw_okq (⟨"CarbonMinistry$Grammar", "readFact", "(I)Z"⟩, 4) := ⟨⟨by decide +kernel, by decide +kernel⟩, List.mem_of_getElem? (i := 234) (by decide +kernel), List.mem_of_getElem? (i := 714) (by decide +kernel), List.mem_of_getElem? (i := 715) (by decide +kernel)⟩
theorem lw_p18 : lw_okq (⟨"CarbonMinistry$Grammar", "readSum", "(I)Z"⟩, 4) := ⟨⟨by decide +kernel, by decide +kernel⟩, List.mem_of_getElem? (i := 234) (by decide +kernel), List.mem_of_getElem? (i := 733) (by decide +kernel), List.mem_of_getElem? (i := 734) (by decide +kernel)⟩
theorem lw_p19 : lw_okq (⟨"CarbonMinistry$Grammar", "readProduct", "(I)Z"⟩, 4) := ⟨⟨by decide +kernel, by decide +kernel⟩, List.mem_of_getElem? (i := 234) (by decide +kernel), List.mem_of_getElem? (i := 737) (by decide +kernel), List.mem_of_getElem? (i := 738) (by decide +kernel)⟩
theorem lw_p20 : lw_okq (⟨"CarbonMinistry$Grammar", "readPart", "(I)Z"⟩, 4) := ⟨⟨by decide +kernel, by decide +kernel⟩, List.mem_of_getElem? (i := 234) (by decide +kernel), List.mem_of_getElem? (i := 741) (by decide +kernel), List.mem_of_getElem? (i := 742) (by decide +kernel)⟩
theorem lw_p21 : lw_okq (⟨"CarbonMinistry$Grammar", "readPair", "(II)Z"⟩, 4) := ⟨⟨by decide +kernel, by decide +kernel⟩, List.mem_of_getElem? (i := 234) (by decide +kernel), List.mem_of_getElem? (i := 746) (by decide +kernel), List.mem_of_getElem? (i := 747) (by decide +kernel)⟩
theorem lw_p22 : lw_okq (⟨"CarbonMinistry$Grammar", "readOf", "(II)Z"⟩, 4) := ⟨⟨by decide +kernel, by decide +kernel⟩, List.mem_of_getElem? (i := 234) (by decide +kernel), List.mem_of_getElem? (i := 751) (by decide +kernel), List.mem_of_getElem? (i := 752) (by decide +kernel)⟩
theorem lw_p23 : lw_okq (⟨"CarbonMinistry$Grammar", "valueHere", "()I"⟩, 4) := ⟨⟨by decide +kernel, by decide +kernel⟩, List.mem_of_getElem? (i := 234) (by decide +kernel), List.mem_of_getElem? (i := 755) (by decide +kernel), List.mem_of_getElem? (i := 756) (by decide +kernel)⟩
theorem lw_p24 : lw_okq (⟨"CarbonMinistry$Clerk", "readSlip", "()Z"⟩, 4) := ⟨⟨by decide +kernel, by decide +kernel⟩, List.mem_of_getElem? (i := 228) (by decide +kernel), List.mem_of_getElem? (i := 761) (by decide +kernel), List.mem_of_getElem? (i := 762) (by decide +kernel)⟩
theorem lw_p25 : lw_okq (⟨"CarbonMinistry", "allStrengths", "()I"⟩, 14) := ⟨⟨by decide +kernel, by decide +kernel⟩, List.mem_of_getElem? (i := 22) (by decide +kernel), List.mem_of_getElem? (i := 805) (by decide +kernel), List.mem_of_getElem? (i := 806) (by decide +kernel)⟩
theorem lw_p26 : lw_okq (⟨"CarbonMinistry", "isOfficer", "(I)Z"⟩, 14) := ⟨⟨by decide +kernel, by decide +kernel⟩, List.mem_of_getElem? (i := 22) (by decide +kernel), List.mem_of_getElem? (i := 825) (by decide +kernel), List.mem_of_getElem? (i := 826) (by decide +kernel)⟩
theorem lw_p27 : lw_okq (⟨"CarbonMinistry", "isFeeling", "(I)Z"⟩, 14) := ⟨⟨by decide +kernel, by decide +kernel⟩, List.mem_of_getElem? (i := 22) (by decide +kernel), List.mem_of_getElem? (i := 829) (by decide +kernel), List.mem_of_getElem? (i := 830) (by decide +kernel)⟩
theorem lw_p28 : lw_okq (⟨"CarbonMinistry$Roads", "countFrom", "(II)I"⟩, 8) := ⟨⟨by decide +kernel, by decide +kernel⟩, List.mem_of_getElem? (i := 356) (by decide +kernel), List.mem_of_getElem? (i := 841) (by decide +kernel), List.mem_of_getElem? (i := 842) (by decide +kernel)⟩
theorem lw_p29 : lw_okq (⟨"CarbonMinistry$Roads", "isIn", "(I)Z"⟩, 8) := ⟨⟨by decide +kernel, by decide +kernel⟩, List.mem_of_getElem? (i := 356) (by decide +kernel), List.mem_of_getElem? (i := 845) (by decide +kernel), List.mem_of_getElem? (i := 846) (by decide +kernel)⟩
theorem lw_p30 : lw_okq (⟨"CarbonMinistry", "isCarbon", "(I)Z"⟩, 14) := ⟨⟨by decide +kernel, by decide +kernel⟩, List.mem_of_getElem? (i := 22) (by decide +kernel), List.mem_of_getElem? (i := 861) (by decide +kernel), List.mem_of_getElem? (i := 862) (by decide +kernel)⟩
theorem lw_p31 : lw_okq (⟨"CarbonMinistry$Code", "ofOne", "(II)I"⟩, 6) := ⟨⟨by decide +kernel, by decide +kernel⟩, List.mem_of_getElem? (i := 82) (by decide +kernel), List.mem_of_getElem? (i := 899) (by decide +kernel), List.mem_of_getElem? (i := 900) (by decide +kernel)⟩
def lw_privs_2 : List (MethodName × Nat) := [(⟨"CarbonMinistry$Grammar", "readBoth", "(I)Z"⟩, 4), (⟨"CarbonMinistry$Grammar", "readFact", "(I)Z"⟩, 4), (⟨"CarbonMinistry$Grammar", "readSum", "(I)Z"⟩, 4), (⟨"CarbonMinistry$Grammar", "readProduct", "(I)Z"⟩, 4), (⟨"CarbonMinistry$Grammar", "readPart", "(I)Z"⟩, 4), (⟨"CarbonMinistry$Grammar", "readPair", "(II)Z"⟩, 4), (⟨"CarbonMinistry$Grammar", "readOf", "(II)Z"⟩, 4), (⟨"CarbonMinistry$Grammar", "valueHere", "()I"⟩, 4), (⟨"CarbonMinistry$Clerk", "readSlip", "()Z"⟩, 4), (⟨"CarbonMinistry", "allStrengths", "()I"⟩, 14), (⟨"CarbonMinistry", "isOfficer", "(I)Z"⟩, 14), (⟨"CarbonMinistry", "isFeeling", "(I)Z"⟩, 14), (⟨"CarbonMinistry$Roads", "countFrom", "(II)I"⟩, 8), (⟨"CarbonMinistry$Roads", "isIn", "(I)Z"⟩, 8), (⟨"CarbonMinistry", "isCarbon", "(I)Z"⟩, 14), (⟨"CarbonMinistry$Code", "ofOne", "(II)I"⟩, 6)]
theorem lw_r2 : ∀ q ∈ lw_privs_2, lw_okq q := List.forall_mem_cons.mpr ⟨lw_p16, List.forall_mem_cons.mpr ⟨lw_p17, List.forall_mem_cons.mpr ⟨lw_p18, List.forall_mem_cons.mpr ⟨lw_p19, List.forall_mem_cons.mpr ⟨lw_p20, List.forall_mem_cons.mpr ⟨lw_p21, List.forall_mem_cons.mpr ⟨lw_p22, List.forall_mem_cons.mpr ⟨lw_p23, List.forall_mem_cons.mpr ⟨lw_p24, List.forall_mem_cons.mpr ⟨lw_p25, List.forall_mem_cons.mpr ⟨lw_p26, List.forall_mem_cons.mpr ⟨lw_p27, List.forall_mem_cons.mpr ⟨lw_p28, List.forall_mem_cons.mpr ⟨lw_p29, List.forall_mem_cons.mpr ⟨lw_p30, List.forall_mem_cons.mpr ⟨lw_p31, fun _ h => absurd h List.not_mem_nil⟩⟩⟩⟩⟩⟩⟩⟩⟩⟩⟩⟩⟩⟩⟩⟩
theorem lw_p32 : lw_okq (⟨"CarbonMinistry", "comes", "(II)Z"⟩, 14) := ⟨⟨by decide +kernel, by decide +kernel⟩, List.mem_of_getElem? (i := 22) (by decide +kernel), List.mem_of_getElem? (i := 934) (by decide +kernel), List.mem_of_getElem? (i := 935) (by decide +kernel)⟩
theorem lw_p33 : lw_okq (⟨"CarbonMinistry", "flowAhead", "(I)V"⟩, 14) := ⟨⟨by decide +kernel, by decide +kernel⟩, List.mem_of_getElem? (i := 22) (by decide +kernel), List.mem_of_getElem? (i := 938) (by decide +kernel), List.mem_of_getElem? (i := 939) (by decide +kernel)⟩
theorem lw_p34 : lw_okq (⟨"CarbonMinistry$Engine", "faded", "(II)I"⟩, 6) := ⟨⟨by decide +kernel, by decide +kernel⟩, List.mem_of_getElem? (i := 307) (by decide +kernel), List.mem_of_getElem? (i := 956) (by decide +kernel), List.mem_of_getElem? (i := 957) (by decide +kernel)⟩
theorem lw_p35 : lw_okq (⟨"CarbonMinistry$Engine", "setOfficer", "(III)V"⟩, 6) := ⟨⟨by decide +kernel, by decide +kernel⟩, List.mem_of_getElem? (i := 307) (by decide +kernel), List.mem_of_getElem? (i := 960) (by decide +kernel), List.mem_of_getElem? (i := 961) (by decide +kernel)⟩
theorem lw_p36 : lw_okq (⟨"CarbonMinistry$Engine", "actsOn", "(IIII)Z"⟩, 6) := ⟨⟨by decide +kernel, by decide +kernel⟩, List.mem_of_getElem? (i := 307) (by decide +kernel), List.mem_of_getElem? (i := 984) (by decide +kernel), List.mem_of_getElem? (i := 985) (by decide +kernel)⟩
theorem lw_p37 : lw_okq (⟨"CarbonMinistry$Roads", "carbonsNear", "(II)I"⟩, 8) := ⟨⟨by decide +kernel, by decide +kernel⟩, List.mem_of_getElem? (i := 356) (by decide +kernel), List.mem_of_getElem? (i := 1000) (by decide +kernel), List.mem_of_getElem? (i := 1001) (by decide +kernel)⟩
theorem lw_p38 : lw_okq (⟨"CarbonMinistry$Roads", "gather", "(IIJ)V"⟩, 8) := ⟨⟨by decide +kernel, by decide +kernel⟩, List.mem_of_getElem? (i := 356) (by decide +kernel), List.mem_of_getElem? (i := 1005) (by decide +kernel), List.mem_of_getElem? (i := 1006) (by decide +kernel)⟩
theorem lw_p39 : lw_okq (⟨"CarbonMinistry$Roads", "pass", "(I)V"⟩, 8) := ⟨⟨by decide +kernel, by decide +kernel⟩, List.mem_of_getElem? (i := 356) (by decide +kernel), List.mem_of_getElem? (i := 1012) (by decide +kernel), List.mem_of_getElem? (i := 1013) (by decide +kernel)⟩
theorem lw_p40 : lw_okq (⟨"CarbonMinistry$Roads", "findRow", "(II)Z"⟩, 8) := ⟨⟨by decide +kernel, by decide +kernel⟩, List.mem_of_getElem? (i := 356) (by decide +kernel), List.mem_of_getElem? (i := 1036) (by decide +kernel), List.mem_of_getElem? (i := 1037) (by decide +kernel)⟩
theorem lw_p41 : lw_okq (⟨"CarbonMinistry$Roads", "addRow", "(II)V"⟩, 8) := ⟨⟨by decide +kernel, by decide +kernel⟩, List.mem_of_getElem? (i := 356) (by decide +kernel), List.mem_of_getElem? (i := 1040) (by decide +kernel), List.mem_of_getElem? (i := 1041) (by decide +kernel)⟩
theorem lw_p42 : lw_okq (⟨"CarbonMinistry$Finder", "lastRowDay", "()I"⟩, 15) := ⟨⟨by decide +kernel, by decide +kernel⟩, List.mem_of_getElem? (i := 389) (by decide +kernel), List.mem_of_getElem? (i := 1062) (by decide +kernel), List.mem_of_getElem? (i := 1063) (by decide +kernel)⟩
theorem lw_p43 : lw_okq (⟨"CarbonMinistry$Finder", "begin", "()V"⟩, 15) := ⟨⟨by decide +kernel, by decide +kernel⟩, List.mem_of_getElem? (i := 389) (by decide +kernel), List.mem_of_getElem? (i := 1067) (by decide +kernel), List.mem_of_getElem? (i := 1068) (by decide +kernel)⟩
theorem lw_p44 : lw_okq (⟨"CarbonMinistry$Finder", "pass", "(I)V"⟩, 15) := ⟨⟨by decide +kernel, by decide +kernel⟩, List.mem_of_getElem? (i := 389) (by decide +kernel), List.mem_of_getElem? (i := 1072) (by decide +kernel), List.mem_of_getElem? (i := 1073) (by decide +kernel)⟩
theorem lw_p45 : lw_okq (⟨"CarbonMinistry$Finder", "sift", "(I)V"⟩, 15) := ⟨⟨by decide +kernel, by decide +kernel⟩, List.mem_of_getElem? (i := 389) (by decide +kernel), List.mem_of_getElem? (i := 1078) (by decide +kernel), List.mem_of_getElem? (i := 1079) (by decide +kernel)⟩
theorem lw_p46 : lw_okq (⟨"CarbonMinistry$Finder", "fits", "(IJ)Z"⟩, 15) := ⟨⟨by decide +kernel, by decide +kernel⟩, List.mem_of_getElem? (i := 389) (by decide +kernel), List.mem_of_getElem? (i := 1082) (by decide +kernel), List.mem_of_getElem? (i := 1083) (by decide +kernel)⟩
theorem lw_p47 : lw_okq (⟨"CarbonMinistry$Finder", "weighDay", "(I)V"⟩, 15) := ⟨⟨by decide +kernel, by decide +kernel⟩, List.mem_of_getElem? (i := 389) (by decide +kernel), List.mem_of_getElem? (i := 1095) (by decide +kernel), List.mem_of_getElem? (i := 1096) (by decide +kernel)⟩
def lw_privs_3 : List (MethodName × Nat) := [(⟨"CarbonMinistry", "comes", "(II)Z"⟩, 14), (⟨"CarbonMinistry", "flowAhead", "(I)V"⟩, 14), (⟨"CarbonMinistry$Engine", "faded", "(II)I"⟩, 6), (⟨"CarbonMinistry$Engine", "setOfficer", "(III)V"⟩, 6), (⟨"CarbonMinistry$Engine", "actsOn", "(IIII)Z"⟩, 6), (⟨"CarbonMinistry$Roads", "carbonsNear", "(II)I"⟩, 8), (⟨"CarbonMinistry$Roads", "gather", "(IIJ)V"⟩, 8), (⟨"CarbonMinistry$Roads", "pass", "(I)V"⟩, 8), (⟨"CarbonMinistry$Roads", "findRow", "(II)Z"⟩, 8), (⟨"CarbonMinistry$Roads", "addRow", "(II)V"⟩, 8), (⟨"CarbonMinistry$Finder", "lastRowDay", "()I"⟩, 15), (⟨"CarbonMinistry$Finder", "begin", "()V"⟩, 15), (⟨"CarbonMinistry$Finder", "pass", "(I)V"⟩, 15), (⟨"CarbonMinistry$Finder", "sift", "(I)V"⟩, 15), (⟨"CarbonMinistry$Finder", "fits", "(IJ)Z"⟩, 15), (⟨"CarbonMinistry$Finder", "weighDay", "(I)V"⟩, 15)]
theorem lw_r3 : ∀ q ∈ lw_privs_3, lw_okq q := List.forall_mem_cons.mpr ⟨lw_p32, List.forall_mem_cons.mpr ⟨lw_p33, List.forall_mem_cons.mpr ⟨lw_p34, List.forall_mem_cons.mpr ⟨lw_p35, List.forall_mem_cons.mpr ⟨lw_p36, List.forall_mem_cons.mpr ⟨lw_p37, List.forall_mem_cons.mpr ⟨lw_p38, List.forall_mem_cons.mpr ⟨lw_p39, List.forall_mem_cons.mpr ⟨lw_p40, List.forall_mem_cons.mpr ⟨lw_p41, List.forall_mem_cons.mpr ⟨lw_p42, List.forall_mem_cons.mpr ⟨lw_p43, List.forall_mem_cons.mpr ⟨lw_p44, List.forall_mem_cons.mpr ⟨lw_p45, List.forall_mem_cons.mpr ⟨lw_p46, List.forall_mem_cons.mpr ⟨lw_p47, fun _ h => absurd h List.not_mem_nil⟩⟩⟩⟩⟩⟩⟩⟩⟩⟩⟩⟩⟩⟩⟩⟩
theorem lw_p48 : lw_okq (⟨"CarbonMinistry$Finder", "mostLeft", "(I)I"⟩, 15) := ⟨⟨by decide +kernel, by decide +kernel⟩, List.mem_of_getElem? (i := 389) (by decide +kernel), List.mem_of_getElem? (i := 1099) (by decide +kernel), List.mem_of_getElem? (i := 1100) (by decide +kernel)⟩
theorem lw_p49 : lw_okq (⟨"CarbonMinistry", "beginAct", "()V"⟩, 14) := ⟨⟨by decide +kernel, by decide +kernel⟩, List.mem_of_getElem? (i := 22) (by decide +kernel), List.mem_of_getElem? (i := 1107) (by decide +kernel), List.mem_of_getElem? (i := 1108) (by decide +kernel)⟩
theorem lw_p50 : lw_okq (⟨"CarbonMinistry", "slipsNow", "()Z"⟩, 14) := ⟨⟨by decide +kernel, by decide +kernel⟩, List.mem_of_getElem? (i := 22) (by decide +kernel), List.mem_of_getElem? (i := 1143) (by decide +kernel), List.mem_of_getElem? (i := 1144) (by decide +kernel)⟩
theorem lw_p51 : lw_okq (⟨"CarbonMinistry", "draw", "(I)I"⟩, 14) := ⟨⟨by decide +kernel, by decide +kernel⟩, List.mem_of_getElem? (i := 22) (by decide +kernel), List.mem_of_getElem? (i := 1147) (by decide +kernel), List.mem_of_getElem? (i := 1148) (by decide +kernel)⟩
theorem lw_p52 : lw_okq (⟨"CarbonMinistry$Asker", "answerOfAll", "(I)J"⟩, 6) := ⟨⟨by decide +kernel, by decide +kernel⟩, List.mem_of_getElem? (i := 447) (by decide +kernel), List.mem_of_getElem? (i := 1181) (by decide +kernel), List.mem_of_getElem? (i := 1182) (by decide +kernel)⟩
theorem lw_p53 : lw_okq (⟨"CarbonMinistry$Asker", "valueOf", "(I)J"⟩, 6) := ⟨⟨by decide +kernel, by decide +kernel⟩, List.mem_of_getElem? (i := 447) (by decide +kernel), List.mem_of_getElem? (i := 1186) (by decide +kernel), List.mem_of_getElem? (i := 1187) (by decide +kernel)⟩
theorem lw_p54 : lw_okq (⟨"CarbonMinistry", "addToImage", "(I)V"⟩, 14) := ⟨⟨by decide +kernel, by decide +kernel⟩, List.mem_of_getElem? (i := 22) (by decide +kernel), List.mem_of_getElem? (i := 1205) (by decide +kernel), List.mem_of_getElem? (i := 1206) (by decide +kernel)⟩
theorem lw_p55 : lw_okq (⟨"CarbonMinistry", "isImage", "()Z"⟩, 14) := ⟨⟨by decide +kernel, by decide +kernel⟩, List.mem_of_getElem? (i := 22) (by decide +kernel), List.mem_of_getElem? (i := 1217) (by decide +kernel), List.mem_of_getElem? (i := 1218) (by decide +kernel)⟩
theorem lw_p56 : lw_okq (⟨"CarbonMinistry", "takeImage", "()V"⟩, 14) := ⟨⟨by decide +kernel, by decide +kernel⟩, List.mem_of_getElem? (i := 22) (by decide +kernel), List.mem_of_getElem? (i := 1222) (by decide +kernel), List.mem_of_getElem? (i := 1223) (by decide +kernel)⟩
theorem lw_p57 : lw_okq (⟨"CarbonMinistryModel", "look", "()I"⟩, 108) := ⟨⟨by decide +kernel, by decide +kernel⟩, List.mem_of_getElem? (i := 1231) (by decide +kernel), List.mem_of_getElem? (i := 1577) (by decide +kernel), List.mem_of_getElem? (i := 1578) (by decide +kernel)⟩
theorem lw_p58 : lw_okq (⟨"CarbonMinistryModel", "statementTold", "()V"⟩, 108) := ⟨⟨by decide +kernel, by decide +kernel⟩, List.mem_of_getElem? (i := 1231) (by decide +kernel), List.mem_of_getElem? (i := 1581) (by decide +kernel), List.mem_of_getElem? (i := 1582) (by decide +kernel)⟩
theorem lw_p59 : lw_okq (⟨"CarbonMinistryModel", "fail", "(II)V"⟩, 108) := ⟨⟨by decide +kernel, by decide +kernel⟩, List.mem_of_getElem? (i := 1231) (by decide +kernel), List.mem_of_getElem? (i := 1585) (by decide +kernel), List.mem_of_getElem? (i := 1586) (by decide +kernel)⟩
theorem lw_p60 : lw_okq (⟨"CarbonMinistryModel", "takes", "([C)Z"⟩, 108) := ⟨⟨by decide +kernel, by decide +kernel⟩, List.mem_of_getElem? (i := 1231) (by decide +kernel), List.mem_of_getElem? (i := 1589) (by decide +kernel), List.mem_of_getElem? (i := 1590) (by decide +kernel)⟩
theorem lw_p61 : lw_okq (⟨"CarbonMinistryModel", "isHere", "([C)Z"⟩, 108) := ⟨⟨by decide +kernel, by decide +kernel⟩, List.mem_of_getElem? (i := 1231) (by decide +kernel), List.mem_of_getElem? (i := 1593) (by decide +kernel), List.mem_of_getElem? (i := 1594) (by decide +kernel)⟩
theorem lw_p62 : lw_okq (⟨"CarbonMinistryModel", "officerTold", "(I)V"⟩, 108) := ⟨⟨by decide +kernel, by decide +kernel⟩, List.mem_of_getElem? (i := 1231) (by decide +kernel), List.mem_of_getElem? (i := 1600) (by decide +kernel), List.mem_of_getElem? (i := 1601) (by decide +kernel)⟩
theorem lw_p63 : lw_okq (⟨"CarbonMinistryModel", "isFull", "(III)Z"⟩, 108) := ⟨⟨by decide +kernel, by decide +kernel⟩, List.mem_of_getElem? (i := 1231) (by decide +kernel), List.mem_of_getElem? (i := 1604) (by decide +kernel), List.mem_of_getElem? (i := 1605) (by decide +kernel)⟩
def lw_privs_4 : List (MethodName × Nat) := [(⟨"CarbonMinistry$Finder", "mostLeft", "(I)I"⟩, 15), (⟨"CarbonMinistry", "beginAct", "()V"⟩, 14), (⟨"CarbonMinistry", "slipsNow", "()Z"⟩, 14), (⟨"CarbonMinistry", "draw", "(I)I"⟩, 14), (⟨"CarbonMinistry$Asker", "answerOfAll", "(I)J"⟩, 6), (⟨"CarbonMinistry$Asker", "valueOf", "(I)J"⟩, 6), (⟨"CarbonMinistry", "addToImage", "(I)V"⟩, 14), (⟨"CarbonMinistry", "isImage", "()Z"⟩, 14), (⟨"CarbonMinistry", "takeImage", "()V"⟩, 14), (⟨"CarbonMinistryModel", "look", "()I"⟩, 108), (⟨"CarbonMinistryModel", "statementTold", "()V"⟩, 108), (⟨"CarbonMinistryModel", "fail", "(II)V"⟩, 108), (⟨"CarbonMinistryModel", "takes", "([C)Z"⟩, 108), (⟨"CarbonMinistryModel", "isHere", "([C)Z"⟩, 108), (⟨"CarbonMinistryModel", "officerTold", "(I)V"⟩, 108), (⟨"CarbonMinistryModel", "isFull", "(III)Z"⟩, 108)]
theorem lw_r4 : ∀ q ∈ lw_privs_4, lw_okq q := List.forall_mem_cons.mpr ⟨lw_p48, List.forall_mem_cons.mpr ⟨lw_p49, List.forall_mem_cons.mpr ⟨lw_p50, List.forall_mem_cons.mpr ⟨lw_p51, List.forall_mem_cons.mpr ⟨lw_p52, List.forall_mem_cons.mpr ⟨lw_p53, List.forall_mem_cons.mpr ⟨lw_p54, List.forall_mem_cons.mpr ⟨lw_p55, List.forall_mem_cons.mpr ⟨lw_p56, List.forall_mem_cons.mpr ⟨lw_p57, List.forall_mem_cons.mpr ⟨lw_p58, List.forall_mem_cons.mpr ⟨lw_p59, List.forall_mem_cons.mpr ⟨lw_p60, List.forall_mem_cons.mpr ⟨lw_p61, List.forall_mem_cons.mpr ⟨lw_p62, List.forall_mem_cons.mpr ⟨lw_p63, fun _ h => absurd h List.not_mem_nil⟩⟩⟩⟩⟩⟩⟩⟩⟩⟩⟩⟩⟩⟩⟩⟩
theorem lw_p64 : lw_okq (⟨"CarbonMinistryModel", "newName", "()J"⟩, 108) := ⟨⟨by decide +kernel, by decide +kernel⟩, List.mem_of_getElem? (i := 1231) (by decide +kernel), List.mem_of_getElem? (i := 1608) (by decide +kernel), List.mem_of_getElem? (i := 1609) (by decide +kernel)⟩
theorem lw_p65 : lw_okq (⟨"CarbonMinistryModel", "name", "()J"⟩, 108) := ⟨⟨by decide +kernel, by decide +kernel⟩, List.mem_of_getElem? (i := 1231) (by decide +kernel), List.mem_of_getElem? (i := 1612) (by decide +kernel), List.mem_of_getElem? (i := 1613) (by decide +kernel)⟩
theorem lw_p66 : lw_okq (⟨"CarbonMinistryModel", "isOwnHere", "()Z"⟩, 108) := ⟨⟨by decide +kernel, by decide +kernel⟩, List.mem_of_getElem? (i := 1231) (by decide +kernel), List.mem_of_getElem? (i := 1616) (by decide +kernel), List.mem_of_getElem? (i := 1617) (by decide +kernel)⟩
theorem lw_p67 : lw_okq (⟨"CarbonMinistryModel", "asks", "([C)V"⟩, 108) := ⟨⟨by decide +kernel, by decide +kernel⟩, List.mem_of_getElem? (i := 1231) (by decide +kernel), List.mem_of_getElem? (i := 1622) (by decide +kernel), List.mem_of_getElem? (i := 1623) (by decide +kernel)⟩
theorem lw_p68 : lw_okq (⟨"CarbonMinistryModel", "number", "(II)I"⟩, 108) := ⟨⟨by decide +kernel, by decide +kernel⟩, List.mem_of_getElem? (i := 1231) (by decide +kernel), List.mem_of_getElem? (i := 1626) (by decide +kernel), List.mem_of_getElem? (i := 1627) (by decide +kernel)⟩
theorem lw_p69 : lw_okq (⟨"CarbonMinistryModel", "feelingTold", "(I)V"⟩, 108) := ⟨⟨by decide +kernel, by decide +kernel⟩, List.mem_of_getElem? (i := 1231) (by decide +kernel), List.mem_of_getElem? (i := 1636) (by decide +kernel), List.mem_of_getElem? (i := 1637) (by decide +kernel)⟩
theorem lw_p70 : lw_okq (⟨"CarbonMinistryModel", "carbonTold", "(I)V"⟩, 108) := ⟨⟨by decide +kernel, by decide +kernel⟩, List.mem_of_getElem? (i := 1231) (by decide +kernel), List.mem_of_getElem? (i := 1640) (by decide +kernel), List.mem_of_getElem? (i := 1641) (by decide +kernel)⟩
theorem lw_p71 : lw_okq (⟨"CarbonMinistryModel", "named", "(II)I"⟩, 108) := ⟨⟨by decide +kernel, by decide +kernel⟩, List.mem_of_getElem? (i := 1231) (by decide +kernel), List.mem_of_getElem? (i := 1644) (by decide +kernel), List.mem_of_getElem? (i := 1645) (by decide +kernel)⟩
theorem lw_p72 : lw_okq (⟨"CarbonMinistryModel", "feltTold", "()V"⟩, 108) := ⟨⟨by decide +kernel, by decide +kernel⟩, List.mem_of_getElem? (i := 1231) (by decide +kernel), List.mem_of_getElem? (i := 1648) (by decide +kernel), List.mem_of_getElem? (i := 1649) (by decide +kernel)⟩
theorem lw_p73 : lw_okq (⟨"CarbonMinistryModel", "codesTold", "(II)V"⟩, 108) := ⟨⟨by decide +kernel, by decide +kernel⟩, List.mem_of_getElem? (i := 1231) (by decide +kernel), List.mem_of_getElem? (i := 1652) (by decide +kernel), List.mem_of_getElem? (i := 1653) (by decide +kernel)⟩
theorem lw_p74 : lw_okq (⟨"CarbonMinistryModel", "qTest", "()V"⟩, 108) := ⟨⟨by decide +kernel, by decide +kernel⟩, List.mem_of_getElem? (i := 1231) (by decide +kernel), List.mem_of_getElem? (i := 1656) (by decide +kernel), List.mem_of_getElem? (i := 1657) (by decide +kernel)⟩
theorem lw_p75 : lw_okq (⟨"CarbonMinistryModel", "qOpens", "(II)V"⟩, 108) := ⟨⟨by decide +kernel, by decide +kernel⟩, List.mem_of_getElem? (i := 1231) (by decide +kernel), List.mem_of_getElem? (i := 1660) (by decide +kernel), List.mem_of_getElem? (i := 1661) (by decide +kernel)⟩
theorem lw_p76 : lw_okq (⟨"CarbonMinistryModel", "qFact", "()V"⟩, 108) := ⟨⟨by decide +kernel, by decide +kernel⟩, List.mem_of_getElem? (i := 1231) (by decide +kernel), List.mem_of_getElem? (i := 1664) (by decide +kernel), List.mem_of_getElem? (i := 1665) (by decide +kernel)⟩
theorem lw_p77 : lw_okq (⟨"CarbonMinistryModel", "qCode", "(I)V"⟩, 108) := ⟨⟨by decide +kernel, by decide +kernel⟩, List.mem_of_getElem? (i := 1231) (by decide +kernel), List.mem_of_getElem? (i := 1668) (by decide +kernel), List.mem_of_getElem? (i := 1669) (by decide +kernel)⟩
theorem lw_p78 : lw_okq (⟨"CarbonMinistryModel", "qSums", "()V"⟩, 108) := ⟨⟨by decide +kernel, by decide +kernel⟩, List.mem_of_getElem? (i := 1231) (by decide +kernel), List.mem_of_getElem? (i := 1672) (by decide +kernel), List.mem_of_getElem? (i := 1673) (by decide +kernel)⟩
theorem lw_p79 : lw_okq (⟨"CarbonMinistryModel", "qPartTold", "()V"⟩, 108) := ⟨⟨by decide +kernel, by decide +kernel⟩, List.mem_of_getElem? (i := 1231) (by decide +kernel), List.mem_of_getElem? (i := 1676) (by decide +kernel), List.mem_of_getElem? (i := 1677) (by decide +kernel)⟩
def lw_privs_5 : List (MethodName × Nat) := [(⟨"CarbonMinistryModel", "newName", "()J"⟩, 108), (⟨"CarbonMinistryModel", "name", "()J"⟩, 108), (⟨"CarbonMinistryModel", "isOwnHere", "()Z"⟩, 108), (⟨"CarbonMinistryModel", "asks", "([C)V"⟩, 108), (⟨"CarbonMinistryModel", "number", "(II)I"⟩, 108), (⟨"CarbonMinistryModel", "feelingTold", "(I)V"⟩, 108), (⟨"CarbonMinistryModel", "carbonTold", "(I)V"⟩, 108), (⟨"CarbonMinistryModel", "named", "(II)I"⟩, 108), (⟨"CarbonMinistryModel", "feltTold", "()V"⟩, 108), (⟨"CarbonMinistryModel", "codesTold", "(II)V"⟩, 108), (⟨"CarbonMinistryModel", "qTest", "()V"⟩, 108), (⟨"CarbonMinistryModel", "qOpens", "(II)V"⟩, 108), (⟨"CarbonMinistryModel", "qFact", "()V"⟩, 108), (⟨"CarbonMinistryModel", "qCode", "(I)V"⟩, 108), (⟨"CarbonMinistryModel", "qSums", "()V"⟩, 108), (⟨"CarbonMinistryModel", "qPartTold", "()V"⟩, 108)]
theorem lw_r5 : ∀ q ∈ lw_privs_5, lw_okq q := List.forall_mem_cons.mpr ⟨lw_p64, List.forall_mem_cons.mpr ⟨lw_p65, List.forall_mem_cons.mpr ⟨lw_p66, List.forall_mem_cons.mpr ⟨lw_p67, List.forall_mem_cons.mpr ⟨lw_p68, List.forall_mem_cons.mpr ⟨lw_p69, List.forall_mem_cons.mpr ⟨lw_p70, List.forall_mem_cons.mpr ⟨lw_p71, List.forall_mem_cons.mpr ⟨lw_p72, List.forall_mem_cons.mpr ⟨lw_p73, List.forall_mem_cons.mpr ⟨lw_p74, List.forall_mem_cons.mpr ⟨lw_p75, List.forall_mem_cons.mpr ⟨lw_p76, List.forall_mem_cons.mpr ⟨lw_p77, List.forall_mem_cons.mpr ⟨lw_p78, List.forall_mem_cons.mpr ⟨lw_p79, fun _ h => absurd h List.not_mem_nil⟩⟩⟩⟩⟩⟩⟩⟩⟩⟩⟩⟩⟩⟩⟩⟩
theorem lw_p80 : lw_okq (⟨"CarbonMinistryModel", "qWordOf", "(II)I"⟩, 108) := ⟨⟨by decide +kernel, by decide +kernel⟩, List.mem_of_getElem? (i := 1231) (by decide +kernel), List.mem_of_getElem? (i := 1680) (by decide +kernel), List.mem_of_getElem? (i := 1681) (by decide +kernel)⟩
theorem lw_p81 : lw_okq (⟨"CarbonMinistryModel", "qWordHere", "()I"⟩, 108) := ⟨⟨by decide +kernel, by decide +kernel⟩, List.mem_of_getElem? (i := 1231) (by decide +kernel), List.mem_of_getElem? (i := 1684) (by decide +kernel), List.mem_of_getElem? (i := 1685) (by decide +kernel)⟩
theorem lw_p82 : lw_okq (⟨"CarbonMinistryModel", "isAllowed", "(I)Z"⟩, 108) := ⟨⟨by decide +kernel, by decide +kernel⟩, List.mem_of_getElem? (i := 1231) (by decide +kernel), List.mem_of_getElem? (i := 1688) (by decide +kernel), List.mem_of_getElem? (i := 1689) (by decide +kernel)⟩
theorem lw_p83 : lw_okq (⟨"CarbonMinistryModel", "asksSign", "(I)V"⟩, 108) := ⟨⟨by decide +kernel, by decide +kernel⟩, List.mem_of_getElem? (i := 1231) (by decide +kernel), List.mem_of_getElem? (i := 1694) (by decide +kernel), List.mem_of_getElem? (i := 1695) (by decide +kernel)⟩
theorem lw_p84 : lw_okq (⟨"CarbonMinistryModel", "takesSign", "(I)Z"⟩, 108) := ⟨⟨by decide +kernel, by decide +kernel⟩, List.mem_of_getElem? (i := 1231) (by decide +kernel), List.mem_of_getElem? (i := 1698) (by decide +kernel), List.mem_of_getElem? (i := 1699) (by decide +kernel)⟩
theorem lw_p85 : lw_okq (⟨"CarbonMinistryModel", "qAsksWord", "(I)V"⟩, 108) := ⟨⟨by decide +kernel, by decide +kernel⟩, List.mem_of_getElem? (i := 1231) (by decide +kernel), List.mem_of_getElem? (i := 1702) (by decide +kernel), List.mem_of_getElem? (i := 1703) (by decide +kernel)⟩
theorem lw_p86 : lw_okq (⟨"CarbonMinistryModel", "qEndsPart", "()V"⟩, 108) := ⟨⟨by decide +kernel, by decide +kernel⟩, List.mem_of_getElem? (i := 1231) (by decide +kernel), List.mem_of_getElem? (i := 1706) (by decide +kernel), List.mem_of_getElem? (i := 1707) (by decide +kernel)⟩
theorem lw_p87 : lw_okq (⟨"CarbonMinistryModel", "qDrops", "()V"⟩, 108) := ⟨⟨by decide +kernel, by decide +kernel⟩, List.mem_of_getElem? (i := 1231) (by decide +kernel), List.mem_of_getElem? (i := 1710) (by decide +kernel), List.mem_of_getElem? (i := 1711) (by decide +kernel)⟩
theorem lw_p88 : lw_okq (⟨"CarbonMinistryModel", "qGoesOn", "()Z"⟩, 108) := ⟨⟨by decide +kernel, by decide +kernel⟩, List.mem_of_getElem? (i := 1231) (by decide +kernel), List.mem_of_getElem? (i := 1714) (by decide +kernel), List.mem_of_getElem? (i := 1715) (by decide +kernel)⟩
theorem lw_p89 : lw_okq (⟨"CarbonMinistryModel", "qBracket", "()I"⟩, 108) := ⟨⟨by decide +kernel, by decide +kernel⟩, List.mem_of_getElem? (i := 1231) (by decide +kernel), List.mem_of_getElem? (i := 1718) (by decide +kernel), List.mem_of_getElem? (i := 1719) (by decide +kernel)⟩
theorem lw_p90 : lw_okq (⟨"CarbonMinistryModel", "qDropsToBracket", "()V"⟩, 108) := ⟨⟨by decide +kernel, by decide +kernel⟩, List.mem_of_getElem? (i := 1231) (by decide +kernel), List.mem_of_getElem? (i := 1725) (by decide +kernel), List.mem_of_getElem? (i := 1726) (by decide +kernel)⟩
theorem lw_p91 : lw_okq (⟨"CarbonMinistryModel", "qIsOn", "(I)Z"⟩, 108) := ⟨⟨by decide +kernel, by decide +kernel⟩, List.mem_of_getElem? (i := 1231) (by decide +kernel), List.mem_of_getElem? (i := 1729) (by decide +kernel), List.mem_of_getElem? (i := 1730) (by decide +kernel)⟩
theorem lw_p92 : lw_okq (⟨"CarbonMinistryModel", "qDropsNots", "()V"⟩, 108) := ⟨⟨by decide +kernel, by decide +kernel⟩, List.mem_of_getElem? (i := 1231) (by decide +kernel), List.mem_of_getElem? (i := 1733) (by decide +kernel), List.mem_of_getElem? (i := 1734) (by decide +kernel)⟩
theorem lw_p93 : lw_okq (⟨"CarbonMinistryModel", "qGoesOnTest", "()Z"⟩, 108) := ⟨⟨by decide +kernel, by decide +kernel⟩, List.mem_of_getElem? (i := 1231) (by decide +kernel), List.mem_of_getElem? (i := 1737) (by decide +kernel), List.mem_of_getElem? (i := 1738) (by decide +kernel)⟩
theorem lw_p94 : lw_okq (⟨"CarbonMinistryModel", "qHasSquare", "()Z"⟩, 108) := ⟨⟨by decide +kernel, by decide +kernel⟩, List.mem_of_getElem? (i := 1231) (by decide +kernel), List.mem_of_getElem? (i := 1741) (by decide +kernel), List.mem_of_getElem? (i := 1742) (by decide +kernel)⟩
theorem lw_p95 : lw_okq (⟨"CarbonMinistryModel", "stands", "()V"⟩, 108) := ⟨⟨by decide +kernel, by decide +kernel⟩, List.mem_of_getElem? (i := 1231) (by decide +kernel), List.mem_of_getElem? (i := 1745) (by decide +kernel), List.mem_of_getElem? (i := 1746) (by decide +kernel)⟩
def lw_privs_6 : List (MethodName × Nat) := [(⟨"CarbonMinistryModel", "qWordOf", "(II)I"⟩, 108), (⟨"CarbonMinistryModel", "qWordHere", "()I"⟩, 108), (⟨"CarbonMinistryModel", "isAllowed", "(I)Z"⟩, 108), (⟨"CarbonMinistryModel", "asksSign", "(I)V"⟩, 108), (⟨"CarbonMinistryModel", "takesSign", "(I)Z"⟩, 108), (⟨"CarbonMinistryModel", "qAsksWord", "(I)V"⟩, 108), (⟨"CarbonMinistryModel", "qEndsPart", "()V"⟩, 108), (⟨"CarbonMinistryModel", "qDrops", "()V"⟩, 108), (⟨"CarbonMinistryModel", "qGoesOn", "()Z"⟩, 108), (⟨"CarbonMinistryModel", "qBracket", "()I"⟩, 108), (⟨"CarbonMinistryModel", "qDropsToBracket", "()V"⟩, 108), (⟨"CarbonMinistryModel", "qIsOn", "(I)Z"⟩, 108), (⟨"CarbonMinistryModel", "qDropsNots", "()V"⟩, 108), (⟨"CarbonMinistryModel", "qGoesOnTest", "()Z"⟩, 108), (⟨"CarbonMinistryModel", "qHasSquare", "()Z"⟩, 108), (⟨"CarbonMinistryModel", "stands", "()V"⟩, 108)]
theorem lw_r6 : ∀ q ∈ lw_privs_6, lw_okq q := List.forall_mem_cons.mpr ⟨lw_p80, List.forall_mem_cons.mpr ⟨lw_p81, List.forall_mem_cons.mpr ⟨lw_p82, List.forall_mem_cons.mpr ⟨lw_p83, List.forall_mem_cons.mpr ⟨lw_p84, List.forall_mem_cons.mpr ⟨lw_p85, List.forall_mem_cons.mpr ⟨lw_p86, List.forall_mem_cons.mpr ⟨lw_p87, List.forall_mem_cons.mpr ⟨lw_p88, List.forall_mem_cons.mpr ⟨lw_p89, List.forall_mem_cons.mpr ⟨lw_p90, List.forall_mem_cons.mpr ⟨lw_p91, List.forall_mem_cons.mpr ⟨lw_p92, List.forall_mem_cons.mpr ⟨lw_p93, List.forall_mem_cons.mpr ⟨lw_p94, List.forall_mem_cons.mpr ⟨lw_p95, fun _ h => absurd h List.not_mem_nil⟩⟩⟩⟩⟩⟩⟩⟩⟩⟩⟩⟩⟩⟩⟩⟩
theorem lw_p96 : lw_okq (⟨"CarbonMinistryModel", "carbonsThat", "(I)I"⟩, 108) := ⟨⟨by decide +kernel, by decide +kernel⟩, List.mem_of_getElem? (i := 1231) (by decide +kernel), List.mem_of_getElem? (i := 1757) (by decide +kernel), List.mem_of_getElem? (i := 1758) (by decide +kernel)⟩
theorem lw_p97 : lw_okq (⟨"CarbonMinistryModel", "carbonMany", "()I"⟩, 108) := ⟨⟨by decide +kernel, by decide +kernel⟩, List.mem_of_getElem? (i := 1231) (by decide +kernel), List.mem_of_getElem? (i := 1761) (by decide +kernel), List.mem_of_getElem? (i := 1762) (by decide +kernel)⟩
theorem lw_p98 : lw_okq (⟨"CarbonMinistryModel", "strengthAll", "()I"⟩, 108) := ⟨⟨by decide +kernel, by decide +kernel⟩, List.mem_of_getElem? (i := 1231) (by decide +kernel), List.mem_of_getElem? (i := 1765) (by decide +kernel), List.mem_of_getElem? (i := 1766) (by decide +kernel)⟩
theorem lw_p99 : lw_okq (⟨"CarbonMinistryModel", "isOfficer", "(J)Z"⟩, 108) := ⟨⟨by decide +kernel, by decide +kernel⟩, List.mem_of_getElem? (i := 1231) (by decide +kernel), List.mem_of_getElem? (i := 1777) (by decide +kernel), List.mem_of_getElem? (i := 1778) (by decide +kernel)⟩
theorem lw_p100 : lw_okq (⟨"CarbonMinistryModel", "officerMany", "()I"⟩, 108) := ⟨⟨by decide +kernel, by decide +kernel⟩, List.mem_of_getElem? (i := 1231) (by decide +kernel), List.mem_of_getElem? (i := 1781) (by decide +kernel), List.mem_of_getElem? (i := 1782) (by decide +kernel)⟩
theorem lw_p101 : lw_okq (⟨"CarbonMinistryModel", "leadingMany", "(IZ)I"⟩, 108) := ⟨⟨by decide +kernel, by decide +kernel⟩, List.mem_of_getElem? (i := 1231) (by decide +kernel), List.mem_of_getElem? (i := 1786) (by decide +kernel), List.mem_of_getElem? (i := 1787) (by decide +kernel)⟩
theorem lw_p102 : lw_okq (⟨"CarbonMinistryModel", "isInside", "(I)Z"⟩, 108) := ⟨⟨by decide +kernel, by decide +kernel⟩, List.mem_of_getElem? (i := 1231) (by decide +kernel), List.mem_of_getElem? (i := 1790) (by decide +kernel), List.mem_of_getElem? (i := 1791) (by decide +kernel)⟩
theorem lw_p103 : lw_okq (⟨"CarbonMinistryModel", "toOf", "(I)I"⟩, 108) := ⟨⟨by decide +kernel, by decide +kernel⟩, List.mem_of_getElem? (i := 1231) (by decide +kernel), List.mem_of_getElem? (i := 1794) (by decide +kernel), List.mem_of_getElem? (i := 1795) (by decide +kernel)⟩
theorem lw_p104 : lw_okq (⟨"CarbonMinistryModel", "isTurned", "(I)Z"⟩, 108) := ⟨⟨by decide +kernel, by decide +kernel⟩, List.mem_of_getElem? (i := 1231) (by decide +kernel), List.mem_of_getElem? (i := 1798) (by decide +kernel), List.mem_of_getElem? (i := 1799) (by decide +kernel)⟩
theorem lw_p105 : lw_okq (⟨"CarbonMinistryModel", "fromOf", "(I)I"⟩, 108) := ⟨⟨by decide +kernel, by decide +kernel⟩, List.mem_of_getElem? (i := 1231) (by decide +kernel), List.mem_of_getElem? (i := 1802) (by decide +kernel), List.mem_of_getElem? (i := 1803) (by decide +kernel)⟩
theorem lw_p106 : lw_okq (⟨"CarbonMinistryModel", "isCarbon", "(I)Z"⟩, 108) := ⟨⟨by decide +kernel, by decide +kernel⟩, List.mem_of_getElem? (i := 1231) (by decide +kernel), List.mem_of_getElem? (i := 1810) (by decide +kernel), List.mem_of_getElem? (i := 1811) (by decide +kernel)⟩
theorem lw_p107 : lw_okq (⟨"CarbonMinistryModel", "isFeeling", "(J)Z"⟩, 108) := ⟨⟨by decide +kernel, by decide +kernel⟩, List.mem_of_getElem? (i := 1231) (by decide +kernel), List.mem_of_getElem? (i := 1819) (by decide +kernel), List.mem_of_getElem? (i := 1820) (by decide +kernel)⟩
theorem lw_p108 : lw_okq (⟨"CarbonMinistryModel", "feelingMany", "()I"⟩, 108) := ⟨⟨by decide +kernel, by decide +kernel⟩, List.mem_of_getElem? (i := 1231) (by decide +kernel), List.mem_of_getElem? (i := 1823) (by decide +kernel), List.mem_of_getElem? (i := 1824) (by decide +kernel)⟩
theorem lw_p109 : lw_okq (⟨"CarbonMinistryModel", "strengthOf", "(II)I"⟩, 108) := ⟨⟨by decide +kernel, by decide +kernel⟩, List.mem_of_getElem? (i := 1231) (by decide +kernel), List.mem_of_getElem? (i := 1827) (by decide +kernel), List.mem_of_getElem? (i := 1828) (by decide +kernel)⟩
theorem lw_p110 : lw_okq (⟨"CarbonMinistryModel", "through", "(II)I"⟩, 108) := ⟨⟨by decide +kernel, by decide +kernel⟩, List.mem_of_getElem? (i := 1231) (by decide +kernel), List.mem_of_getElem? (i := 1835) (by decide +kernel), List.mem_of_getElem? (i := 1836) (by decide +kernel)⟩
theorem lw_p111 : lw_okq (⟨"CarbonMinistryModel", "isTold", "(I)Z"⟩, 108) := ⟨⟨by decide +kernel, by decide +kernel⟩, List.mem_of_getElem? (i := 1231) (by decide +kernel), List.mem_of_getElem? (i := 1839) (by decide +kernel), List.mem_of_getElem? (i := 1840) (by decide +kernel)⟩
def lw_privs_7 : List (MethodName × Nat) := [(⟨"CarbonMinistryModel", "carbonsThat", "(I)I"⟩, 108), (⟨"CarbonMinistryModel", "carbonMany", "()I"⟩, 108), (⟨"CarbonMinistryModel", "strengthAll", "()I"⟩, 108), (⟨"CarbonMinistryModel", "isOfficer", "(J)Z"⟩, 108), (⟨"CarbonMinistryModel", "officerMany", "()I"⟩, 108), (⟨"CarbonMinistryModel", "leadingMany", "(IZ)I"⟩, 108), (⟨"CarbonMinistryModel", "isInside", "(I)Z"⟩, 108), (⟨"CarbonMinistryModel", "toOf", "(I)I"⟩, 108), (⟨"CarbonMinistryModel", "isTurned", "(I)Z"⟩, 108), (⟨"CarbonMinistryModel", "fromOf", "(I)I"⟩, 108), (⟨"CarbonMinistryModel", "isCarbon", "(I)Z"⟩, 108), (⟨"CarbonMinistryModel", "isFeeling", "(J)Z"⟩, 108), (⟨"CarbonMinistryModel", "feelingMany", "()I"⟩, 108), (⟨"CarbonMinistryModel", "strengthOf", "(II)I"⟩, 108), (⟨"CarbonMinistryModel", "through", "(II)I"⟩, 108), (⟨"CarbonMinistryModel", "isTold", "(I)Z"⟩, 108)]
theorem lw_r7 : ∀ q ∈ lw_privs_7, lw_okq q := List.forall_mem_cons.mpr ⟨lw_p96, List.forall_mem_cons.mpr ⟨lw_p97, List.forall_mem_cons.mpr ⟨lw_p98, List.forall_mem_cons.mpr ⟨lw_p99, List.forall_mem_cons.mpr ⟨lw_p100, List.forall_mem_cons.mpr ⟨lw_p101, List.forall_mem_cons.mpr ⟨lw_p102, List.forall_mem_cons.mpr ⟨lw_p103, List.forall_mem_cons.mpr ⟨lw_p104, List.forall_mem_cons.mpr ⟨lw_p105, List.forall_mem_cons.mpr ⟨lw_p106, List.forall_mem_cons.mpr ⟨lw_p107, List.forall_mem_cons.mpr ⟨lw_p108, List.forall_mem_cons.mpr ⟨lw_p109, List.forall_mem_cons.mpr ⟨lw_p110, List.forall_mem_cons.mpr ⟨lw_p111, fun _ h => absurd h List.not_mem_nil⟩⟩⟩⟩⟩⟩⟩⟩⟩⟩⟩⟩⟩⟩⟩⟩
theorem lw_p112 : lw_okq (⟨"CarbonMinistryModel", "codesTell", "(II)J"⟩, 108) := ⟨⟨by decide +kernel, by decide +kernel⟩, List.mem_of_getElem? (i := 1231) (by decide +kernel), List.mem_of_getElem? (i := 1843) (by decide +kernel), List.mem_of_getElem? (i := 1844) (by decide +kernel)⟩
theorem lw_p113 : lw_okq (⟨"CarbonMinistryModel", "qPuts", "(J)V"⟩, 108) := ⟨⟨by decide +kernel, by decide +kernel⟩, List.mem_of_getElem? (i := 1231) (by decide +kernel), List.mem_of_getElem? (i := 1847) (by decide +kernel), List.mem_of_getElem? (i := 1848) (by decide +kernel)⟩
theorem lw_p114 : lw_okq (⟨"CarbonMinistryModel", "qPartOf", "(II)J"⟩, 108) := ⟨⟨by decide +kernel, by decide +kernel⟩, List.mem_of_getElem? (i := 1231) (by decide +kernel), List.mem_of_getElem? (i := 1851) (by decide +kernel), List.mem_of_getElem? (i := 1852) (by decide +kernel)⟩
theorem lw_p115 : lw_okq (⟨"CarbonMinistryModel", "qJoins", "(I)V"⟩, 108) := ⟨⟨by decide +kernel, by decide +kernel⟩, List.mem_of_getElem? (i := 1231) (by decide +kernel), List.mem_of_getElem? (i := 1855) (by decide +kernel), List.mem_of_getElem? (i := 1856) (by decide +kernel)⟩
theorem lw_p116 : lw_okq (⟨"CarbonMinistryModel", "isAhead", "(III)Z"⟩, 108) := ⟨⟨by decide +kernel, by decide +kernel⟩, List.mem_of_getElem? (i := 1231) (by decide +kernel), List.mem_of_getElem? (i := 1879) (by decide +kernel), List.mem_of_getElem? (i := 1880) (by decide +kernel)⟩
theorem lw_p117 : lw_okq (⟨"CarbonMinistryModel", "putsAside", "()V"⟩, 108) := ⟨⟨by decide +kernel, by decide +kernel⟩, List.mem_of_getElem? (i := 1231) (by decide +kernel), List.mem_of_getElem? (i := 1883) (by decide +kernel), List.mem_of_getElem? (i := 1884) (by decide +kernel)⟩
theorem lw_p118 : lw_okq (⟨"CarbonMinistryModel", "oneGoes", "(II)V"⟩, 108) := ⟨⟨by decide +kernel, by decide +kernel⟩, List.mem_of_getElem? (i := 1231) (by decide +kernel), List.mem_of_getElem? (i := 1887) (by decide +kernel), List.mem_of_getElem? (i := 1888) (by decide +kernel)⟩
theorem lw_p119 : lw_okq (⟨"CarbonMinistryModel", "feelingGoes", "(I)V"⟩, 108) := ⟨⟨by decide +kernel, by decide +kernel⟩, List.mem_of_getElem? (i := 1231) (by decide +kernel), List.mem_of_getElem? (i := 1891) (by decide +kernel), List.mem_of_getElem? (i := 1892) (by decide +kernel)⟩
theorem lw_p120 : lw_okq (⟨"CarbonMinistryModel", "staysOf", "(II)I"⟩, 108) := ⟨⟨by decide +kernel, by decide +kernel⟩, List.mem_of_getElem? (i := 1231) (by decide +kernel), List.mem_of_getElem? (i := 1895) (by decide +kernel), List.mem_of_getElem? (i := 1896) (by decide +kernel)⟩
theorem lw_p121 : lw_okq (⟨"CarbonMinistryModel", "takesBack", "()V"⟩, 108) := ⟨⟨by decide +kernel, by decide +kernel⟩, List.mem_of_getElem? (i := 1231) (by decide +kernel), List.mem_of_getElem? (i := 1899) (by decide +kernel), List.mem_of_getElem? (i := 1900) (by decide +kernel)⟩
theorem lw_p122 : lw_okq (⟨"CarbonMinistryModel", "triesAnew", "()V"⟩, 108) := ⟨⟨by decide +kernel, by decide +kernel⟩, List.mem_of_getElem? (i := 1231) (by decide +kernel), List.mem_of_getElem? (i := 1903) (by decide +kernel), List.mem_of_getElem? (i := 1904) (by decide +kernel)⟩
theorem lw_p123 : lw_okq (⟨"CarbonMinistryModel", "isSettled", "()Z"⟩, 108) := ⟨⟨by decide +kernel, by decide +kernel⟩, List.mem_of_getElem? (i := 1231) (by decide +kernel), List.mem_of_getElem? (i := 1911) (by decide +kernel), List.mem_of_getElem? (i := 1912) (by decide +kernel)⟩
theorem lw_p124 : lw_okq (⟨"CarbonMinistryModel", "dayGoes", "()V"⟩, 108) := ⟨⟨by decide +kernel, by decide +kernel⟩, List.mem_of_getElem? (i := 1231) (by decide +kernel), List.mem_of_getElem? (i := 1915) (by decide +kernel), List.mem_of_getElem? (i := 1916) (by decide +kernel)⟩
theorem lw_p125 : lw_okq (⟨"CarbonMinistryModel", "isActed", "(II)Z"⟩, 108) := ⟨⟨by decide +kernel, by decide +kernel⟩, List.mem_of_getElem? (i := 1231) (by decide +kernel), List.mem_of_getElem? (i := 1919) (by decide +kernel), List.mem_of_getElem? (i := 1920) (by decide +kernel)⟩
theorem lw_p126 : lw_okq (⟨"CarbonMinistryModel", "isKept", "(II)V"⟩, 108) := ⟨⟨by decide +kernel, by decide +kernel⟩, List.mem_of_getElem? (i := 1231) (by decide +kernel), List.mem_of_getElem? (i := 1923) (by decide +kernel), List.mem_of_getElem? (i := 1924) (by decide +kernel)⟩
theorem lw_p127 : lw_okq (⟨"CarbonMinistryModel", "daysGo", "(I)V"⟩, 108) := ⟨⟨by decide +kernel, by decide +kernel⟩, List.mem_of_getElem? (i := 1231) (by decide +kernel), List.mem_of_getElem? (i := 1935) (by decide +kernel), List.mem_of_getElem? (i := 1936) (by decide +kernel)⟩
def lw_privs_8 : List (MethodName × Nat) := [(⟨"CarbonMinistryModel", "codesTell", "(II)J"⟩, 108), (⟨"CarbonMinistryModel", "qPuts", "(J)V"⟩, 108), (⟨"CarbonMinistryModel", "qPartOf", "(II)J"⟩, 108), (⟨"CarbonMinistryModel", "qJoins", "(I)V"⟩, 108), (⟨"CarbonMinistryModel", "isAhead", "(III)Z"⟩, 108), (⟨"CarbonMinistryModel", "putsAside", "()V"⟩, 108), (⟨"CarbonMinistryModel", "oneGoes", "(II)V"⟩, 108), (⟨"CarbonMinistryModel", "feelingGoes", "(I)V"⟩, 108), (⟨"CarbonMinistryModel", "staysOf", "(II)I"⟩, 108), (⟨"CarbonMinistryModel", "takesBack", "()V"⟩, 108), (⟨"CarbonMinistryModel", "triesAnew", "()V"⟩, 108), (⟨"CarbonMinistryModel", "isSettled", "()Z"⟩, 108), (⟨"CarbonMinistryModel", "dayGoes", "()V"⟩, 108), (⟨"CarbonMinistryModel", "isActed", "(II)Z"⟩, 108), (⟨"CarbonMinistryModel", "isKept", "(II)V"⟩, 108), (⟨"CarbonMinistryModel", "daysGo", "(I)V"⟩, 108)]
theorem lw_r8 : ∀ q ∈ lw_privs_8, lw_okq q := List.forall_mem_cons.mpr ⟨lw_p112, List.forall_mem_cons.mpr ⟨lw_p113, List.forall_mem_cons.mpr ⟨lw_p114, List.forall_mem_cons.mpr ⟨lw_p115, List.forall_mem_cons.mpr ⟨lw_p116, List.forall_mem_cons.mpr ⟨lw_p117, List.forall_mem_cons.mpr ⟨lw_p118, List.forall_mem_cons.mpr ⟨lw_p119, List.forall_mem_cons.mpr ⟨lw_p120, List.forall_mem_cons.mpr ⟨lw_p121, List.forall_mem_cons.mpr ⟨lw_p122, List.forall_mem_cons.mpr ⟨lw_p123, List.forall_mem_cons.mpr ⟨lw_p124, List.forall_mem_cons.mpr ⟨lw_p125, List.forall_mem_cons.mpr ⟨lw_p126, List.forall_mem_cons.mpr ⟨lw_p127, fun _ h => absurd h List.not_mem_nil⟩⟩⟩⟩⟩⟩⟩⟩⟩⟩⟩⟩⟩⟩⟩⟩
theorem lw_p128 : lw_okq (⟨"CarbonMinistryModel", "insideSet", "()I"⟩, 108) := ⟨⟨by decide +kernel, by decide +kernel⟩, List.mem_of_getElem? (i := 1231) (by decide +kernel), List.mem_of_getElem? (i := 1943) (by decide +kernel), List.mem_of_getElem? (i := 1944) (by decide +kernel)⟩
theorem lw_p129 : lw_okq (⟨"CarbonMinistryModel", "laysSteps", "(I)V"⟩, 108) := ⟨⟨by decide +kernel, by decide +kernel⟩, List.mem_of_getElem? (i := 1231) (by decide +kernel), List.mem_of_getElem? (i := 1954) (by decide +kernel), List.mem_of_getElem? (i := 1955) (by decide +kernel)⟩
theorem lw_p130 : lw_okq (⟨"CarbonMinistryModel", "isOneMore", "(II)Z"⟩, 108) := ⟨⟨by decide +kernel, by decide +kernel⟩, List.mem_of_getElem? (i := 1231) (by decide +kernel), List.mem_of_getElem? (i := 1962) (by decide +kernel), List.mem_of_getElem? (i := 1963) (by decide +kernel)⟩
theorem lw_p131 : lw_okq (⟨"CarbonMinistryModel", "goesBy", "(II)I"⟩, 108) := ⟨⟨by decide +kernel, by decide +kernel⟩, List.mem_of_getElem? (i := 1231) (by decide +kernel), List.mem_of_getElem? (i := 1966) (by decide +kernel), List.mem_of_getElem? (i := 1967) (by decide +kernel)⟩
theorem lw_p132 : lw_okq (⟨"CarbonMinistryModel", "refuses", "(I)I"⟩, 108) := ⟨⟨by decide +kernel, by decide +kernel⟩, List.mem_of_getElem? (i := 1231) (by decide +kernel), List.mem_of_getElem? (i := 1974) (by decide +kernel), List.mem_of_getElem? (i := 1975) (by decide +kernel)⟩
theorem lw_p133 : lw_okq (⟨"CarbonMinistryModel", "laysSources", "(I)V"⟩, 108) := ⟨⟨by decide +kernel, by decide +kernel⟩, List.mem_of_getElem? (i := 1231) (by decide +kernel), List.mem_of_getElem? (i := 1982) (by decide +kernel), List.mem_of_getElem? (i := 1983) (by decide +kernel)⟩
theorem lw_p134 : lw_okq (⟨"CarbonMinistryModel", "sourceGoes", "(II)V"⟩, 108) := ⟨⟨by decide +kernel, by decide +kernel⟩, List.mem_of_getElem? (i := 1231) (by decide +kernel), List.mem_of_getElem? (i := 1986) (by decide +kernel), List.mem_of_getElem? (i := 1987) (by decide +kernel)⟩
theorem lw_p135 : lw_okq (⟨"CarbonMinistryModel", "isAsFound", "(II)Z"⟩, 108) := ⟨⟨by decide +kernel, by decide +kernel⟩, List.mem_of_getElem? (i := 1231) (by decide +kernel), List.mem_of_getElem? (i := 1990) (by decide +kernel), List.mem_of_getElem? (i := 1991) (by decide +kernel)⟩
theorem lw_p136 : lw_okq (⟨"CarbonMinistryModel", "mostAlike", "(II)I"⟩, 108) := ⟨⟨by decide +kernel, by decide +kernel⟩, List.mem_of_getElem? (i := 1231) (by decide +kernel), List.mem_of_getElem? (i := 1999) (by decide +kernel), List.mem_of_getElem? (i := 2000) (by decide +kernel)⟩
theorem lw_p137 : lw_okq (⟨"CarbonMinistryModel", "isChanged", "(ZII)Z"⟩, 108) := ⟨⟨by decide +kernel, by decide +kernel⟩, List.mem_of_getElem? (i := 1231) (by decide +kernel), List.mem_of_getElem? (i := 2011) (by decide +kernel), List.mem_of_getElem? (i := 2012) (by decide +kernel)⟩
theorem lw_p138 : lw_okq (⟨"CarbonMinistryModel", "keeps", "()V"⟩, 108) := ⟨⟨by decide +kernel, by decide +kernel⟩, List.mem_of_getElem? (i := 1231) (by decide +kernel), List.mem_of_getElem? (i := 2015) (by decide +kernel), List.mem_of_getElem? (i := 2016) (by decide +kernel)⟩
theorem lw_p139 : lw_okq (⟨"CarbonMinistryModel", "drawOf", "(I)I"⟩, 108) := ⟨⟨by decide +kernel, by decide +kernel⟩, List.mem_of_getElem? (i := 1231) (by decide +kernel), List.mem_of_getElem? (i := 2039) (by decide +kernel), List.mem_of_getElem? (i := 2040) (by decide +kernel)⟩
theorem lw_p140 : lw_okq (⟨"CarbonMinistryModel", "qKind", "()I"⟩, 108) := ⟨⟨by decide +kernel, by decide +kernel⟩, List.mem_of_getElem? (i := 1231) (by decide +kernel), List.mem_of_getElem? (i := 2051) (by decide +kernel), List.mem_of_getElem? (i := 2052) (by decide +kernel)⟩
theorem lw_p141 : lw_okq (⟨"CarbonMinistryModel", "qTold", "(I)J"⟩, 108) := ⟨⟨by decide +kernel, by decide +kernel⟩, List.mem_of_getElem? (i := 1231) (by decide +kernel), List.mem_of_getElem? (i := 2057) (by decide +kernel), List.mem_of_getElem? (i := 2058) (by decide +kernel)⟩
theorem lw_p142 : lw_okq (⟨"CarbonMinistryModel", "qOf", "(IJI)J"⟩, 108) := ⟨⟨by decide +kernel, by decide +kernel⟩, List.mem_of_getElem? (i := 1231) (by decide +kernel), List.mem_of_getElem? (i := 2061) (by decide +kernel), List.mem_of_getElem? (i := 2062) (by decide +kernel)⟩
theorem lw_p143 : lw_okq (⟨"CarbonMinistryModel", "qTakes", "(IJI)V"⟩, 108) := ⟨⟨by decide +kernel, by decide +kernel⟩, List.mem_of_getElem? (i := 1231) (by decide +kernel), List.mem_of_getElem? (i := 2065) (by decide +kernel), List.mem_of_getElem? (i := 2066) (by decide +kernel)⟩
def lw_privs_9 : List (MethodName × Nat) := [(⟨"CarbonMinistryModel", "insideSet", "()I"⟩, 108), (⟨"CarbonMinistryModel", "laysSteps", "(I)V"⟩, 108), (⟨"CarbonMinistryModel", "isOneMore", "(II)Z"⟩, 108), (⟨"CarbonMinistryModel", "goesBy", "(II)I"⟩, 108), (⟨"CarbonMinistryModel", "refuses", "(I)I"⟩, 108), (⟨"CarbonMinistryModel", "laysSources", "(I)V"⟩, 108), (⟨"CarbonMinistryModel", "sourceGoes", "(II)V"⟩, 108), (⟨"CarbonMinistryModel", "isAsFound", "(II)Z"⟩, 108), (⟨"CarbonMinistryModel", "mostAlike", "(II)I"⟩, 108), (⟨"CarbonMinistryModel", "isChanged", "(ZII)Z"⟩, 108), (⟨"CarbonMinistryModel", "keeps", "()V"⟩, 108), (⟨"CarbonMinistryModel", "drawOf", "(I)I"⟩, 108), (⟨"CarbonMinistryModel", "qKind", "()I"⟩, 108), (⟨"CarbonMinistryModel", "qTold", "(I)J"⟩, 108), (⟨"CarbonMinistryModel", "qOf", "(IJI)J"⟩, 108), (⟨"CarbonMinistryModel", "qTakes", "(IJI)V"⟩, 108)]
theorem lw_r9 : ∀ q ∈ lw_privs_9, lw_okq q := List.forall_mem_cons.mpr ⟨lw_p128, List.forall_mem_cons.mpr ⟨lw_p129, List.forall_mem_cons.mpr ⟨lw_p130, List.forall_mem_cons.mpr ⟨lw_p131, List.forall_mem_cons.mpr ⟨lw_p132, List.forall_mem_cons.mpr ⟨lw_p133, List.forall_mem_cons.mpr ⟨lw_p134, List.forall_mem_cons.mpr ⟨lw_p135, List.forall_mem_cons.mpr ⟨lw_p136, List.forall_mem_cons.mpr ⟨lw_p137, List.forall_mem_cons.mpr ⟨lw_p138, List.forall_mem_cons.mpr ⟨lw_p139, List.forall_mem_cons.mpr ⟨lw_p140, List.forall_mem_cons.mpr ⟨lw_p141, List.forall_mem_cons.mpr ⟨lw_p142, List.forall_mem_cons.mpr ⟨lw_p143, fun _ h => absurd h List.not_mem_nil⟩⟩⟩⟩⟩⟩⟩⟩⟩⟩⟩⟩⟩⟩⟩⟩
theorem lw_p144 : lw_okq (⟨"CarbonMinistryModel", "writes", "(I)V"⟩, 108) := ⟨⟨by decide +kernel, by decide +kernel⟩, List.mem_of_getElem? (i := 1231) (by decide +kernel), List.mem_of_getElem? (i := 2073) (by decide +kernel), List.mem_of_getElem? (i := 2074) (by decide +kernel)⟩
theorem lw_p145 : lw_okq (⟨"CarbonMinistryModel", "isImage", "(I)Z"⟩, 108) := ⟨⟨by decide +kernel, by decide +kernel⟩, List.mem_of_getElem? (i := 1231) (by decide +kernel), List.mem_of_getElem? (i := 2088) (by decide +kernel), List.mem_of_getElem? (i := 2089) (by decide +kernel)⟩
def lw_privs_10 : List (MethodName × Nat) := [(⟨"CarbonMinistryModel", "writes", "(I)V"⟩, 108), (⟨"CarbonMinistryModel", "isImage", "(I)Z"⟩, 108)]
theorem lw_r10 : ∀ q ∈ lw_privs_10, lw_okq q := List.forall_mem_cons.mpr ⟨lw_p144, List.forall_mem_cons.mpr ⟨lw_p145, fun _ h => absurd h List.not_mem_nil⟩⟩
def lw_privs : List (MethodName × Nat) := lw_privs_1 ++ (lw_privs_2 ++ (lw_privs_3 ++ (lw_privs_4 ++ (lw_privs_5 ++ (lw_privs_6 ++ (lw_privs_7 ++ (lw_privs_8 ++ (lw_privs_9 ++ (lw_privs_10)))))))))
def lw_tbl : List Cond := k2_sels lw_privs ++ tables_1
theorem lw_privs_ok : ∀ q ∈ lw_privs, lw_okq q := by
  show ∀ q ∈ lw_privs_1 ++ (lw_privs_2 ++ (lw_privs_3 ++ (lw_privs_4 ++ (lw_privs_5 ++ (lw_privs_6 ++ (lw_privs_7 ++ (lw_privs_8 ++ (lw_privs_9 ++ (lw_privs_10))))))))), lw_okq q
  exact List.forall_mem_append.mpr ⟨lw_r1, List.forall_mem_append.mpr ⟨lw_r2, List.forall_mem_append.mpr ⟨lw_r3, List.forall_mem_append.mpr ⟨lw_r4, List.forall_mem_append.mpr ⟨lw_r5, List.forall_mem_append.mpr ⟨lw_r6, List.forall_mem_append.mpr ⟨lw_r7, List.forall_mem_append.mpr ⟨lw_r8, List.forall_mem_append.mpr ⟨lw_r9, lw_r10⟩⟩⟩⟩⟩⟩⟩⟩⟩

theorem goodIn_r {big : List Cond} (ws : List Cond) (ps : List Nat) (hp : ws = ps.filterMap (fun i => big[i]?)) (h : ws.all goodWord = true) : GoodIn big ws := by
  intro w hw
  have h1 := List.all_eq_true.mp h w hw
  rw [hp] at hw
  obtain ⟨i, -, hi⟩ := List.mem_filterMap.mp hw
  have hm : w ∈ big := by first | exact List.mem_of_getElem? hi | exact List.getElem?_mem hi
  exact ⟨hm, good_of_word h1⟩
theorem goodIn_app {big a b : List Cond} (ha : GoodIn big a) (hb : GoodIn big b) : GoodIn big (a ++ b) := fun w h => (List.mem_append.mp h).elim (ha w) (hb w)
theorem goodIn_ca {big a b : List Cond} {c : Cond} (ha : GoodIn big (c :: a)) (hb : GoodIn big b) : GoodIn big (c :: (a ++ b)) := fun w h => (List.mem_cons.mp h).elim (fun e => ha w (List.mem_cons.mpr (Or.inl e))) (fun h => (List.mem_append.mp h).elim (fun h => ha w (List.mem_cons.mpr (Or.inr h))) (hb w))
theorem goodIn_sub {big ws : List Cond} (hm : ∀ w ∈ ws, w ∈ big) (h : ws.all goodWord = true) : GoodIn big ws := fun w hw => ⟨hm w hw, good_of_word (List.all_eq_true.mp h w hw)⟩

def RX0 : String := "CarbonMinistry$Asker"
def TX0 : u_T := fun k => match k with
  | 0 => ("CarbonMinistry$Asker", "text", "LCarbonMinistry$Text;", true)
  | 1 => ("CarbonMinistry$Asker", "engine", "LCarbonMinistry$Engine;", true)
  | 2 => ("CarbonMinistry$Asker", "now", "LCarbonMinistry$State;", true)
  | 3 => ("CarbonMinistry$Asker", "roads", "LCarbonMinistry$Roads;", true)
  | 4 => ("CarbonMinistry$Asker", "code", "LCarbonMinistry$Code;", true)
  | _ => ("CarbonMinistry$Asker", "grammar", "LCarbonMinistry$Grammar;", true)
def tyX0 : Nat → FieldType := fun k => match k with
  | 0 => .object "CarbonMinistry$Text"
  | 1 => .object "CarbonMinistry$Engine"
  | 2 => .object "CarbonMinistry$State"
  | 3 => .object "CarbonMinistry$Roads"
  | 4 => .object "CarbonMinistry$Code"
  | _ => .object "CarbonMinistry$Grammar"
abbrev wsX00 : List Cond := u_ws RX0 TX0 6
theorem nmX0 : ∀ a, a < 6 → ∀ b, b < 6 → a ≠ b → (TX0 a).2.1 ≠ (TX0 b).2.1 := by decide +kernel
theorem tyX0_ok : ∀ k, k < 6 → parseFieldDescriptor (TX0 k).2.2.1 = some (tyX0 k) := by decide +kernel
abbrev cX0_init : ByteArray := prog_2_method_1_code
def yX0_init : MethodName := ⟨RX0, "<init>", "(LCarbonMinistry$Text;LCarbonMinistry$Engine;LCarbonMinistry$State;LCarbonMinistry$Roads;)V"⟩
abbrev cX0_answer : ByteArray := prog_2_method_2_code
def yX0_answer : MethodName := ⟨RX0, "answer", "()J"⟩
abbrev cX0_answerOfAll : ByteArray := prog_2_method_3_code
def yX0_answerOfAll : MethodName := ⟨RX0, "answerOfAll", "(I)J"⟩
abbrev cX0_valueOf : ByteArray := prog_2_method_4_code
def yX0_valueOf : MethodName := ⟨RX0, "valueOf", "(I)J"⟩
def RX1 : String := "CarbonMinistry$Clerk"
def TX1 : u_T := fun k => match k with
  | 0 => ("CarbonMinistry$Clerk", "text", "LCarbonMinistry$Text;", true)
  | 1 => ("CarbonMinistry$Clerk", "grammar", "LCarbonMinistry$Grammar;", true)
  | 2 => ("CarbonMinistry$Clerk", "plan", "LCarbonMinistry$Plan;", false)
  | _ => ("CarbonMinistry$Clerk", "lawsTold", "I", false)
def tyX1 : Nat → FieldType := fun k => match k with
  | 0 => .object "CarbonMinistry$Text"
  | 1 => .object "CarbonMinistry$Grammar"
  | 2 => .object "CarbonMinistry$Plan"
  | _ => .int
abbrev wsX10 : List Cond := u_ws RX1 TX1 4
theorem nmX1 : ∀ a, a < 4 → ∀ b, b < 4 → a ≠ b → (TX1 a).2.1 ≠ (TX1 b).2.1 := by decide +kernel
theorem tyX1_ok : ∀ k, k < 4 → parseFieldDescriptor (TX1 k).2.2.1 = some (tyX1 k) := by decide +kernel
abbrev cX1_init : ByteArray := prog_3_method_1_code
def yX1_init : MethodName := ⟨RX1, "<init>", "(LCarbonMinistry$Text;LCarbonMinistry$Plan;)V"⟩
abbrev cX1_readAll : ByteArray := prog_3_method_2_code
def yX1_readAll : MethodName := ⟨RX1, "readAll", "(LCarbonMinistry$Plan;)Z"⟩
abbrev cX1_readStatement : ByteArray := prog_3_method_3_code
def yX1_readStatement : MethodName := ⟨RX1, "readStatement", "()Z"⟩
abbrev cX1_takeKind : ByteArray := prog_3_method_4_code
def yX1_takeKind : MethodName := ⟨RX1, "takeKind", "(II)Z"⟩
abbrev cX1_readOfficer : ByteArray := prog_3_method_5_code
def yX1_readOfficer : MethodName := ⟨RX1, "readOfficer", "()Z"⟩
abbrev cX1_readFeeling : ByteArray := prog_3_method_6_code
def yX1_readFeeling : MethodName := ⟨RX1, "readFeeling", "()Z"⟩
abbrev cX1_readCarbon : ByteArray := prog_3_method_7_code
def yX1_readCarbon : MethodName := ⟨RX1, "readCarbon", "()Z"⟩
abbrev cX1_readFelt : ByteArray := prog_3_method_8_code
def yX1_readFelt : MethodName := ⟨RX1, "readFelt", "()Z"⟩
abbrev cX1_readLaw : ByteArray := prog_3_method_9_code
def yX1_readLaw : MethodName := ⟨RX1, "readLaw", "(I)Z"⟩
abbrev cX1_readSlip : ByteArray := prog_3_method_10_code
def yX1_readSlip : MethodName := ⟨RX1, "readSlip", "()Z"⟩
abbrev cX1_takeNewName : ByteArray := prog_3_method_11_code
def yX1_takeNewName : MethodName := ⟨RX1, "takeNewName", "()I"⟩
abbrev cX1_nameAmong : ByteArray := prog_3_method_12_code
def yX1_nameAmong : MethodName := ⟨RX1, "nameAmong", "([II)I"⟩
abbrev cX1_indexOf : ByteArray := prog_3_method_13_code
def yX1_indexOf : MethodName := ⟨RX1, "indexOf", "(I[II)I"⟩
def RX2 : String := "CarbonMinistry$Code"
def TX2 : u_T := fun k => match k with
  | 0 => ("CarbonMinistry$Code", "row", "[I", true)
  | 1 => ("CarbonMinistry$Code", "size", "I", false)
  | 2 => ("CarbonMinistry$Code", "values", "[I", true)
  | 3 => ("CarbonMinistry$Code", "felt", "[I", true)
  | 4 => ("CarbonMinistry$Code", "far", "[I", true)
  | _ => ("CarbonMinistry$Code", "places", "[I", true)
def tyX2 : Nat → FieldType := fun k => match k with
  | 0 => .array .int
  | 1 => .int
  | 2 => .array .int
  | 3 => .array .int
  | 4 => .array .int
  | _ => .array .int
abbrev wsX20 : List Cond := u_ws RX2 TX2 6
theorem nmX2 : ∀ a, a < 6 → ∀ b, b < 6 → a ≠ b → (TX2 a).2.1 ≠ (TX2 b).2.1 := by decide +kernel
theorem tyX2_ok : ∀ k, k < 6 → parseFieldDescriptor (TX2 k).2.2.1 = some (tyX2 k) := by decide +kernel
abbrev cX2_init : ByteArray := prog_4_method_1_code
def yX2_init : MethodName := ⟨RX2, "<init>", "()V"⟩
abbrev cX2_add : ByteArray := prog_4_method_2_code
def yX2_add : MethodName := ⟨RX2, "add", "(I)Z"⟩
abbrev cX2_set : ByteArray := prog_4_method_3_code
def yX2_set : MethodName := ⟨RX2, "set", "(II)V"⟩
abbrev cX2_run : ByteArray := prog_4_method_4_code
def yX2_run : MethodName := ⟨RX2, "run", "(II)I"⟩
abbrev cX2_ofOne : ByteArray := prog_4_method_5_code
def yX2_ofOne : MethodName := ⟨RX2, "ofOne", "(II)I"⟩
abbrev cX2_ofTwo : ByteArray := prog_4_method_6_code
def yX2_ofTwo : MethodName := ⟨RX2, "ofTwo", "(III)I"⟩
abbrev cX2_held : ByteArray := prog_4_method_7_code
def yX2_held : MethodName := ⟨RX2, "held", "(J)I"⟩
def RX3 : String := "CarbonMinistry$Engine"
def TX3 : u_T := fun k => match k with
  | 0 => ("CarbonMinistry$Engine", "plan", "LCarbonMinistry$Plan;", false)
  | 1 => ("CarbonMinistry$Engine", "passedRow", "[I", true)
  | 2 => ("CarbonMinistry$Engine", "fadedRow", "[I", true)
  | 3 => ("CarbonMinistry$Engine", "stamp", "I", false)
  | 4 => ("CarbonMinistry$Engine", "day", "I", false)
  | _ => ("CarbonMinistry$Engine", "sums", "[I", true)
def tyX3 : Nat → FieldType := fun k => match k with
  | 0 => .object "CarbonMinistry$Plan"
  | 1 => .array .int
  | 2 => .array .int
  | 3 => .int
  | 4 => .int
  | _ => .array .int
abbrev wsX30 : List Cond := u_ws RX3 TX3 6
theorem nmX3 : ∀ a, a < 6 → ∀ b, b < 6 → a ≠ b → (TX3 a).2.1 ≠ (TX3 b).2.1 := by decide +kernel
theorem tyX3_ok : ∀ k, k < 6 → parseFieldDescriptor (TX3 k).2.2.1 = some (tyX3 k) := by decide +kernel
abbrev cX3_init : ByteArray := prog_5_method_1_code
def yX3_init : MethodName := ⟨RX3, "<init>", "(LCarbonMinistry$Plan;)V"⟩
abbrev cX3_use : ByteArray := prog_5_method_2_code
def yX3_use : MethodName := ⟨RX3, "use", "(LCarbonMinistry$Plan;)V"⟩
abbrev cX3_openDay : ByteArray := prog_5_method_3_code
def yX3_openDay : MethodName := ⟨RX3, "openDay", "(I)V"⟩
abbrev cX3_giver : ByteArray := prog_5_method_4_code
def yX3_giver : MethodName := ⟨RX3, "giver", "(II)I"⟩
abbrev cX3_taker : ByteArray := prog_5_method_5_code
def yX3_taker : MethodName := ⟨RX3, "taker", "(II)I"⟩
abbrev cX3_passed : ByteArray := prog_5_method_6_code
def yX3_passed : MethodName := ⟨RX3, "passed", "(III)I"⟩
abbrev cX3_faded : ByteArray := prog_5_method_7_code
def yX3_faded : MethodName := ⟨RX3, "faded", "(II)I"⟩
abbrev cX3_setOfficer : ByteArray := prog_5_method_8_code
def yX3_setOfficer : MethodName := ⟨RX3, "setOfficer", "(III)V"⟩
abbrev cX3_cut : ByteArray := prog_5_method_9_code
def yX3_cut : MethodName := ⟨RX3, "cut", "(I)I"⟩
abbrev cX3_next : ByteArray := prog_5_method_10_code
def yX3_next : MethodName := ⟨RX3, "next", "(JII)J"⟩
abbrev cX3_flow : ByteArray := prog_5_method_11_code
def yX3_flow : MethodName := ⟨RX3, "flow", "(LCarbonMinistry$State;)Z"⟩
abbrev cX3_wholeDay : ByteArray := prog_5_method_12_code
def yX3_wholeDay : MethodName := ⟨RX3, "wholeDay", "(LCarbonMinistry$State;)I"⟩
abbrev cX3_actsOn : ByteArray := prog_5_method_13_code
def yX3_actsOn : MethodName := ⟨RX3, "actsOn", "(IIII)Z"⟩
def RX4 : String := "CarbonMinistry$Finder"
def TX4 : u_T := fun k => match k with
  | 0 => ("CarbonMinistry$Finder", "engine", "LCarbonMinistry$Engine;", true)
  | 1 => ("CarbonMinistry$Finder", "now", "LCarbonMinistry$State;", true)
  | 2 => ("CarbonMinistry$Finder", "rowDay", "[I", true)
  | 3 => ("CarbonMinistry$Finder", "rowOfficer", "[I", true)
  | 4 => ("CarbonMinistry$Finder", "rowStrength", "[I", true)
  | 5 => ("CarbonMinistry$Finder", "rows", "I", false)
  | 6 => ("CarbonMinistry$Finder", "source", "[I", true)
  | 7 => ("CarbonMinistry$Finder", "felt", "[J", true)
  | 8 => ("CarbonMinistry$Finder", "count", "I", false)
  | 9 => ("CarbonMinistry$Finder", "tally", "[I", true)
  | 10 => ("CarbonMinistry$Finder", "tellingDay", "I", false)
  | 11 => ("CarbonMinistry$Finder", "tellingOfficer", "I", false)
  | 12 => ("CarbonMinistry$Finder", "tellingLeft", "I", false)
  | 13 => ("CarbonMinistry$Finder", "searched", "Z", false)
  | _ => ("CarbonMinistry$Finder", "weighed", "Z", false)
def tyX4 : Nat → FieldType := fun k => match k with
  | 0 => .object "CarbonMinistry$Engine"
  | 1 => .object "CarbonMinistry$State"
  | 2 => .array .int
  | 3 => .array .int
  | 4 => .array .int
  | 5 => .int
  | 6 => .array .int
  | 7 => .array .long
  | 8 => .int
  | 9 => .array .int
  | 10 => .int
  | 11 => .int
  | 12 => .int
  | 13 => .boolean
  | _ => .boolean
abbrev wsX40 : List Cond := u_ws RX4 TX4 15
theorem nmX4 : ∀ a, a < 15 → ∀ b, b < 15 → a ≠ b → (TX4 a).2.1 ≠ (TX4 b).2.1 := by decide +kernel
theorem tyX4_ok : ∀ k, k < 15 → parseFieldDescriptor (TX4 k).2.2.1 = some (tyX4 k) := by decide +kernel
abbrev cX4_init : ByteArray := prog_6_method_1_code
def yX4_init : MethodName := ⟨RX4, "<init>", "(LCarbonMinistry$Engine;LCarbonMinistry$State;)V"⟩
abbrev cX4_forget : ByteArray := prog_6_method_2_code
def yX4_forget : MethodName := ⟨RX4, "forget", "()V"⟩
abbrev cX4_learn : ByteArray := prog_6_method_3_code
def yX4_learn : MethodName := ⟨RX4, "learn", "(LCarbonMinistry$Text;)Z"⟩
abbrev cX4_search : ByteArray := prog_6_method_4_code
def yX4_search : MethodName := ⟨RX4, "search", "()V"⟩
abbrev cX4_lastRowDay : ByteArray := prog_6_method_5_code
def yX4_lastRowDay : MethodName := ⟨RX4, "lastRowDay", "()I"⟩
abbrev cX4_begin : ByteArray := prog_6_method_6_code
def yX4_begin : MethodName := ⟨RX4, "begin", "()V"⟩
abbrev cX4_pass : ByteArray := prog_6_method_7_code
def yX4_pass : MethodName := ⟨RX4, "pass", "(I)V"⟩
abbrev cX4_sift : ByteArray := prog_6_method_8_code
def yX4_sift : MethodName := ⟨RX4, "sift", "(I)V"⟩
abbrev cX4_fits : ByteArray := prog_6_method_9_code
def yX4_fits : MethodName := ⟨RX4, "fits", "(IJ)Z"⟩
abbrev cX4_weigh : ByteArray := prog_6_method_10_code
def yX4_weigh : MethodName := ⟨RX4, "weigh", "()Z"⟩
abbrev cX4_weighDay : ByteArray := prog_6_method_11_code
def yX4_weighDay : MethodName := ⟨RX4, "weighDay", "(I)V"⟩
abbrev cX4_mostLeft : ByteArray := prog_6_method_12_code
def yX4_mostLeft : MethodName := ⟨RX4, "mostLeft", "(I)I"⟩
def RX5 : String := "CarbonMinistry$Grammar"
def TX5 : u_T := fun k => match k with
  | 0 => ("CarbonMinistry$Grammar", "text", "LCarbonMinistry$Text;", true)
  | 1 => ("CarbonMinistry$Grammar", "code", "LCarbonMinistry$Code;", false)
  | 2 => ("CarbonMinistry$Grammar", "sort", "I", false)
  | _ => ("CarbonMinistry$Grammar", "namesDay", "Z", false)
def tyX5 : Nat → FieldType := fun k => match k with
  | 0 => .object "CarbonMinistry$Text"
  | 1 => .object "CarbonMinistry$Code"
  | 2 => .int
  | _ => .boolean
abbrev wsX50 : List Cond := u_ws RX5 TX5 4
theorem nmX5 : ∀ a, a < 4 → ∀ b, b < 4 → a ≠ b → (TX5 a).2.1 ≠ (TX5 b).2.1 := by decide +kernel
theorem tyX5_ok : ∀ k, k < 4 → parseFieldDescriptor (TX5 k).2.2.1 = some (tyX5 k) := by decide +kernel
abbrev cX5_init : ByteArray := prog_7_method_1_code
def yX5_init : MethodName := ⟨RX5, "<init>", "(LCarbonMinistry$Text;LCarbonMinistry$Code;)V"⟩
abbrev cX5_begin : ByteArray := prog_7_method_2_code
def yX5_begin : MethodName := ⟨RX5, "begin", "(LCarbonMinistry$Code;I)V"⟩
abbrev cX5_readTest : ByteArray := prog_7_method_3_code
def yX5_readTest : MethodName := ⟨RX5, "readTest", "(I)Z"⟩
abbrev cX5_readBoth : ByteArray := prog_7_method_4_code
def yX5_readBoth : MethodName := ⟨RX5, "readBoth", "(I)Z"⟩
abbrev cX5_readFact : ByteArray := prog_7_method_5_code
def yX5_readFact : MethodName := ⟨RX5, "readFact", "(I)Z"⟩
abbrev cX5_readSum : ByteArray := prog_7_method_6_code
def yX5_readSum : MethodName := ⟨RX5, "readSum", "(I)Z"⟩
abbrev cX5_readProduct : ByteArray := prog_7_method_7_code
def yX5_readProduct : MethodName := ⟨RX5, "readProduct", "(I)Z"⟩
abbrev cX5_readPart : ByteArray := prog_7_method_8_code
def yX5_readPart : MethodName := ⟨RX5, "readPart", "(I)Z"⟩
abbrev cX5_readPair : ByteArray := prog_7_method_9_code
def yX5_readPair : MethodName := ⟨RX5, "readPair", "(II)Z"⟩
abbrev cX5_readOf : ByteArray := prog_7_method_10_code
def yX5_readOf : MethodName := ⟨RX5, "readOf", "(II)Z"⟩
abbrev cX5_valueHere : ByteArray := prog_7_method_11_code
def yX5_valueHere : MethodName := ⟨RX5, "valueHere", "()I"⟩
def RX6 : String := "CarbonMinistry$History"
def TX6 : u_T := fun k => match k with
  | 0 => ("CarbonMinistry$History", "rows", "[LCarbonMinistry$State;", true)
  | 1 => ("CarbonMinistry$History", "next", "I", false)
  | _ => ("CarbonMinistry$History", "count", "I", false)
def tyX6 : Nat → FieldType := fun k => match k with
  | 0 => .array (.object "CarbonMinistry$State")
  | 1 => .int
  | _ => .int
abbrev wsX60 : List Cond := u_ws RX6 TX6 3
theorem nmX6 : ∀ a, a < 3 → ∀ b, b < 3 → a ≠ b → (TX6 a).2.1 ≠ (TX6 b).2.1 := by decide +kernel
theorem tyX6_ok : ∀ k, k < 3 → parseFieldDescriptor (TX6 k).2.2.1 = some (tyX6 k) := by decide +kernel
abbrev cX6_init : ByteArray := prog_8_method_1_code
def yX6_init : MethodName := ⟨RX6, "<init>", "()V"⟩
abbrev cX6_clear : ByteArray := prog_8_method_2_code
def yX6_clear : MethodName := ⟨RX6, "clear", "()V"⟩
abbrev cX6_remember : ByteArray := prog_8_method_3_code
def yX6_remember : MethodName := ⟨RX6, "remember", "(LCarbonMinistry$State;)V"⟩
abbrev cX6_takeBack : ByteArray := prog_8_method_4_code
def yX6_takeBack : MethodName := ⟨RX6, "takeBack", "(LCarbonMinistry$State;)Z"⟩
def RX7 : String := "CarbonMinistry$Plan"
def TX7 : u_T := fun k => match k with
  | 0 => ("CarbonMinistry$Plan", "officers", "I", false)
  | 1 => ("CarbonMinistry$Plan", "feelings", "I", false)
  | 2 => ("CarbonMinistry$Plan", "carbons", "I", false)
  | 3 => ("CarbonMinistry$Plan", "statements", "I", false)
  | 4 => ("CarbonMinistry$Plan", "slip", "I", false)
  | 5 => ("CarbonMinistry$Plan", "daily", "Z", false)
  | 6 => ("CarbonMinistry$Plan", "officerName", "[I", true)
  | 7 => ("CarbonMinistry$Plan", "shape", "[I", true)
  | 8 => ("CarbonMinistry$Plan", "press", "[I", true)
  | 9 => ("CarbonMinistry$Plan", "feelingName", "[I", true)
  | 10 => ("CarbonMinistry$Plan", "from", "[I", true)
  | 11 => ("CarbonMinistry$Plan", "to", "[I", true)
  | 12 => ("CarbonMinistry$Plan", "sheets", "[I", true)
  | 13 => ("CarbonMinistry$Plan", "felt", "[J", true)
  | 14 => ("CarbonMinistry$Plan", "code", "LCarbonMinistry$Code;", true)
  | 15 => ("CarbonMinistry$Plan", "lawStart", "[I", true)
  | _ => ("CarbonMinistry$Plan", "lawStop", "[I", true)
def tyX7 : Nat → FieldType := fun k => match k with
  | 0 => .int
  | 1 => .int
  | 2 => .int
  | 3 => .int
  | 4 => .int
  | 5 => .boolean
  | 6 => .array .int
  | 7 => .array .int
  | 8 => .array .int
  | 9 => .array .int
  | 10 => .array .int
  | 11 => .array .int
  | 12 => .array .int
  | 13 => .array .long
  | 14 => .object "CarbonMinistry$Code"
  | 15 => .array .int
  | _ => .array .int
abbrev wsX70 : List Cond := u_ws RX7 TX7 17
theorem nmX7 : ∀ a, a < 17 → ∀ b, b < 17 → a ≠ b → (TX7 a).2.1 ≠ (TX7 b).2.1 := by decide +kernel
theorem tyX7_ok : ∀ k, k < 17 → parseFieldDescriptor (TX7 k).2.2.1 = some (tyX7 k) := by decide +kernel
abbrev cX7_init : ByteArray := prog_9_method_1_code
def yX7_init : MethodName := ⟨RX7, "<init>", "()V"⟩
abbrev cX7_clear : ByteArray := prog_9_method_2_code
def yX7_clear : MethodName := ⟨RX7, "clear", "()V"⟩
abbrev cX7_beginLaw : ByteArray := prog_9_method_3_code
def yX7_beginLaw : MethodName := ⟨RX7, "beginLaw", "(I)V"⟩
abbrev cX7_endLaw : ByteArray := prog_9_method_4_code
def yX7_endLaw : MethodName := ⟨RX7, "endLaw", "(I)V"⟩
def RX8 : String := "CarbonMinistry$Roads"
def TX8 : u_T := fun k => match k with
  | 0 => ("CarbonMinistry$Roads", "engine", "LCarbonMinistry$Engine;", true)
  | 1 => ("CarbonMinistry$Roads", "now", "LCarbonMinistry$State;", true)
  | 2 => ("CarbonMinistry$Roads", "far", "[I", true)
  | 3 => ("CarbonMinistry$Roads", "came", "[I", true)
  | 4 => ("CarbonMinistry$Roads", "flowing", "I", false)
  | 5 => ("CarbonMinistry$Roads", "bits", "[I", true)
  | 6 => ("CarbonMinistry$Roads", "felt", "[J", true)
  | _ => ("CarbonMinistry$Roads", "tries", "I", false)
def tyX8 : Nat → FieldType := fun k => match k with
  | 0 => .object "CarbonMinistry$Engine"
  | 1 => .object "CarbonMinistry$State"
  | 2 => .array .int
  | 3 => .array .int
  | 4 => .int
  | 5 => .array .int
  | 6 => .array .long
  | _ => .int
abbrev wsX80 : List Cond := u_ws RX8 TX8 8
theorem nmX8 : ∀ a, a < 8 → ∀ b, b < 8 → a ≠ b → (TX8 a).2.1 ≠ (TX8 b).2.1 := by decide +kernel
theorem tyX8_ok : ∀ k, k < 8 → parseFieldDescriptor (TX8 k).2.2.1 = some (tyX8 k) := by decide +kernel
abbrev cX8_init : ByteArray := prog_10_method_1_code
def yX8_init : MethodName := ⟨RX8, "<init>", "(LCarbonMinistry$Engine;LCarbonMinistry$State;)V"⟩
abbrev cX8_isIn : ByteArray := prog_10_method_2_code
def yX8_isIn : MethodName := ⟨RX8, "isIn", "(I)Z"⟩
abbrev cX8_countTo : ByteArray := prog_10_method_3_code
def yX8_countTo : MethodName := ⟨RX8, "countTo", "(I)I"⟩
abbrev cX8_countFrom : ByteArray := prog_10_method_4_code
def yX8_countFrom : MethodName := ⟨RX8, "countFrom", "(I)I"⟩
abbrev cX8_countFrom_ : ByteArray := prog_10_method_5_code
def yX8_countFrom_ : MethodName := ⟨RX8, "countFrom", "(II)I"⟩
abbrev cX8_measure : ByteArray := prog_10_method_6_code
def yX8_measure : MethodName := ⟨RX8, "measure", "(I)V"⟩
abbrev cX8_fewestCut : ByteArray := prog_10_method_7_code
def yX8_fewestCut : MethodName := ⟨RX8, "fewestCut", "(II)I"⟩
abbrev cX8_findRow : ByteArray := prog_10_method_8_code
def yX8_findRow : MethodName := ⟨RX8, "findRow", "(II)Z"⟩
abbrev cX8_addRow : ByteArray := prog_10_method_9_code
def yX8_addRow : MethodName := ⟨RX8, "addRow", "(II)V"⟩
abbrev cX8_fewestTurns : ByteArray := prog_10_method_10_code
def yX8_fewestTurns : MethodName := ⟨RX8, "fewestTurns", "(IIII)I"⟩
abbrev cX8_carbonsNear : ByteArray := prog_10_method_11_code
def yX8_carbonsNear : MethodName := ⟨RX8, "carbonsNear", "(II)I"⟩
abbrev cX8_gather : ByteArray := prog_10_method_12_code
def yX8_gather : MethodName := ⟨RX8, "gather", "(IIJ)V"⟩
abbrev cX8_spread : ByteArray := prog_10_method_13_code
def yX8_spread : MethodName := ⟨RX8, "spread", "(II)I"⟩
abbrev cX8_pass : ByteArray := prog_10_method_14_code
def yX8_pass : MethodName := ⟨RX8, "pass", "(I)V"⟩
def RX9 : String := "CarbonMinistry$State"
def TX9 : u_T := fun k => match k with
  | 0 => ("CarbonMinistry$State", "day", "I", false)
  | 1 => ("CarbonMinistry$State", "in", "I", false)
  | 2 => ("CarbonMinistry$State", "turned", "I", false)
  | 3 => ("CarbonMinistry$State", "felt", "[J", true)
  | 4 => ("CarbonMinistry$State", "keptRow", "[I", true)
  | _ => ("CarbonMinistry$State", "keptEver", "I", false)
def tyX9 : Nat → FieldType := fun k => match k with
  | 0 => .int
  | 1 => .int
  | 2 => .int
  | 3 => .array .long
  | 4 => .array .int
  | _ => .int
abbrev wsX90 : List Cond := u_ws RX9 TX9 6
theorem nmX9 : ∀ a, a < 6 → ∀ b, b < 6 → a ≠ b → (TX9 a).2.1 ≠ (TX9 b).2.1 := by decide +kernel
theorem tyX9_ok : ∀ k, k < 6 → parseFieldDescriptor (TX9 k).2.2.1 = some (tyX9 k) := by decide +kernel
abbrev cX9_init : ByteArray := prog_11_method_1_code
def yX9_init : MethodName := ⟨RX9, "<init>", "()V"⟩
abbrev cX9_clear : ByteArray := prog_11_method_2_code
def yX9_clear : MethodName := ⟨RX9, "clear", "()V"⟩
abbrev cX9_begin : ByteArray := prog_11_method_3_code
def yX9_begin : MethodName := ⟨RX9, "begin", "(LCarbonMinistry$Plan;)V"⟩
abbrev cX9_copyWorld : ByteArray := prog_11_method_4_code
def yX9_copyWorld : MethodName := ⟨RX9, "copyWorld", "(LCarbonMinistry$State;)V"⟩
abbrev cX9_copyAll : ByteArray := prog_11_method_5_code
def yX9_copyAll : MethodName := ⟨RX9, "copyAll", "(LCarbonMinistry$State;)V"⟩
abbrev cX9_strength : ByteArray := prog_11_method_6_code
def yX9_strength : MethodName := ⟨RX9, "strength", "(II)I"⟩
abbrev cX9_setStrength : ByteArray := prog_11_method_7_code
def yX9_setStrength : MethodName := ⟨RX9, "setStrength", "(III)V"⟩
abbrev cX9_keep : ByteArray := prog_11_method_8_code
def yX9_keep : MethodName := ⟨RX9, "keep", "(III)V"⟩
abbrev cX9_told : ByteArray := prog_11_method_9_code
def yX9_told : MethodName := ⟨RX9, "told", "()I"⟩
abbrev cX9_keptPart : ByteArray := prog_11_method_10_code
def yX9_keptPart : MethodName := ⟨RX9, "keptPart", "(II)I"⟩
def RX10 : String := "CarbonMinistry$Text"
def TX10 : u_T := fun k => match k with
  | 0 => ("CarbonMinistry$Text", "octets", "[I", true)
  | 1 => ("CarbonMinistry$Text", "size", "I", false)
  | 2 => ("CarbonMinistry$Text", "items", "[I", true)
  | 3 => ("CarbonMinistry$Text", "count", "I", false)
  | 4 => ("CarbonMinistry$Text", "item", "I", false)
  | 5 => ("CarbonMinistry$Text", "what", "I", false)
  | 6 => ("CarbonMinistry$Text", "start", "I", false)
  | 7 => ("CarbonMinistry$Text", "stop", "I", false)
  | 8 => ("CarbonMinistry$Text", "fault", "I", false)
  | _ => ("CarbonMinistry$Text", "place", "I", false)
def tyX10 : Nat → FieldType := fun k => match k with
  | 0 => .array .int
  | 1 => .int
  | 2 => .array .int
  | 3 => .int
  | 4 => .int
  | 5 => .int
  | 6 => .int
  | 7 => .int
  | 8 => .int
  | _ => .int
abbrev wsX100 : List Cond := u_ws RX10 TX10 10
theorem nmX10 : ∀ a, a < 10 → ∀ b, b < 10 → a ≠ b → (TX10 a).2.1 ≠ (TX10 b).2.1 := by decide +kernel
theorem tyX10_ok : ∀ k, k < 10 → parseFieldDescriptor (TX10 k).2.2.1 = some (tyX10 k) := by decide +kernel
abbrev cX10_init : ByteArray := prog_12_method_1_code
def yX10_init : MethodName := ⟨RX10, "<init>", "()V"⟩
abbrev cX10_append : ByteArray := prog_12_method_2_code
def yX10_append : MethodName := ⟨RX10, "append", "(I)V"⟩
abbrev cX10_octetAt : ByteArray := prog_12_method_3_code
def yX10_octetAt : MethodName := ⟨RX10, "octetAt", "(I)I"⟩
abbrev cX10_beginReading : ByteArray := prog_12_method_4_code
def yX10_beginReading : MethodName := ⟨RX10, "beginReading", "()V"⟩
abbrev cX10_addItem : ByteArray := prog_12_method_5_code
def yX10_addItem : MethodName := ⟨RX10, "addItem", "(III)V"⟩
abbrev cX10_endOfWord : ByteArray := prog_12_method_6_code
def yX10_endOfWord : MethodName := ⟨RX10, "endOfWord", "(I)I"⟩
abbrev cX10_endOfNumber : ByteArray := prog_12_method_7_code
def yX10_endOfNumber : MethodName := ⟨RX10, "endOfNumber", "(I)I"⟩
abbrev cX10_wordOf : ByteArray := prog_12_method_8_code
def yX10_wordOf : MethodName := ⟨RX10, "wordOf", "(II)I"⟩
abbrev cX10_isBlank : ByteArray := prog_12_method_9_code
def yX10_isBlank : MethodName := ⟨RX10, "isBlank", "(I)Z"⟩
abbrev cX10_isLetter : ByteArray := prog_12_method_10_code
def yX10_isLetter : MethodName := ⟨RX10, "isLetter", "(I)Z"⟩
abbrev cX10_isDigit : ByteArray := prog_12_method_11_code
def yX10_isDigit : MethodName := ⟨RX10, "isDigit", "(I)Z"⟩
abbrev cX10_advance : ByteArray := prog_12_method_12_code
def yX10_advance : MethodName := ⟨RX10, "advance", "()V"⟩
abbrev cX10_isSign : ByteArray := prog_12_method_13_code
def yX10_isSign : MethodName := ⟨RX10, "isSign", "(C)Z"⟩
abbrev cX10_refuseAt : ByteArray := prog_12_method_14_code
def yX10_refuseAt : MethodName := ⟨RX10, "refuseAt", "(II)Z"⟩
abbrev cX10_unfit : ByteArray := prog_12_method_15_code
def yX10_unfit : MethodName := ⟨RX10, "unfit", "()Z"⟩
abbrev cX10_takeWord : ByteArray := prog_12_method_16_code
def yX10_takeWord : MethodName := ⟨RX10, "takeWord", "(I)Z"⟩
abbrev cX10_takeSign : ByteArray := prog_12_method_17_code
def yX10_takeSign : MethodName := ⟨RX10, "takeSign", "(C)Z"⟩
abbrev cX10_takeOpening : ByteArray := prog_12_method_18_code
def yX10_takeOpening : MethodName := ⟨RX10, "takeOpening", "(I)Z"⟩
abbrev cX10_nameHere : ByteArray := prog_12_method_19_code
def yX10_nameHere : MethodName := ⟨RX10, "nameHere", "()I"⟩
abbrev cX10_takeNumber : ByteArray := prog_12_method_20_code
def yX10_takeNumber : MethodName := ⟨RX10, "takeNumber", "(II)I"⟩
def RX11 : String := "CarbonMinistry"
def TX11 : u_T := fun k => match k with
  | 0 => ("CarbonMinistry", "text", "LCarbonMinistry$Text;", true)
  | 1 => ("CarbonMinistry", "spare", "LCarbonMinistry$Plan;", false)
  | 2 => ("CarbonMinistry", "clerk", "LCarbonMinistry$Clerk;", true)
  | 3 => ("CarbonMinistry", "now", "LCarbonMinistry$State;", true)
  | 4 => ("CarbonMinistry", "then", "LCarbonMinistry$State;", true)
  | 5 => ("CarbonMinistry", "engine", "LCarbonMinistry$Engine;", true)
  | 6 => ("CarbonMinistry", "history", "LCarbonMinistry$History;", true)
  | 7 => ("CarbonMinistry", "roads", "LCarbonMinistry$Roads;", true)
  | 8 => ("CarbonMinistry", "finder", "LCarbonMinistry$Finder;", true)
  | 9 => ("CarbonMinistry", "asker", "LCarbonMinistry$Asker;", true)
  | 10 => ("CarbonMinistry", "image", "[I", true)
  | 11 => ("CarbonMinistry", "imageSize", "I", false)
  | 12 => ("CarbonMinistry", "refused", "[I", true)
  | _ => ("CarbonMinistry", "seed", "I", false)
def tyX11 : Nat → FieldType := fun k => match k with
  | 0 => .object "CarbonMinistry$Text"
  | 1 => .object "CarbonMinistry$Plan"
  | 2 => .object "CarbonMinistry$Clerk"
  | 3 => .object "CarbonMinistry$State"
  | 4 => .object "CarbonMinistry$State"
  | 5 => .object "CarbonMinistry$Engine"
  | 6 => .object "CarbonMinistry$History"
  | 7 => .object "CarbonMinistry$Roads"
  | 8 => .object "CarbonMinistry$Finder"
  | 9 => .object "CarbonMinistry$Asker"
  | 10 => .array .int
  | 11 => .int
  | 12 => .array .int
  | _ => .int
abbrev wsX110 : List Cond := u_ws RX11 TX11 14
theorem nmX11 : ∀ a, a < 14 → ∀ b, b < 14 → a ≠ b → (TX11 a).2.1 ≠ (TX11 b).2.1 := by decide +kernel
theorem tyX11_ok : ∀ k, k < 14 → parseFieldDescriptor (TX11 k).2.2.1 = some (tyX11 k) := by decide +kernel
abbrev cX11_init : ByteArray := prog_1_method_1_code
def yX11_init : MethodName := ⟨RX11, "<init>", "()V"⟩
abbrev cX11_feed : ByteArray := prog_1_method_2_code
def yX11_feed : MethodName := ⟨RX11, "feed", "(IIIII)I"⟩
abbrev cX11_end : ByteArray := prog_1_method_3_code
def yX11_end : MethodName := ⟨RX11, "end", "(I)Z"⟩
abbrev cX11_ministry : ByteArray := prog_1_method_4_code
def yX11_ministry : MethodName := ⟨RX11, "ministry", "()I"⟩
abbrev cX11_fault : ByteArray := prog_1_method_5_code
def yX11_fault : MethodName := ⟨RX11, "fault", "(I)I"⟩
abbrev cX11_has : ByteArray := prog_1_method_6_code
def yX11_has : MethodName := ⟨RX11, "has", "(I)I"⟩
abbrev cX11_allStrengths : ByteArray := prog_1_method_7_code
def yX11_allStrengths : MethodName := ⟨RX11, "allStrengths", "()I"⟩
abbrev cX11_letter : ByteArray := prog_1_method_8_code
def yX11_letter : MethodName := ⟨RX11, "letter", "(III)I"⟩
abbrev cX11_officer : ByteArray := prog_1_method_9_code
def yX11_officer : MethodName := ⟨RX11, "officer", "(II)I"⟩
abbrev cX11_carbon : ByteArray := prog_1_method_10_code
def yX11_carbon : MethodName := ⟨RX11, "carbon", "(II)I"⟩
abbrev cX11_feels : ByteArray := prog_1_method_11_code
def yX11_feels : MethodName := ⟨RX11, "feels", "(II)I"⟩
abbrev cX11_passes : ByteArray := prog_1_method_12_code
def yX11_passes : MethodName := ⟨RX11, "passes", "(II)I"⟩
abbrev cX11_kept : ByteArray := prog_1_method_13_code
def yX11_kept : MethodName := ⟨RX11, "kept", "(II)I"⟩
abbrev cX11_later : ByteArray := prog_1_method_14_code
def yX11_later : MethodName := ⟨RX11, "later", "(III)I"⟩
abbrev cX11_settles : ByteArray := prog_1_method_15_code
def yX11_settles : MethodName := ⟨RX11, "settles", "()I"⟩
abbrev cX11_strongest : ByteArray := prog_1_method_16_code
def yX11_strongest : MethodName := ⟨RX11, "strongest", "(II)I"⟩
abbrev cX11_acted : ByteArray := prog_1_method_17_code
def yX11_acted : MethodName := ⟨RX11, "acted", "(I)I"⟩
abbrev cX11_comes : ByteArray := prog_1_method_18_code
def yX11_comes : MethodName := ⟨RX11, "comes", "(II)Z"⟩
abbrev cX11_flowAhead : ByteArray := prog_1_method_19_code
def yX11_flowAhead : MethodName := ⟨RX11, "flowAhead", "(I)V"⟩
abbrev cX11_turning : ByteArray := prog_1_method_20_code
def yX11_turning : MethodName := ⟨RX11, "turning", "(IIII)I"⟩
abbrev cX11_steps : ByteArray := prog_1_method_21_code
def yX11_steps : MethodName := ⟨RX11, "steps", "(II)I"⟩
abbrev cX11_cutting : ByteArray := prog_1_method_22_code
def yX11_cutting : MethodName := ⟨RX11, "cutting", "(II)I"⟩
abbrev cX11_discover : ByteArray := prog_1_method_23_code
def yX11_discover : MethodName := ⟨RX11, "discover", "()I"⟩
abbrev cX11_sources : ByteArray := prog_1_method_24_code
def yX11_sources : MethodName := ⟨RX11, "sources", "(II)I"⟩
abbrev cX11_tells : ByteArray := prog_1_method_25_code
def yX11_tells : MethodName := ⟨RX11, "tells", "(II)I"⟩
abbrev cX11_put : ByteArray := prog_1_method_26_code
def yX11_put : MethodName := ⟨RX11, "put", "(III)Z"⟩
abbrev cX11_turn : ByteArray := prog_1_method_27_code
def yX11_turn : MethodName := ⟨RX11, "turn", "(II)Z"⟩
abbrev cX11_pull : ByteArray := prog_1_method_28_code
def yX11_pull : MethodName := ⟨RX11, "pull", "(II)Z"⟩
abbrev cX11_days : ByteArray := prog_1_method_29_code
def yX11_days : MethodName := ⟨RX11, "days", "(I)I"⟩
abbrev cX11_chance : ByteArray := prog_1_method_30_code
def yX11_chance : MethodName := ⟨RX11, "chance", "(I)I"⟩
abbrev cX11_slipsNow : ByteArray := prog_1_method_31_code
def yX11_slipsNow : MethodName := ⟨RX11, "slipsNow", "()Z"⟩
abbrev cX11_draw : ByteArray := prog_1_method_32_code
def yX11_draw : MethodName := ⟨RX11, "draw", "(I)I"⟩
abbrev cX11_undo : ByteArray := prog_1_method_33_code
def yX11_undo : MethodName := ⟨RX11, "undo", "()Z"⟩
abbrev cX11_seed : ByteArray := prog_1_method_34_code
def yX11_seed : MethodName := ⟨RX11, "seed", "(I)Z"⟩
abbrev cX11_beginAct : ByteArray := prog_1_method_35_code
def yX11_beginAct : MethodName := ⟨RX11, "beginAct", "()V"⟩
abbrev cX11_ask : ByteArray := prog_1_method_36_code
def yX11_ask : MethodName := ⟨RX11, "ask", "()J"⟩
abbrev cX11_image : ByteArray := prog_1_method_37_code
def yX11_image : MethodName := ⟨RX11, "image", "()I"⟩
abbrev cX11_addToImage : ByteArray := prog_1_method_38_code
def yX11_addToImage : MethodName := ⟨RX11, "addToImage", "(I)V"⟩
abbrev cX11_octet : ByteArray := prog_1_method_39_code
def yX11_octet : MethodName := ⟨RX11, "octet", "(I)I"⟩
abbrev cX11_on : ByteArray := prog_1_method_40_code
def yX11_on : MethodName := ⟨RX11, "on", "()Z"⟩
abbrev cX11_isImage : ByteArray := prog_1_method_41_code
def yX11_isImage : MethodName := ⟨RX11, "isImage", "()Z"⟩
abbrev cX11_takeImage : ByteArray := prog_1_method_42_code
def yX11_takeImage : MethodName := ⟨RX11, "takeImage", "()V"⟩
abbrev cX11_status : ByteArray := prog_1_method_43_code
def yX11_status : MethodName := ⟨RX11, "status", "(I)I"⟩
abbrev cX11_refuse : ByteArray := prog_1_method_44_code
def yX11_refuse : MethodName := ⟨RX11, "refuse", "(I)I"⟩
abbrev cX11_refused : ByteArray := prog_1_method_45_code
def yX11_refused : MethodName := ⟨RX11, "refused", "(I)Z"⟩
abbrev cX11_isOfficer : ByteArray := prog_1_method_46_code
def yX11_isOfficer : MethodName := ⟨RX11, "isOfficer", "(I)Z"⟩
abbrev cX11_isFeeling : ByteArray := prog_1_method_47_code
def yX11_isFeeling : MethodName := ⟨RX11, "isFeeling", "(I)Z"⟩
abbrev cX11_isCarbon : ByteArray := prog_1_method_48_code
def yX11_isCarbon : MethodName := ⟨RX11, "isCarbon", "(I)Z"⟩
abbrev cX11_strengthIn : ByteArray := prog_1_method_49_code
def yX11_strengthIn : MethodName := ⟨RX11, "strengthIn", "(JI)I"⟩
abbrev cX11_packed : ByteArray := prog_1_method_50_code
def yX11_packed : MethodName := ⟨RX11, "packed", "(II)J"⟩
def RX12 : String := "CarbonMinistryModel"
def TX12 : u_T := fun k => match k with
  | 0 => ("CarbonMinistryModel", "tape", "[I", true)
  | 1 => ("CarbonMinistryModel", "taped", "I", false)
  | 2 => ("CarbonMinistryModel", "at", "I", false)
  | 3 => ("CarbonMinistryModel", "end", "I", false)
  | 4 => ("CarbonMinistryModel", "ended", "I", false)
  | 5 => ("CarbonMinistryModel", "bad", "I", false)
  | 6 => ("CarbonMinistryModel", "badPlace", "I", false)
  | 7 => ("CarbonMinistryModel", "fault", "I", false)
  | 8 => ("CarbonMinistryModel", "faultPlace", "I", false)
  | 9 => ("CarbonMinistryModel", "refused", "[I", true)
  | 10 => ("CarbonMinistryModel", "numberPlace", "I", false)
  | 11 => ("CarbonMinistryModel", "officerWord", "[C", true)
  | 12 => ("CarbonMinistryModel", "shapeWord", "[C", true)
  | 13 => ("CarbonMinistryModel", "pressWord", "[C", true)
  | 14 => ("CarbonMinistryModel", "feelingWord", "[C", true)
  | 15 => ("CarbonMinistryModel", "carbonWord", "[C", true)
  | 16 => ("CarbonMinistryModel", "toWord", "[C", true)
  | 17 => ("CarbonMinistryModel", "sheetsWord", "[C", true)
  | 18 => ("CarbonMinistryModel", "feltWord", "[C", true)
  | 19 => ("CarbonMinistryModel", "ofWord", "[C", true)
  | 20 => ("CarbonMinistryModel", "isWord", "[C", true)
  | 21 => ("CarbonMinistryModel", "passesWord", "[C", true)
  | 22 => ("CarbonMinistryModel", "fadesWord", "[C", true)
  | 23 => ("CarbonMinistryModel", "actsWord", "[C", true)
  | 24 => ("CarbonMinistryModel", "slipWord", "[C", true)
  | 25 => ("CarbonMinistryModel", "strengthWord", "[C", true)
  | 26 => ("CarbonMinistryModel", "dayWord", "[C", true)
  | 27 => ("CarbonMinistryModel", "feelWord", "[C", true)
  | 28 => ("CarbonMinistryModel", "numberWord", "[C", true)
  | 29 => ("CarbonMinistryModel", "feelsWord", "[C", true)
  | 30 => ("CarbonMinistryModel", "stepsWord", "[C", true)
  | 31 => ("CarbonMinistryModel", "orWord", "[C", true)
  | 32 => ("CarbonMinistryModel", "andWord", "[C", true)
  | 33 => ("CarbonMinistryModel", "notWord", "[C", true)
  | 34 => ("CarbonMinistryModel", "allWord", "[C", true)
  | 35 => ("CarbonMinistryModel", "minWord", "[C", true)
  | 36 => ("CarbonMinistryModel", "maxWord", "[C", true)
  | 37 => ("CarbonMinistryModel", "namePlace", "I", false)
  | 38 => ("CarbonMinistryModel", "many", "[I", true)
  | 39 => ("CarbonMinistryModel", "names", "[J", true)
  | 40 => ("CarbonMinistryModel", "officers", "[I", true)
  | 41 => ("CarbonMinistryModel", "carbons", "[I", true)
  | 42 => ("CarbonMinistryModel", "strengths0", "[I", true)
  | 43 => ("CarbonMinistryModel", "codeFrom", "[I", true)
  | 44 => ("CarbonMinistryModel", "codeEnd", "[I", true)
  | 45 => ("CarbonMinistryModel", "codes", "[I", true)
  | 46 => ("CarbonMinistryModel", "coded", "I", false)
  | 47 => ("CarbonMinistryModel", "statements", "I", false)
  | 48 => ("CarbonMinistryModel", "textKind", "I", false)
  | 49 => ("CarbonMinistryModel", "now", "[I", true)
  | 50 => ("CarbonMinistryModel", "aside", "[I", true)
  | 51 => ("CarbonMinistryModel", "askOfficer", "I", false)
  | 52 => ("CarbonMinistryModel", "askStrength", "I", false)
  | 53 => ("CarbonMinistryModel", "askSheets", "I", false)
  | 54 => ("CarbonMinistryModel", "askFeel", "I", false)
  | 55 => ("CarbonMinistryModel", "askFeeling", "I", false)
  | 56 => ("CarbonMinistryModel", "isThought", "Z", false)
  | 57 => ("CarbonMinistryModel", "actedMany", "I", false)
  | 58 => ("CarbonMinistryModel", "ahead", "[I", true)
  | 59 => ("CarbonMinistryModel", "before", "[I", true)
  | 60 => ("CarbonMinistryModel", "stepsTo", "[I", true)
  | 61 => ("CarbonMinistryModel", "line", "[I", true)
  | 62 => ("CarbonMinistryModel", "isOnWay", "[Z", true)
  | 63 => ("CarbonMinistryModel", "cameBy", "[I", true)
  | 64 => ("CarbonMinistryModel", "rowMany", "I", false)
  | 65 => ("CarbonMinistryModel", "rows", "[I", true)
  | 66 => ("CarbonMinistryModel", "fits", "[Z", true)
  | 67 => ("CarbonMinistryModel", "fitMany", "I", false)
  | 68 => ("CarbonMinistryModel", "ways", "[I", true)
  | 69 => ("CarbonMinistryModel", "like", "[I", true)
  | 70 => ("CarbonMinistryModel", "kept0", "[I", true)
  | 71 => ("CarbonMinistryModel", "undoable", "I", false)
  | 72 => ("CarbonMinistryModel", "newest", "I", false)
  | 73 => ("CarbonMinistryModel", "seeded", "J", false)
  | 74 => ("CarbonMinistryModel", "firstAsked", "[C", true)
  | 75 => ("CarbonMinistryModel", "lastAsked", "[C", true)
  | 76 => ("CarbonMinistryModel", "oftenAsked", "[C", true)
  | 77 => ("CarbonMinistryModel", "totalAsked", "[C", true)
  | 78 => ("CarbonMinistryModel", "mostAsked", "[C", true)
  | 79 => ("CarbonMinistryModel", "leastAsked", "[C", true)
  | 80 => ("CarbonMinistryModel", "notAsked", "[C", true)
  | 81 => ("CarbonMinistryModel", "andAsked", "[C", true)
  | 82 => ("CarbonMinistryModel", "orAsked", "[C", true)
  | 83 => ("CarbonMinistryModel", "allAsked", "[C", true)
  | 84 => ("CarbonMinistryModel", "minAsked", "[C", true)
  | 85 => ("CarbonMinistryModel", "maxAsked", "[C", true)
  | 86 => ("CarbonMinistryModel", "pressAsked", "[C", true)
  | 87 => ("CarbonMinistryModel", "shapeAsked", "[C", true)
  | 88 => ("CarbonMinistryModel", "dayAsked", "[C", true)
  | 89 => ("CarbonMinistryModel", "strengthAsked", "[C", true)
  | 90 => ("CarbonMinistryModel", "sheetsAsked", "[C", true)
  | 91 => ("CarbonMinistryModel", "feelAsked", "[C", true)
  | 92 => ("CarbonMinistryModel", "feelingAsked", "[C", true)
  | 93 => ("CarbonMinistryModel", "numberAsked", "[C", true)
  | 94 => ("CarbonMinistryModel", "feelsofAsked", "[C", true)
  | 95 => ("CarbonMinistryModel", "stepsofAsked", "[C", true)
  | 96 => ("CarbonMinistryModel", "qCodes", "[I", true)
  | 97 => ("CarbonMinistryModel", "qCoded", "I", false)
  | 98 => ("CarbonMinistryModel", "qWait", "[I", true)
  | 99 => ("CarbonMinistryModel", "qWaits", "I", false)
  | 100 => ("CarbonMinistryModel", "qOpened", "I", false)
  | 101 => ("CarbonMinistryModel", "qBase", "I", false)
  | 102 => ("CarbonMinistryModel", "qPile", "[J", true)
  | 103 => ("CarbonMinistryModel", "qPiled", "I", false)
  | 104 => ("CarbonMinistryModel", "qAnswer", "J", false)
  | 105 => ("CarbonMinistryModel", "qIsNew", "Z", false)
  | 106 => ("CarbonMinistryModel", "octet", "[I", true)
  | _ => ("CarbonMinistryModel", "octets", "I", false)
def tyX12 : Nat → FieldType := fun k => match k with
  | 0 => .array .int
  | 1 => .int
  | 2 => .int
  | 3 => .int
  | 4 => .int
  | 5 => .int
  | 6 => .int
  | 7 => .int
  | 8 => .int
  | 9 => .array .int
  | 10 => .int
  | 11 => .array .char
  | 12 => .array .char
  | 13 => .array .char
  | 14 => .array .char
  | 15 => .array .char
  | 16 => .array .char
  | 17 => .array .char
  | 18 => .array .char
  | 19 => .array .char
  | 20 => .array .char
  | 21 => .array .char
  | 22 => .array .char
  | 23 => .array .char
  | 24 => .array .char
  | 25 => .array .char
  | 26 => .array .char
  | 27 => .array .char
  | 28 => .array .char
  | 29 => .array .char
  | 30 => .array .char
  | 31 => .array .char
  | 32 => .array .char
  | 33 => .array .char
  | 34 => .array .char
  | 35 => .array .char
  | 36 => .array .char
  | 37 => .int
  | 38 => .array .int
  | 39 => .array .long
  | 40 => .array .int
  | 41 => .array .int
  | 42 => .array .int
  | 43 => .array .int
  | 44 => .array .int
  | 45 => .array .int
  | 46 => .int
  | 47 => .int
  | 48 => .int
  | 49 => .array .int
  | 50 => .array .int
  | 51 => .int
  | 52 => .int
  | 53 => .int
  | 54 => .int
  | 55 => .int
  | 56 => .boolean
  | 57 => .int
  | 58 => .array .int
  | 59 => .array .int
  | 60 => .array .int
  | 61 => .array .int
  | 62 => .array .boolean
  | 63 => .array .int
  | 64 => .int
  | 65 => .array .int
  | 66 => .array .boolean
  | 67 => .int
  | 68 => .array .int
  | 69 => .array .int
  | 70 => .array .int
  | 71 => .int
  | 72 => .int
  | 73 => .long
  | 74 => .array .char
  | 75 => .array .char
  | 76 => .array .char
  | 77 => .array .char
  | 78 => .array .char
  | 79 => .array .char
  | 80 => .array .char
  | 81 => .array .char
  | 82 => .array .char
  | 83 => .array .char
  | 84 => .array .char
  | 85 => .array .char
  | 86 => .array .char
  | 87 => .array .char
  | 88 => .array .char
  | 89 => .array .char
  | 90 => .array .char
  | 91 => .array .char
  | 92 => .array .char
  | 93 => .array .char
  | 94 => .array .char
  | 95 => .array .char
  | 96 => .array .int
  | 97 => .int
  | 98 => .array .int
  | 99 => .int
  | 100 => .int
  | 101 => .int
  | 102 => .array .long
  | 103 => .int
  | 104 => .long
  | 105 => .boolean
  | 106 => .array .int
  | _ => .int
abbrev wsX120 : List Cond := u_ws RX12 TX12 108
theorem nmX12 : ∀ a, a < 108 → ∀ b, b < 108 → a ≠ b → (TX12 a).2.1 ≠ (TX12 b).2.1 := by decide +kernel
theorem tyX12_ok : ∀ k, k < 108 → parseFieldDescriptor (TX12 k).2.2.1 = some (tyX12 k) := by decide +kernel
abbrev cX12_init : ByteArray := prog_14_method_1_code
def yX12_init : MethodName := ⟨RX12, "<init>", "()V"⟩
abbrev cX12_isIn : ByteArray := prog_14_method_2_code
def yX12_isIn : MethodName := ⟨RX12, "isIn", "(JJJ)Z"⟩
abbrev cX12_cut : ByteArray := prog_14_method_3_code
def yX12_cut : MethodName := ⟨RX12, "cut", "(J)I"⟩
abbrev cX12_feed : ByteArray := prog_14_method_4_code
def yX12_feed : MethodName := ⟨RX12, "feed", "(IIIII)I"⟩
abbrev cX12_end : ByteArray := prog_14_method_5_code
def yX12_end : MethodName := ⟨RX12, "end", "(I)Z"⟩
abbrev cX12_fail : ByteArray := prog_14_method_6_code
def yX12_fail : MethodName := ⟨RX12, "fail", "(II)V"⟩
abbrev cX12_isLetter : ByteArray := prog_14_method_7_code
def yX12_isLetter : MethodName := ⟨RX12, "isLetter", "(I)Z"⟩
abbrev cX12_isDigit : ByteArray := prog_14_method_8_code
def yX12_isDigit : MethodName := ⟨RX12, "isDigit", "(I)Z"⟩
abbrev cX12_look : ByteArray := prog_14_method_9_code
def yX12_look : MethodName := ⟨RX12, "look", "()I"⟩
abbrev cX12_isHere : ByteArray := prog_14_method_10_code
def yX12_isHere : MethodName := ⟨RX12, "isHere", "([C)Z"⟩
abbrev cX12_takes : ByteArray := prog_14_method_11_code
def yX12_takes : MethodName := ⟨RX12, "takes", "([C)Z"⟩
abbrev cX12_asks : ByteArray := prog_14_method_12_code
def yX12_asks : MethodName := ⟨RX12, "asks", "([C)V"⟩
abbrev cX12_takesSign : ByteArray := prog_14_method_13_code
def yX12_takesSign : MethodName := ⟨RX12, "takesSign", "(I)Z"⟩
abbrev cX12_asksSign : ByteArray := prog_14_method_14_code
def yX12_asksSign : MethodName := ⟨RX12, "asksSign", "(I)V"⟩
abbrev cX12_number : ByteArray := prog_14_method_15_code
def yX12_number : MethodName := ⟨RX12, "number", "(II)I"⟩
abbrev cX12_isOwnHere : ByteArray := prog_14_method_16_code
def yX12_isOwnHere : MethodName := ⟨RX12, "isOwnHere", "()Z"⟩
abbrev cX12_name : ByteArray := prog_14_method_17_code
def yX12_name : MethodName := ⟨RX12, "name", "()J"⟩
abbrev cX12_isAllowed : ByteArray := prog_14_method_18_code
def yX12_isAllowed : MethodName := ⟨RX12, "isAllowed", "(I)Z"⟩
abbrev cX12_isFull : ByteArray := prog_14_method_19_code
def yX12_isFull : MethodName := ⟨RX12, "isFull", "(III)Z"⟩
abbrev cX12_newName : ByteArray := prog_14_method_20_code
def yX12_newName : MethodName := ⟨RX12, "newName", "()J"⟩
abbrev cX12_named : ByteArray := prog_14_method_21_code
def yX12_named : MethodName := ⟨RX12, "named", "(II)I"⟩
abbrev cX12_officerTold : ByteArray := prog_14_method_22_code
def yX12_officerTold : MethodName := ⟨RX12, "officerTold", "(I)V"⟩
abbrev cX12_feelingTold : ByteArray := prog_14_method_23_code
def yX12_feelingTold : MethodName := ⟨RX12, "feelingTold", "(I)V"⟩
abbrev cX12_carbonTold : ByteArray := prog_14_method_24_code
def yX12_carbonTold : MethodName := ⟨RX12, "carbonTold", "(I)V"⟩
abbrev cX12_feltTold : ByteArray := prog_14_method_25_code
def yX12_feltTold : MethodName := ⟨RX12, "feltTold", "()V"⟩
abbrev cX12_codesTold : ByteArray := prog_14_method_26_code
def yX12_codesTold : MethodName := ⟨RX12, "codesTold", "(II)V"⟩
abbrev cX12_statementTold : ByteArray := prog_14_method_27_code
def yX12_statementTold : MethodName := ⟨RX12, "statementTold", "()V"⟩
abbrev cX12_ministry : ByteArray := prog_14_method_28_code
def yX12_ministry : MethodName := ⟨RX12, "ministry", "()I"⟩
abbrev cX12_stands : ByteArray := prog_14_method_29_code
def yX12_stands : MethodName := ⟨RX12, "stands", "()V"⟩
abbrev cX12_fault : ByteArray := prog_14_method_30_code
def yX12_fault : MethodName := ⟨RX12, "fault", "(I)I"⟩
abbrev cX12_officerMany : ByteArray := prog_14_method_31_code
def yX12_officerMany : MethodName := ⟨RX12, "officerMany", "()I"⟩
abbrev cX12_feelingMany : ByteArray := prog_14_method_32_code
def yX12_feelingMany : MethodName := ⟨RX12, "feelingMany", "()I"⟩
abbrev cX12_carbonMany : ByteArray := prog_14_method_33_code
def yX12_carbonMany : MethodName := ⟨RX12, "carbonMany", "()I"⟩
abbrev cX12_isOfficer : ByteArray := prog_14_method_34_code
def yX12_isOfficer : MethodName := ⟨RX12, "isOfficer", "(J)Z"⟩
abbrev cX12_isFeeling : ByteArray := prog_14_method_35_code
def yX12_isFeeling : MethodName := ⟨RX12, "isFeeling", "(J)Z"⟩
abbrev cX12_isCarbon : ByteArray := prog_14_method_36_code
def yX12_isCarbon : MethodName := ⟨RX12, "isCarbon", "(I)Z"⟩
abbrev cX12_isInside : ByteArray := prog_14_method_37_code
def yX12_isInside : MethodName := ⟨RX12, "isInside", "(I)Z"⟩
abbrev cX12_isTurned : ByteArray := prog_14_method_38_code
def yX12_isTurned : MethodName := ⟨RX12, "isTurned", "(I)Z"⟩
abbrev cX12_fromOf : ByteArray := prog_14_method_39_code
def yX12_fromOf : MethodName := ⟨RX12, "fromOf", "(I)I"⟩
abbrev cX12_toOf : ByteArray := prog_14_method_40_code
def yX12_toOf : MethodName := ⟨RX12, "toOf", "(I)I"⟩
abbrev cX12_strengthOf : ByteArray := prog_14_method_41_code
def yX12_strengthOf : MethodName := ⟨RX12, "strengthOf", "(II)I"⟩
abbrev cX12_isTold : ByteArray := prog_14_method_42_code
def yX12_isTold : MethodName := ⟨RX12, "isTold", "(I)Z"⟩
abbrev cX12_codesTell : ByteArray := prog_14_method_43_code
def yX12_codesTell : MethodName := ⟨RX12, "codesTell", "(II)J"⟩
abbrev cX12_through : ByteArray := prog_14_method_44_code
def yX12_through : MethodName := ⟨RX12, "through", "(II)I"⟩
abbrev cX12_staysOf : ByteArray := prog_14_method_45_code
def yX12_staysOf : MethodName := ⟨RX12, "staysOf", "(II)I"⟩
abbrev cX12_isActed : ByteArray := prog_14_method_46_code
def yX12_isActed : MethodName := ⟨RX12, "isActed", "(II)Z"⟩
abbrev cX12_feelingGoes : ByteArray := prog_14_method_47_code
def yX12_feelingGoes : MethodName := ⟨RX12, "feelingGoes", "(I)V"⟩
abbrev cX12_isKept : ByteArray := prog_14_method_48_code
def yX12_isKept : MethodName := ⟨RX12, "isKept", "(II)V"⟩
abbrev cX12_dayGoes : ByteArray := prog_14_method_49_code
def yX12_dayGoes : MethodName := ⟨RX12, "dayGoes", "()V"⟩
abbrev cX12_daysGo : ByteArray := prog_14_method_50_code
def yX12_daysGo : MethodName := ⟨RX12, "daysGo", "(I)V"⟩
abbrev cX12_oneGoes : ByteArray := prog_14_method_51_code
def yX12_oneGoes : MethodName := ⟨RX12, "oneGoes", "(II)V"⟩
abbrev cX12_putsAside : ByteArray := prog_14_method_52_code
def yX12_putsAside : MethodName := ⟨RX12, "putsAside", "()V"⟩
abbrev cX12_triesAnew : ByteArray := prog_14_method_53_code
def yX12_triesAnew : MethodName := ⟨RX12, "triesAnew", "()V"⟩
abbrev cX12_takesBack : ByteArray := prog_14_method_54_code
def yX12_takesBack : MethodName := ⟨RX12, "takesBack", "()V"⟩
abbrev cX12_isAhead : ByteArray := prog_14_method_55_code
def yX12_isAhead : MethodName := ⟨RX12, "isAhead", "(III)Z"⟩
abbrev cX12_bits : ByteArray := prog_14_method_56_code
def yX12_bits : MethodName := ⟨RX12, "bits", "(I)I"⟩
abbrev cX12_carbonsThat : ByteArray := prog_14_method_57_code
def yX12_carbonsThat : MethodName := ⟨RX12, "carbonsThat", "(I)I"⟩
abbrev cX12_strengthAll : ByteArray := prog_14_method_58_code
def yX12_strengthAll : MethodName := ⟨RX12, "strengthAll", "()I"⟩
abbrev cX12_has : ByteArray := prog_14_method_59_code
def yX12_has : MethodName := ⟨RX12, "has", "(I)I"⟩
abbrev cX12_letter : ByteArray := prog_14_method_60_code
def yX12_letter : MethodName := ⟨RX12, "letter", "(III)I"⟩
abbrev cX12_leadingMany : ByteArray := prog_14_method_61_code
def yX12_leadingMany : MethodName := ⟨RX12, "leadingMany", "(IZ)I"⟩
abbrev cX12_officer : ByteArray := prog_14_method_62_code
def yX12_officer : MethodName := ⟨RX12, "officer", "(II)I"⟩
abbrev cX12_carbon : ByteArray := prog_14_method_63_code
def yX12_carbon : MethodName := ⟨RX12, "carbon", "(II)I"⟩
abbrev cX12_feels : ByteArray := prog_14_method_64_code
def yX12_feels : MethodName := ⟨RX12, "feels", "(II)I"⟩
abbrev cX12_passes : ByteArray := prog_14_method_65_code
def yX12_passes : MethodName := ⟨RX12, "passes", "(II)I"⟩
abbrev cX12_kept : ByteArray := prog_14_method_66_code
def yX12_kept : MethodName := ⟨RX12, "kept", "(II)I"⟩
abbrev cX12_later : ByteArray := prog_14_method_67_code
def yX12_later : MethodName := ⟨RX12, "later", "(III)I"⟩
abbrev cX12_isSettled : ByteArray := prog_14_method_68_code
def yX12_isSettled : MethodName := ⟨RX12, "isSettled", "()Z"⟩
abbrev cX12_settles : ByteArray := prog_14_method_69_code
def yX12_settles : MethodName := ⟨RX12, "settles", "()I"⟩
abbrev cX12_strongest : ByteArray := prog_14_method_70_code
def yX12_strongest : MethodName := ⟨RX12, "strongest", "(II)I"⟩
abbrev cX12_acted : ByteArray := prog_14_method_71_code
def yX12_acted : MethodName := ⟨RX12, "acted", "(I)I"⟩
abbrev cX12_insideSet : ByteArray := prog_14_method_72_code
def yX12_insideSet : MethodName := ⟨RX12, "insideSet", "()I"⟩
abbrev cX12_turning : ByteArray := prog_14_method_73_code
def yX12_turning : MethodName := ⟨RX12, "turning", "(IIII)I"⟩
abbrev cX12_laysSteps : ByteArray := prog_14_method_74_code
def yX12_laysSteps : MethodName := ⟨RX12, "laysSteps", "(I)V"⟩
abbrev cX12_steps : ByteArray := prog_14_method_75_code
def yX12_steps : MethodName := ⟨RX12, "steps", "(II)I"⟩
abbrev cX12_goesBy : ByteArray := prog_14_method_76_code
def yX12_goesBy : MethodName := ⟨RX12, "goesBy", "(II)I"⟩
abbrev cX12_isOneMore : ByteArray := prog_14_method_77_code
def yX12_isOneMore : MethodName := ⟨RX12, "isOneMore", "(II)Z"⟩
abbrev cX12_cutting : ByteArray := prog_14_method_78_code
def yX12_cutting : MethodName := ⟨RX12, "cutting", "(II)I"⟩
abbrev cX12_refuses : ByteArray := prog_14_method_79_code
def yX12_refuses : MethodName := ⟨RX12, "refuses", "(I)I"⟩
abbrev cX12_discover : ByteArray := prog_14_method_80_code
def yX12_discover : MethodName := ⟨RX12, "discover", "()I"⟩
abbrev cX12_isAsFound : ByteArray := prog_14_method_81_code
def yX12_isAsFound : MethodName := ⟨RX12, "isAsFound", "(II)Z"⟩
abbrev cX12_sourceGoes : ByteArray := prog_14_method_82_code
def yX12_sourceGoes : MethodName := ⟨RX12, "sourceGoes", "(II)V"⟩
abbrev cX12_laysSources : ByteArray := prog_14_method_83_code
def yX12_laysSources : MethodName := ⟨RX12, "laysSources", "(I)V"⟩
abbrev cX12_sources : ByteArray := prog_14_method_84_code
def yX12_sources : MethodName := ⟨RX12, "sources", "(II)I"⟩
abbrev cX12_mostAlike : ByteArray := prog_14_method_85_code
def yX12_mostAlike : MethodName := ⟨RX12, "mostAlike", "(II)I"⟩
abbrev cX12_tells : ByteArray := prog_14_method_86_code
def yX12_tells : MethodName := ⟨RX12, "tells", "(II)I"⟩
abbrev cX12_keeps : ByteArray := prog_14_method_87_code
def yX12_keeps : MethodName := ⟨RX12, "keeps", "()V"⟩
abbrev cX12_undo : ByteArray := prog_14_method_88_code
def yX12_undo : MethodName := ⟨RX12, "undo", "()Z"⟩
abbrev cX12_isChanged : ByteArray := prog_14_method_89_code
def yX12_isChanged : MethodName := ⟨RX12, "isChanged", "(ZII)Z"⟩
abbrev cX12_put : ByteArray := prog_14_method_90_code
def yX12_put : MethodName := ⟨RX12, "put", "(III)Z"⟩
abbrev cX12_turn : ByteArray := prog_14_method_91_code
def yX12_turn : MethodName := ⟨RX12, "turn", "(II)Z"⟩
abbrev cX12_pull : ByteArray := prog_14_method_92_code
def yX12_pull : MethodName := ⟨RX12, "pull", "(II)Z"⟩
abbrev cX12_days : ByteArray := prog_14_method_93_code
def yX12_days : MethodName := ⟨RX12, "days", "(I)I"⟩
abbrev cX12_seed : ByteArray := prog_14_method_94_code
def yX12_seed : MethodName := ⟨RX12, "seed", "(I)Z"⟩
abbrev cX12_drawOf : ByteArray := prog_14_method_95_code
def yX12_drawOf : MethodName := ⟨RX12, "drawOf", "(I)I"⟩
abbrev cX12_chance : ByteArray := prog_14_method_96_code
def yX12_chance : MethodName := ⟨RX12, "chance", "(I)I"⟩
abbrev cX12_qCode : ByteArray := prog_14_method_97_code
def yX12_qCode : MethodName := ⟨RX12, "qCode", "(I)V"⟩
abbrev cX12_qOpens : ByteArray := prog_14_method_98_code
def yX12_qOpens : MethodName := ⟨RX12, "qOpens", "(II)V"⟩
abbrev cX12_qIsOn : ByteArray := prog_14_method_99_code
def yX12_qIsOn : MethodName := ⟨RX12, "qIsOn", "(I)Z"⟩
abbrev cX12_qDrops : ByteArray := prog_14_method_100_code
def yX12_qDrops : MethodName := ⟨RX12, "qDrops", "()V"⟩
abbrev cX12_qIsBracket : ByteArray := prog_14_method_101_code
def yX12_qIsBracket : MethodName := ⟨RX12, "qIsBracket", "(I)Z"⟩
abbrev cX12_qBracket : ByteArray := prog_14_method_102_code
def yX12_qBracket : MethodName := ⟨RX12, "qBracket", "()I"⟩
abbrev cX12_qDropsToBracket : ByteArray := prog_14_method_103_code
def yX12_qDropsToBracket : MethodName := ⟨RX12, "qDropsToBracket", "()V"⟩
abbrev cX12_qWordHere : ByteArray := prog_14_method_104_code
def yX12_qWordHere : MethodName := ⟨RX12, "qWordHere", "()I"⟩
abbrev cX12_qWordOf : ByteArray := prog_14_method_105_code
def yX12_qWordOf : MethodName := ⟨RX12, "qWordOf", "(II)I"⟩
abbrev cX12_qAsksWord : ByteArray := prog_14_method_106_code
def yX12_qAsksWord : MethodName := ⟨RX12, "qAsksWord", "(I)V"⟩
abbrev cX12_qEndsPart : ByteArray := prog_14_method_107_code
def yX12_qEndsPart : MethodName := ⟨RX12, "qEndsPart", "()V"⟩
abbrev cX12_qPartTold : ByteArray := prog_14_method_108_code
def yX12_qPartTold : MethodName := ⟨RX12, "qPartTold", "()V"⟩
abbrev cX12_qGoesOn : ByteArray := prog_14_method_109_code
def yX12_qGoesOn : MethodName := ⟨RX12, "qGoesOn", "()Z"⟩
abbrev cX12_qSums : ByteArray := prog_14_method_110_code
def yX12_qSums : MethodName := ⟨RX12, "qSums", "()V"⟩
abbrev cX12_qFact : ByteArray := prog_14_method_111_code
def yX12_qFact : MethodName := ⟨RX12, "qFact", "()V"⟩
abbrev cX12_qHasSquare : ByteArray := prog_14_method_112_code
def yX12_qHasSquare : MethodName := ⟨RX12, "qHasSquare", "()Z"⟩
abbrev cX12_qDropsNots : ByteArray := prog_14_method_113_code
def yX12_qDropsNots : MethodName := ⟨RX12, "qDropsNots", "()V"⟩
abbrev cX12_qTest : ByteArray := prog_14_method_114_code
def yX12_qTest : MethodName := ⟨RX12, "qTest", "()V"⟩
abbrev cX12_qGoesOnTest : ByteArray := prog_14_method_115_code
def yX12_qGoesOnTest : MethodName := ⟨RX12, "qGoesOnTest", "()Z"⟩
abbrev cX12_qClip : ByteArray := prog_14_method_116_code
def yX12_qClip : MethodName := ⟨RX12, "qClip", "(J)J"⟩
abbrev cX12_qFloor : ByteArray := prog_14_method_117_code
def yX12_qFloor : MethodName := ⟨RX12, "qFloor", "(JJ)J"⟩
abbrev cX12_qPuts : ByteArray := prog_14_method_118_code
def yX12_qPuts : MethodName := ⟨RX12, "qPuts", "(J)V"⟩
abbrev cX12_qJoins : ByteArray := prog_14_method_119_code
def yX12_qJoins : MethodName := ⟨RX12, "qJoins", "(I)V"⟩
abbrev cX12_qPartOf : ByteArray := prog_14_method_120_code
def yX12_qPartOf : MethodName := ⟨RX12, "qPartOf", "(II)J"⟩
abbrev cX12_qOf : ByteArray := prog_14_method_121_code
def yX12_qOf : MethodName := ⟨RX12, "qOf", "(IJI)J"⟩
abbrev cX12_qTold : ByteArray := prog_14_method_122_code
def yX12_qTold : MethodName := ⟨RX12, "qTold", "(I)J"⟩
abbrev cX12_qKind : ByteArray := prog_14_method_123_code
def yX12_qKind : MethodName := ⟨RX12, "qKind", "()I"⟩
abbrev cX12_qTakes : ByteArray := prog_14_method_124_code
def yX12_qTakes : MethodName := ⟨RX12, "qTakes", "(IJI)V"⟩
abbrev cX12_ask : ByteArray := prog_14_method_125_code
def yX12_ask : MethodName := ⟨RX12, "ask", "()J"⟩
abbrev cX12_checked : ByteArray := prog_14_method_126_code
def yX12_checked : MethodName := ⟨RX12, "checked", "([II)I"⟩
abbrev cX12_writes : ByteArray := prog_14_method_127_code
def yX12_writes : MethodName := ⟨RX12, "writes", "(I)V"⟩
abbrev cX12_image : ByteArray := prog_14_method_128_code
def yX12_image : MethodName := ⟨RX12, "image", "()I"⟩
abbrev cX12_octet : ByteArray := prog_14_method_129_code
def yX12_octet : MethodName := ⟨RX12, "octet", "(I)I"⟩
abbrev cX12_isImage : ByteArray := prog_14_method_130_code
def yX12_isImage : MethodName := ⟨RX12, "isImage", "(I)Z"⟩
abbrev cX12_on : ByteArray := prog_14_method_131_code
def yX12_on : MethodName := ⟨RX12, "on", "()Z"⟩
abbrev cX12_status : ByteArray := prog_14_method_132_code
def yX12_status : MethodName := ⟨RX12, "status", "(I)I"⟩
def RJ6 : String := "java/lang/Integer"
def TJ6 : u_T := fun k => match k with
  | _ => ("", "", "", false)
def tyJ6 : Nat → FieldType := fun k => match k with
  | _ => .int
abbrev wsJ60 : List Cond := u_ws RJ6 TJ6 0
abbrev cJ6_bitCount_0f7a4 : ByteArray := prog_15_method_49_code
def yJ6_bitCount_0f7a4 : MethodName := ⟨RJ6, "bitCount", "(I)I"⟩
def RJ9 : String := "java/lang/Math"
def TJ9 : u_T := fun k => match k with
  | _ => ("", "", "", false)
def tyJ9 : Nat → FieldType := fun k => match k with
  | _ => .int
abbrev wsJ90 : List Cond := u_ws RJ9 TJ9 0
abbrev cJ9_floorDiv_7cf53 : ByteArray := prog_16_method_47_code
def yJ9_floorDiv_7cf53 : MethodName := ⟨RJ9, "floorDiv", "(II)I"⟩
abbrev cJ9_max_7cf53 : ByteArray := prog_16_method_65_code
def yJ9_max_7cf53 : MethodName := ⟨RJ9, "max", "(II)I"⟩
abbrev cJ9_max_f86c9 : ByteArray := prog_16_method_66_code
def yJ9_max_f86c9 : MethodName := ⟨RJ9, "max", "(JJ)J"⟩
abbrev cJ9_min_7cf53 : ByteArray := prog_16_method_69_code
def yJ9_min_7cf53 : MethodName := ⟨RJ9, "min", "(II)I"⟩
abbrev cJ9_min_f86c9 : ByteArray := prog_16_method_70_code
def yJ9_min_f86c9 : MethodName := ⟨RJ9, "min", "(JJ)J"⟩
def RJ0 : String := "java/lang/String"
def TJ0 : u_T := fun k => match k with
  | _ => ("", "", "", false)
def tyJ0 : Nat → FieldType := fun k => match k with
  | _ => .int
abbrev wsJ00 : List Cond := u_ws RJ0 TJ0 0
abbrev cJ0_length_8abf5 : ByteArray := prog_17_method_54_code
def yJ0_length_8abf5 : MethodName := ⟨RJ0, "length", "()I"⟩
abbrev cJ0_charAt_5068e : ByteArray := prog_17_method_56_code
def yJ0_charAt_5068e : MethodName := ⟨RJ0, "charAt", "(I)C"⟩
abbrev cJ0_coder_7d493 : ByteArray := prog_17_method_152_code
def yJ0_coder_7d493 : MethodName := ⟨RJ0, "coder", "()B"⟩
abbrev cJ0_isLatin1_aae02 : ByteArray := prog_17_method_154_code
def yJ0_isLatin1_aae02 : MethodName := ⟨RJ0, "isLatin1", "()Z"⟩
abbrev cJ0_checkIndex_df160 : ByteArray := prog_17_method_155_code
def yJ0_checkIndex_df160 : MethodName := ⟨RJ0, "checkIndex", "(II)V"⟩
def RJ1 : String := "java/lang/StringLatin1"
def TJ1 : u_T := fun k => match k with
  | _ => ("", "", "", false)
def tyJ1 : Nat → FieldType := fun k => match k with
  | _ => .int
abbrev wsJ10 : List Cond := u_ws RJ1 TJ1 0
abbrev cJ1_charAt_3b067 : ByteArray := prog_18_method_2_code
def yJ1_charAt_3b067 : MethodName := ⟨RJ1, "charAt", "([BI)C"⟩
def RJ2 : String := "java/lang/StringUTF16"
def TJ2 : u_T := fun k => match k with
  | _ => ("", "", "", false)
def tyJ2 : Nat → FieldType := fun k => match k with
  | _ => .int
abbrev wsJ20 : List Cond := u_ws RJ2 TJ2 0
abbrev cJ2_getChar_3b067 : ByteArray := prog_19_method_5_code
def yJ2_getChar_3b067 : MethodName := ⟨RJ2, "getChar", "([BI)C"⟩
abbrev cJ2_length_9d52b : ByteArray := prog_19_method_6_code
def yJ2_length_9d52b : MethodName := ⟨RJ2, "length", "([B)I"⟩
abbrev cJ2_charAt_3b067 : ByteArray := prog_19_method_83_code
def yJ2_charAt_3b067 : MethodName := ⟨RJ2, "charAt", "([BI)C"⟩
abbrev cJ2_checkIndex_2214a : ByteArray := prog_19_method_91_code
def yJ2_checkIndex_2214a : MethodName := ⟨RJ2, "checkIndex", "(I[B)V"⟩
def RJ10 : String := "java/lang/System"
def TJ10 : u_T := fun k => match k with
  | _ => ("", "", "", false)
def tyJ10 : Nat → FieldType := fun k => match k with
  | _ => .int
abbrev wsJ100 : List Cond := u_ws RJ10 TJ10 0
def RJ3 : String := "jdk/internal/util/Preconditions"
def TJ3 : u_T := fun k => match k with
  | _ => ("", "", "", false)
def tyJ3 : Nat → FieldType := fun k => match k with
  | _ => .int
abbrev wsJ30 : List Cond := u_ws RJ3 TJ3 0
abbrev cJ3_checkIndex_8e157 : ByteArray := prog_21_method_11_code
def yJ3_checkIndex_8e157 : MethodName := ⟨RJ3, "checkIndex", "(IILjava/util/function/BiFunction;)I"⟩
def RL : String := "CarbonMinistryLaw"
abbrev cL_law : ByteArray := code
abbrev vwCl : List vw_C := [(RX0, TX0, 6), (RX1, TX1, 4), (RX2, TX2, 6), (RX3, TX3, 6), (RX4, TX4, 15), (RX5, TX5, 4), (RX6, TX6, 3), (RX7, TX7, 17), (RX8, TX8, 8), (RX9, TX9, 6), (RX10, TX10, 10), (RX11, TX11, 14), (RX12, TX12, 108)]
